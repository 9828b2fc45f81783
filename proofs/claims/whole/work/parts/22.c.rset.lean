/-! longer, copy -/
theorem zdv_mul {B : Nat} : ∀ (n : Nat) (l : List Nat), l.length ≤ n → zdv B n l = zdv B l.length l * B ^ (n - l.length)
  | 0, [], _ => by simp [zdv]
  | 0, _ :: _, h => by simp at h
  | n + 1, [], _ => by simp [zdv]
  | n + 1, c :: l, h => by
    simp only [List.length_cons] at h
    simp only [zdv, List.length_cons]
    rw [zdv_mul n l (by omega), Nat.add_mul ((c + 1) * _), Nat.mul_assoc, ← Nat.pow_add, show l.length + (n + 1 - (l.length + 1)) = n by omega, show n + 1 - (l.length + 1) = n - l.length by omega]
theorem zdv_dig {B : Nat} (hB : 127 < B) : ∀ (n i : Nat) (l : List Nat), i < n → zrok n l → zdv B n l / B ^ (n - 1 - i) % B = if i < l.length then l.getD i 0 + 1 else 0
  | 0, _, _, h, _ => by omega
  | n + 1, i, [], _, _ => by simp [zdv]
  | n + 1, 0, c :: l, _, h => by
    have hl : zrok n l := ⟨by have := h.1; simp at this; omega, fun x hx => h.2 x (by simp [hx])⟩
    have h1 := zdv_lt hB n l hl
    have h2 := h.2 c (by simp)
    simp only [zdv]
    rw [show n + 1 - 1 - 0 = n by omega, zdivh (Nat.pow_pos (by omega)) h1, Nat.mod_eq_of_lt (by omega), if_pos (by simp)]
    simp
  | n + 1, i + 1, c :: l, hi, h => by
    have hl : zrok n l := ⟨by have := h.1; simp at this; omega, fun x hx => h.2 x (by simp [hx])⟩
    have ih := zdv_dig hB n i l (by omega) hl
    simp only [zdv]
    have e : (c + 1) * B ^ n = ((c + 1) * B ^ i * B) * B ^ (n - 1 - i) := by
      rw [Nat.mul_assoc, Nat.mul_assoc, ← Nat.pow_succ', ← Nat.pow_add]
      congr 2
      omega
    rw [show n + 1 - 1 - (i + 1) = n - 1 - i by omega, e, Nat.mul_comm _ (B ^ (n - 1 - i)), Nat.mul_add_div (Nat.pow_pos (by omega)), Nat.mul_add_mod_self_right, ih]
    simp only [List.length_cons, List.getD_cons_succ]
    by_cases h3 : i < l.length
    · rw [if_pos h3, if_pos (by omega)]
    · rw [if_neg h3, if_neg (by omega)]
theorem zrR_lt {r : List Nat} (h : zrok 8 r) : zrR r < 2 ^ 63 := by
  unfold zrR
  rcases r with _ | ⟨c, l⟩
  · simp [zdv]
  · have hl : zrok 7 l := ⟨by have := h.1; simp at this; omega, fun x hx => h.2 x (by simp [hx])⟩
    have h1 := zdv_lt (B := 256) (by decide) 7 l hl
    have h2 := h.2 c (by simp)
    simp only [zdv]
    simp only [Nat.reducePow] at *
    omega
theorem z256 {i : Nat} (h : i < 8) : 256 ^ (8 - 1 - i) = 2 ^ (56 - 8 * i) := by
  rcases (show i = 0 ∨ i = 1 ∨ i = 2 ∨ i = 3 ∨ i = 4 ∨ i = 5 ∨ i = 6 ∨ i = 7 by omega) with rfl | rfl | rfl | rfl | rfl | rfl | rfl | rfl <;> decide
theorem zrR_dig {r : List Nat} (h : zrok 8 r) {i : Nat} (hi : i < 8) : zlsr (lN (zrR r)) (nI (56 - 8 * i)) &&& lN 255 = lN (if i < r.length then r.getD i 0 + 1 else 0) := by
  have h1 := zrR_lt h
  rw [zlsr_N h1 (by omega), show (255 : Nat) = 2 ^ 8 - 1 from rfl, wb_mask (Nat.lt_of_le_of_lt (Nat.div_le_self _ _) (by omega)) (by decide), ← z256 hi, show 2 ^ 8 = 256 from rfl]
  unfold zrR
  rw [zdv_dig (by decide) 8 i r hi h]
set_option maxHeartbeats 1000000 in
theorem e_rlonger {d c : Nat} {r : List Nat} {σ : zH} (hr : zrok 8 r) (hr8 : r.length < 8) (hc : c ≤ 125) {Q : Option Value → zH → Prop} (hQ : Q (some (.long (lN (zrR (r ++ [c]))))) σ) : zM d 186 [.long (lN (zrR r)), .int (nI c)] σ Q := by
  have hfin : lN (zrR r) ||| zlsl ((nI c + nI 1).toInt64) (nI (56 - 8 * r.length)) = lN (zrR (r ++ [c])) := by
    have h1 := zrR_lt hr
    have h2 := zrR_lt (r := r ++ [c]) ⟨by simp; omega, fun x hx => by
      rcases List.mem_append.mp hx with hx | hx
      · exact hr.2 x hx
      · simp only [List.mem_singleton] at hx; omega⟩
    have e1 : zrR (r ++ [c]) = zrR r + (c + 1) * 2 ^ (56 - 8 * r.length) := by
      unfold zrR
      rw [zdv_app c 8 r hr8, z256 hr8]
    have e2 : zrR r = zdv 256 r.length r * 2 ^ (56 - 8 * r.length + 8) := by
      unfold zrR
      rw [zdv_mul 8 r hr.1, show (256 : Nat) = 2 ^ 8 from rfl, ← Nat.pow_mul, show 8 * (8 - r.length) = 56 - 8 * r.length + 8 by omega]
    rw [nI_add, nI_l (by omega), zlsl_N _ (by omega), wb_or (by omega) (by omega), e1]
    have hz := zor (hi := zdv 256 r.length r) (lo := 0) (x := c + 1) (s := 56 - 8 * r.length) (w := 8) (Nat.two_pow_pos _) (by omega)
    rw [Nat.add_zero, Nat.add_zero, ← e2] at hz
    rw [hz, Nat.add_zero]
  have loop : ∀ (m i : Nat), i + m = r.length → zW d 186 3 [(0, .long (lN (zrR r))), (2, .int (nI c)), (3, .int (nI (56 - 8 * i)))] [] σ Q := by
    intro m
    induction m with
    | zero =>
      intro i hi
      have hi' : i = r.length := by omega
      subst hi'
      refine b186_3 ?_
      rw [zrR_dig hr hr8, if_neg (Nat.lt_irrefl r.length), if_pos ((lg_cmp_eq _ _).mpr rfl), hfin]
      exact hQ
    | succ m ih =>
      intro i hi
      refine b186_3 ?_
      rw [zrR_dig hr (by omega), if_pos (show i < r.length by omega), if_neg (fun q => ?_)]
      · have := ih (i + 1) (by omega)
        rw [show nI (56 - 8 * i) + (-8) = nI (56 - 8 * (i + 1)) by
          rw [show (-8 : Int32) = - nI 8 from rfl, ← Int32.sub_eq_add_neg, pk_sub (by omega)]
          congr 1]
        exact this
      · have h1 := (lg_cmp_eq _ _).mp q
        have h2 := hr.2 _ (zgd_mem (l := r) (i := i) (by omega))
        have := (pk_lEQ (by omega) (by omega)).mp h1
        omega
  refine b186 ?_
  exact loop r.length 0 (by omega)
set_option maxHeartbeats 2000000 in
theorem e_rcopy {d s : Nat} {σ : zH} (hM : zMb σ) (hs : s < 11) {wy rw : Nat → Int64} {ns sl : Nat → Int32} {lg fr : Int32} {L : List (Nat × Nat)} (hS : zGS wy rw ns 11 L) {Q : Option Value → zH → Prop} (hQ : ∀ wy' rw', zGS wy' rw' (zu ns s (nI L.length)) s L → (∀ j, (j < 3001 * s ∨ 3001 * s + 3001 ≤ j) → wy' j = wy j ∧ rw' j = rw j) → Q none (zGa σ wy' rw' (zu ns s (nI L.length)) sl lg fr)) : zM d 189 [.ref 160, .int (nI 11), .int (nI s)] (zGa σ wy rw ns sl lg fr) Q := by
  have ⟨mK0, mQ1, mK1, mN1, mQ6, mK6, mN6, mQ7, mK7, mN7, mQ8, mK8, mN8, mQ9, mK9, mN9, mQ10, mK10, mN10, mQ11, mK11, mN11, mQ21, mK21, mN21, mQ22, mK22, mN22, mQ23, mK23, mN23, mQ24, mK24, mN24, mQ25, mK25, mN25, mQ26, mK26, mN26, mQ27, mK27, mN27, mQ28, mK28, mN28, mQ32, mK32, mN32, mQ33, mK33, mN33, mQ34, mK34, mN34, mQ35, mK35, mN35, mQ40, mK40, mN40, mQ41, mK41, mN41, mQ42, mK42, mN42, mQ43, mK43, mN43, mQ44, mK44, mN44, mQ45, mK45, mN45, mQ62, mK62, mN62⟩ := hM
  obtain ⟨g1, g2, g4, g5⟩ := hS
  have hn11 : (zu ns s (nI L.length)) 11 = nI L.length := by rw [zu_ne _ _ (by omega)]; exact g1
  have loop : ∀ (m i : Nat), i + m = L.length → ∀ (f g : Nat → Int64), (∀ j, j < i → f (3001 * s + j) = lN (L.getD j (0, 0)).1 ∧ g (3001 * s + j) = lN (L.getD j (0, 0)).2) → (∀ j, (j < 3001 * s ∨ 3001 * s + 3001 ≤ j) → f j = wy j ∧ g j = rw j) → zW d 189 14 [(0, .ref 160), (1, .int (nI 11)), (2, .int (nI s)), (3, .int (nI i))] [] (zGa σ f g (zu ns s (nI L.length)) sl lg fr) Q := by
    intro m
    induction m with
    | zero =>
      intro i hi f g hA hC
      refine b189_14 ?_
      (try simp (disch := omega) only [zh, zh_st, ↓reduceIte, Nat.add_left_cancel_iff, Nat.reduceEqDiff, Nat.add_sub_cancel, Nat.reduceAdd, Nat.reduceSub, Nat.reduceMul, ← nI_0, zu_same, zu_ne, zoi, zoi_m1, nI_add, pk_mul, pk_sub, zcl, nI_leI, nI_ltI, nI_eq, ite_not, reduceCtorEq, zqi_s, zql_s, zqv_s, true_and, and_true, vp_in_nI, if_pos, if_neg, not_true_eq_false, not_false_eq_true, or_true, true_or, or_false, false_or, and_self, zGa_k, zGa_r, zGa_wy, zGa_rw, zGa_ns, zGa_sl, zGa_fr, zGa_lg, mK0, mQ1, mK1, mN1, mQ6, mK6, mN6, mQ7, mK7, mN7, mQ8, mK8, mN8, mQ9, mK9, mN9, mQ10, mK10, mN10, mQ11, mK11, mN11, mQ21, mK21, mN21, mQ22, mK22, mN22, mQ23, mK23, mN23, mQ24, mK24, mN24, mQ25, mK25, mN25, mQ26, mK26, mN26, mQ27, mK27, mN27, mQ28, mK28, mN28, mQ32, mK32, mN32, mQ33, mK33, mN33, mQ34, mK34, mN34, mQ35, mK35, mN35, mQ40, mK40, mN40, mQ41, mK41, mN41, mQ42, mK42, mN42, mQ43, mK43, mN43, mQ44, mK44, mN44, mQ45, mK45, mN45, mQ62, mK62, mN62, hn11, g1])
      exact hQ f g ⟨zu_same _ _ _, g2, g4, fun j hj => hA j (by omega)⟩ hC
    | succ m ih =>
      intro i hi f g hA hC
      obtain ⟨e1, e2⟩ := g5 i (by omega)
      rw [show 3001 * 11 + i = 33011 + i by omega] at e1 e2
      have c1 := (hC (33011 + i) (by omega)).1
      have c2 := (hC (33011 + i) (by omega)).2
      rw [e1] at c1
      rw [e2] at c2
      refine b189_14 ?_
      (try simp (disch := omega) only [zh, zh_st, ↓reduceIte, Nat.add_left_cancel_iff, Nat.reduceEqDiff, Nat.add_sub_cancel, Nat.reduceAdd, Nat.reduceSub, Nat.reduceMul, ← nI_0, zu_same, zu_ne, zoi, zoi_m1, nI_add, pk_mul, pk_sub, zcl, nI_leI, nI_ltI, nI_eq, ite_not, reduceCtorEq, zqi_s, zql_s, zqv_s, true_and, and_true, vp_in_nI, if_pos, if_neg, not_true_eq_false, not_false_eq_true, or_true, true_or, or_false, false_or, and_self, zGa_k, zGa_r, zGa_wy, zGa_rw, zGa_ns, zGa_sl, zGa_fr, zGa_lg, mK0, mQ1, mK1, mN1, mQ6, mK6, mN6, mQ7, mK7, mN7, mQ8, mK8, mN8, mQ9, mK9, mN9, mQ10, mK10, mN10, mQ11, mK11, mN11, mQ21, mK21, mN21, mQ22, mK22, mN22, mQ23, mK23, mN23, mQ24, mK24, mN24, mQ25, mK25, mN25, mQ26, mK26, mN26, mQ27, mK27, mN27, mQ28, mK28, mN28, mQ32, mK32, mN32, mQ33, mK33, mN33, mQ34, mK34, mN34, mQ35, mK35, mN35, mQ40, mK40, mN40, mQ41, mK41, mN41, mQ42, mK42, mN42, mQ43, mK43, mN43, mQ44, mK44, mN44, mQ45, mK45, mN45, mQ62, mK62, mN62, hn11, g1, c1, c2])
      refine ih (i + 1) (by omega) _ _ (fun j hj => ?_) (fun j hj => ?_)
      · by_cases e : j = i
        · rw [e, zu_same, zu_same]
          exact ⟨rfl, rfl⟩
        · rw [zu_ne _ _ (by omega), zu_ne _ _ (by omega)]
          exact hA j (by omega)
      · rw [zu_ne _ _ (by omega), zu_ne _ _ (by omega)]
        exact hC j hj
  refine b189 ?_
  (try simp (disch := omega) only [zh, zh_st, ↓reduceIte, Nat.add_left_cancel_iff, Nat.reduceEqDiff, Nat.add_sub_cancel, Nat.reduceAdd, Nat.reduceSub, Nat.reduceMul, ← nI_0, zu_same, zu_ne, zoi, zoi_m1, nI_add, pk_mul, pk_sub, zcl, nI_leI, nI_ltI, nI_eq, ite_not, reduceCtorEq, zqi_s, zql_s, zqv_s, true_and, and_true, vp_in_nI, if_pos, if_neg, not_true_eq_false, not_false_eq_true, or_true, true_or, or_false, false_or, and_self, zGa_k, zGa_r, zGa_wy, zGa_rw, zGa_ns, zGa_sl, zGa_fr, zGa_lg, mK0, mQ1, mK1, mN1, mQ6, mK6, mN6, mQ7, mK7, mN7, mQ8, mK8, mN8, mQ9, mK9, mN9, mQ10, mK10, mN10, mQ11, mK11, mN11, mQ21, mK21, mN21, mQ22, mK22, mN22, mQ23, mK23, mN23, mQ24, mK24, mN24, mQ25, mK25, mN25, mQ26, mK26, mN26, mQ27, mK27, mN27, mQ28, mK28, mN28, mQ32, mK32, mN32, mQ33, mK33, mN33, mQ34, mK34, mN34, mQ35, mK35, mN35, mQ40, mK40, mN40, mQ41, mK41, mN41, mQ42, mK42, mN42, mQ43, mK43, mN43, mQ44, mK44, mN44, mQ45, mK45, mN45, mQ62, mK62, mN62, g1])
  exact loop L.length 0 (by omega) wy rw (fun j hj => absurd hj (Nat.not_lt_zero j)) (fun _ _ => ⟨rfl, rfl⟩)
