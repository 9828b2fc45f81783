/-! told, untold, lay of the reference -/
def zdm (v : Nat) : List Nat → Nat
  | [] => v
  | c :: l => zdm (v * 32 + c) l
theorem zdm_app (v : Nat) (a b : List Nat) : zdm v (a ++ b) = zdm (zdm v a) b := by
  induction a generalizing v with
  | nil => rfl
  | cons c l ih => exact ih _
theorem zdm_0 (v : Nat) (l : List Nat) : zdm v l = v * 32 ^ l.length + zdm 0 l := by
  induction l generalizing v with
  | nil => simp [zdm]
  | cons c l ih =>
    rw [zdm, ih, zdm, ih (0 * 32 + c), List.length_cons, Nat.pow_succ, Nat.add_mul, Nat.zero_mul, Nat.zero_add, Nat.mul_assoc, Nat.mul_comm 32]
    omega
theorem zdm_lt {l : List Nat} (h : ∀ c ∈ l, c < 32) : zdm 0 l < 32 ^ l.length := by
  induction l with
  | nil => simp [zdm]
  | cons c l ih =>
    have h1 := h c (by simp)
    have h2 := ih (fun x hx => h x (by simp [hx]))
    rw [zdm, zdm_0, List.length_cons, Nat.pow_succ, Nat.zero_mul, Nat.zero_add, Nat.mul_comm (32 ^ l.length)]
    have : (c + 1) * 32 ^ l.length ≤ 32 * 32 ^ l.length := Nat.mul_le_mul_right _ (by omega)
    rw [Nat.add_mul] at this
    omega
def zsqR (P : Nat → List Nat) : List Nat := P 0 ++ (P 1 ++ (P 2 ++ P 3))
def zhdR (P : Nat → List Nat) (mk : Nat) : Nat := ((mk * 16 + (P 0).length) * 16 + (P 1).length) * 16 + (P 2).length
def zkRP (P : Nat → List Nat) (mk : Nat) : Nat := zdm (zhdR P mk) (zsqR P)
theorem zsqR_len (P : Nat → List Nat) : (zsqR P).length = zTot P := by
  unfold zsqR zTot
  simp only [List.length_append]
  omega
theorem zsqR_32 {P : Nat → List Nat} (h32 : ∀ p < 4, ∀ c ∈ P p, c < 32) : ∀ c ∈ zsqR P, c < 32 := by
  intro c hc
  unfold zsqR at hc
  simp only [List.mem_append] at hc
  rcases hc with h | h | h | h
  · exact h32 0 (by decide) c h
  · exact h32 1 (by decide) c h
  · exact h32 2 (by decide) c h
  · exact h32 3 (by decide) c h
theorem zor5 (v c : Nat) (hc : c < 32) : v * 2 ^ 5 ||| c = v * 32 + c := by
  have := Nat.shiftLeft_add_eq_or_of_lt (i := 5) hc v
  rw [Nat.shiftLeft_eq] at this
  exact this.symm
/-- a number so far is small while at most nine cards are in it -/
theorem zdm_lt2 {v : Nat} {l : List Nat} (hv : v < 2 ^ 16) (h : ∀ c ∈ l, c < 32) (hl : l.length ≤ 9) : zdm v l < 2 ^ 61 := by
  have h1 := zdm_lt h
  rw [zdm_0]
  have h2 : 32 ^ l.length ≤ 2 ^ 45 := by rw [zp32]; exact Nat.pow_le_pow_right (by decide) (by omega)
  have h3 : (v + 1) * 32 ^ l.length ≤ 2 ^ 16 * 2 ^ 45 := Nat.mul_le_mul (by omega) h2
  rw [Nat.add_mul] at h3
  have h4 : 2 ^ 16 * 2 ^ 45 = 2 ^ 61 := by rw [← Nat.pow_add]
  omega
set_option maxHeartbeats 2000000 in
theorem l_told {d p v : Nat} {σ : zH} (hM : zMb σ) {pl mn hd rs : Nat → Int32} {mk : Int32} {P : Nat → List Nat} (hR : zRR pl mn P) (hp : p < 4) (h32 : ∀ c ∈ P p, c < 32) (hv : v < 2 ^ 16) {Q : Option Value → zH → Prop} : ∀ (m i : Nat) (pre : List Nat), i + m = (P p).length → pre.length + m ≤ 9 → (∀ c ∈ pre, c < 32) → zW d 137 44 [(0, .ref 160), (1, .long (lN (zdm v (pre ++ (P p).drop i)))), (3, .int (nI (p + 1)))] [] (zRa σ pl mn hd rs mk) Q → zW d 137 52 [(0, .ref 160), (1, .long (lN (zdm v pre))), (3, .int (nI p)), (4, .int (nI i))] [] (zRa σ pl mn hd rs mk) Q := by
  have ⟨mK0, mQ1, mK1, mN1, mQ6, mK6, mN6, mQ7, mK7, mN7, mQ8, mK8, mN8, mQ9, mK9, mN9, mQ10, mK10, mN10, mQ11, mK11, mN11, mQ21, mK21, mN21, mQ22, mK22, mN22, mQ23, mK23, mN23, mQ24, mK24, mN24, mQ25, mK25, mN25, mQ26, mK26, mN26, mQ27, mK27, mN27, mQ28, mK28, mN28, mQ32, mK32, mN32, mQ33, mK33, mN33, mQ34, mK34, mN34, mQ35, mK35, mN35, mQ40, mK40, mN40, mQ41, mK41, mN41, mQ42, mK42, mN42, mQ43, mK43, mN43, mQ44, mK44, mN44, mQ45, mK45, mN45, mQ62, mK62, mN62⟩ := hM
  obtain ⟨a1, a2, a3⟩ := hR p hp
  intro m
  induction m with
  | zero =>
    intro i pre hi h9 hpre hQ
    rw [List.drop_eq_nil_of_le (by omega), List.append_nil] at hQ
    refine b137_52 ?_
    (try simp (disch := omega) only [zh, zh_st, ↓reduceIte, Nat.add_left_cancel_iff, Nat.reduceEqDiff, Nat.add_sub_cancel, Nat.reduceAdd, Nat.reduceSub, Nat.reduceMul, ← nI_0, zu_same, zu_ne, zoi, zoi_m1, nI_add, pk_mul, pk_sub, zcl, nI_leI, nI_ltI, nI_eq, ite_not, reduceCtorEq, zqi_s, zql_s, zqv_s, true_and, and_true, vp_in_nI, if_pos, if_neg, not_true_eq_false, not_false_eq_true, or_true, true_or, or_false, false_or, and_self, zRa_k, zRa_r, zRa_pl, zRa_mn, zRa_hd, zRa_rs, zRa_mk, mK0, mQ1, mK1, mN1, mQ6, mK6, mN6, mQ7, mK7, mN7, mQ8, mK8, mN8, mQ9, mK9, mN9, mQ10, mK10, mN10, mQ11, mK11, mN11, mQ21, mK21, mN21, mQ22, mK22, mN22, mQ23, mK23, mN23, mQ24, mK24, mN24, mQ25, mK25, mN25, mQ26, mK26, mN26, mQ27, mK27, mN27, mQ28, mK28, mN28, mQ32, mK32, mN32, mQ33, mK33, mN33, mQ34, mK34, mN34, mQ35, mK35, mN35, mQ40, mK40, mN40, mQ41, mK41, mN41, mQ42, mK42, mN42, mQ43, mK43, mN43, mQ44, mK44, mN44, mQ45, mK45, mN45, mQ62, mK62, mN62, a1])
    exact hQ
  | succ m ih =>
    intro i pre hi h9 hpre hQ
    have e1 := a3 i (by omega)
    have hc := h32 _ (zgd_mem (l := P p) (i := i) (by omega))
    have hlt := zdm_lt2 (l := pre ++ [(P p).getD i 0]) hv (fun c hc' => by
      rcases List.mem_append.mp hc' with h | h
      · exact hpre c h
      · simp only [List.mem_singleton] at h; omega) (by simp; omega)
    rw [zdm_app, zdm, zdm] at hlt
    rw [zgd_drop (by omega)] at hQ
    have e2 : lN (zdm v pre * 2 ^ 5) ||| lN ((P p).getD i 0) = lN (zdm v (pre ++ [(P p).getD i 0])) := by
      rw [wb_or (by omega) (by omega), zor5 _ _ hc, zdm_app]
      rfl
    refine b137_52 ?_
    (try simp (disch := omega) only [zh, zh_st, ↓reduceIte, Nat.add_left_cancel_iff, Nat.reduceEqDiff, Nat.add_sub_cancel, Nat.reduceAdd, Nat.reduceSub, Nat.reduceMul, ← nI_0, zu_same, zu_ne, zoi, zoi_m1, nI_add, pk_mul, pk_sub, zcl, nI_leI, nI_ltI, nI_eq, ite_not, reduceCtorEq, zqi_s, zql_s, zqv_s, true_and, and_true, vp_in_nI, if_pos, if_neg, not_true_eq_false, not_false_eq_true, or_true, true_or, or_false, false_or, and_self, zRa_k, zRa_r, zRa_pl, zRa_mn, zRa_hd, zRa_rs, zRa_mk, mK0, mQ1, mK1, mN1, mQ6, mK6, mN6, mQ7, mK7, mN7, mQ8, mK8, mN8, mQ9, mK9, mN9, mQ10, mK10, mN10, mQ11, mK11, mN11, mQ21, mK21, mN21, mQ22, mK22, mN22, mQ23, mK23, mN23, mQ24, mK24, mN24, mQ25, mK25, mN25, mQ26, mK26, mN26, mQ27, mK27, mN27, mQ28, mK28, mN28, mQ32, mK32, mN32, mQ33, mK33, mN33, mQ34, mK34, mN34, mQ35, mK35, mN35, mQ40, mK40, mN40, mQ41, mK41, mN41, mQ42, mK42, mN42, mQ43, mK43, mN43, mQ44, mK44, mN44, mQ45, mK45, mN45, mQ62, mK62, mN62, a1, e1, zlsl_N, nI_l])
    rw [e2]
    refine ih (i + 1) (pre ++ [(P p).getD i 0]) (by omega) (by simp; omega) (fun c hc' => ?_) ?_
    · rcases List.mem_append.mp hc' with h | h
      · exact hpre c h
      · simp only [List.mem_singleton] at h; omega
    · rw [List.append_assoc]
      exact hQ
theorem zhdR_lt {n : Nat} {P : Nat → List Nat} {mk : Nat} (hV : zVP n P mk) : zhdR P mk < 2 ^ 16 := by
  have h9 := zVP_9 hV
  have h0 := h9 0 (by decide)
  have h1 := h9 1 (by decide)
  have h2 := h9 2 (by decide)
  have := hV.2.2.2
  unfold zhdR
  omega
set_option maxHeartbeats 2000000 in
theorem e_told {d n mk : Nat} {σ : zH} (hM : zMb σ) {pl mn hd rs : Nat → Int32} {P : Nat → List Nat} (hR : zRR pl mn P) (hV : zVP n P mk) {Q : Option Value → zH → Prop} (hQ : Q (some (.long (lN (zkRP P mk)))) (zRa σ pl mn hd rs (nI mk))) : zM d 137 [.ref 160] (zRa σ pl mn hd rs (nI mk)) Q := by
  have ⟨mK0, mQ1, mK1, mN1, mQ6, mK6, mN6, mQ7, mK7, mN7, mQ8, mK8, mN8, mQ9, mK9, mN9, mQ10, mK10, mN10, mQ11, mK11, mN11, mQ21, mK21, mN21, mQ22, mK22, mN22, mQ23, mK23, mN23, mQ24, mK24, mN24, mQ25, mK25, mN25, mQ26, mK26, mN26, mQ27, mK27, mN27, mQ28, mK28, mN28, mQ32, mK32, mN32, mQ33, mK33, mN33, mQ34, mK34, mN34, mQ35, mK35, mN35, mQ40, mK40, mN40, mQ41, mK41, mN41, mQ42, mK42, mN42, mQ43, mK43, mN43, mQ44, mK44, mN44, mQ45, mK45, mN45, mQ62, mK62, mN62⟩ := hM
  have h9 := zVP_9 hV
  have h0 := h9 0 (by decide)
  have h1 := h9 1 (by decide)
  have h2 := h9 2 (by decide)
  have h3 := h9 3 (by decide)
  have ht := hV.1
  have hn := hV.2.1
  have hm := hV.2.2.2
  have h32 := zVP_32 hV
  have r0 := (hR 0 (by decide)).1
  have r1 := (hR 1 (by decide)).1
  have r2 := (hR 2 (by decide)).1
  have hv := zhdR_lt hV
  unfold zTot at ht
  refine b137 ?_
  (try simp (disch := omega) only [zh, zh_st, ↓reduceIte, Nat.add_left_cancel_iff, Nat.reduceEqDiff, Nat.add_sub_cancel, Nat.reduceAdd, Nat.reduceSub, Nat.reduceMul, ← nI_0, zu_same, zu_ne, zoi, zoi_m1, nI_add, pk_mul, pk_sub, zcl, nI_leI, nI_ltI, nI_eq, ite_not, reduceCtorEq, zqi_s, zql_s, zqv_s, true_and, and_true, vp_in_nI, if_pos, if_neg, not_true_eq_false, not_false_eq_true, or_true, true_or, or_false, false_or, and_self, zRa_k, zRa_r, zRa_pl, zRa_mn, zRa_hd, zRa_rs, zRa_mk, mK0, mQ1, mK1, mN1, mQ6, mK6, mN6, mQ7, mK7, mN7, mQ8, mK8, mN8, mQ9, mK9, mN9, mQ10, mK10, mN10, mQ11, mK11, mN11, mQ21, mK21, mN21, mQ22, mK22, mN22, mQ23, mK23, mN23, mQ24, mK24, mN24, mQ25, mK25, mN25, mQ26, mK26, mN26, mQ27, mK27, mN27, mQ28, mK28, mN28, mQ32, mK32, mN32, mQ33, mK33, mN33, mQ34, mK34, mN34, mQ35, mK35, mN35, mQ40, mK40, mN40, mQ41, mK41, mN41, mQ42, mK42, mN42, mQ43, mK43, mN43, mQ44, mK44, mN44, mQ45, mK45, mN45, mQ62, mK62, mN62, r0, r1, r2, nI_l, lN_mul, lN_add])
  rw [show ((mk * 16 + (P 0).length) * 16 + (P 1).length) * 16 + (P 2).length = zdm (zhdR P mk) [] from rfl]
  refine b137_44 ?_
  (try simp (disch := omega) only [zh, zh_st, ↓reduceIte, Nat.add_left_cancel_iff, Nat.reduceEqDiff, Nat.add_sub_cancel, Nat.reduceAdd, Nat.reduceSub, Nat.reduceMul, ← nI_0, zu_same, zu_ne, zoi, zoi_m1, nI_add, pk_mul, pk_sub, zcl, nI_leI, nI_ltI, nI_eq, ite_not, reduceCtorEq, zqi_s, zql_s, zqv_s, true_and, and_true, vp_in_nI, if_pos, if_neg, not_true_eq_false, not_false_eq_true, or_true, true_or, or_false, false_or, and_self, ])
  refine l_told hM hR (by decide) (h32 0 (by decide)) hv (P 0).length 0 [] (by omega) (by simp; omega) (by simp) ?_
  refine b137_44 ?_
  (try simp (disch := omega) only [zh, zh_st, ↓reduceIte, Nat.add_left_cancel_iff, Nat.reduceEqDiff, Nat.add_sub_cancel, Nat.reduceAdd, Nat.reduceSub, Nat.reduceMul, ← nI_0, zu_same, zu_ne, zoi, zoi_m1, nI_add, pk_mul, pk_sub, zcl, nI_leI, nI_ltI, nI_eq, ite_not, reduceCtorEq, zqi_s, zql_s, zqv_s, true_and, and_true, vp_in_nI, if_pos, if_neg, not_true_eq_false, not_false_eq_true, or_true, true_or, or_false, false_or, and_self, List.drop_zero, List.nil_append])
  refine l_told hM hR (by decide) (h32 1 (by decide)) hv (P 1).length 0 (P 0) (by omega) (by omega) (h32 0 (by decide)) ?_
  refine b137_44 ?_
  (try simp (disch := omega) only [zh, zh_st, ↓reduceIte, Nat.add_left_cancel_iff, Nat.reduceEqDiff, Nat.add_sub_cancel, Nat.reduceAdd, Nat.reduceSub, Nat.reduceMul, ← nI_0, zu_same, zu_ne, zoi, zoi_m1, nI_add, pk_mul, pk_sub, zcl, nI_leI, nI_ltI, nI_eq, ite_not, reduceCtorEq, zqi_s, zql_s, zqv_s, true_and, and_true, vp_in_nI, if_pos, if_neg, not_true_eq_false, not_false_eq_true, or_true, true_or, or_false, false_or, and_self, List.drop_zero])
  have m1 : ∀ c ∈ P 0 ++ P 1, c < 32 := fun c hc => (List.mem_append.mp hc).elim (h32 0 (by decide) c) (h32 1 (by decide) c)
  refine l_told hM hR (by decide) (h32 2 (by decide)) hv (P 2).length 0 (P 0 ++ P 1) (by omega) (by rw [List.length_append]; omega) m1 ?_
  refine b137_44 ?_
  (try simp (disch := omega) only [zh, zh_st, ↓reduceIte, Nat.add_left_cancel_iff, Nat.reduceEqDiff, Nat.add_sub_cancel, Nat.reduceAdd, Nat.reduceSub, Nat.reduceMul, ← nI_0, zu_same, zu_ne, zoi, zoi_m1, nI_add, pk_mul, pk_sub, zcl, nI_leI, nI_ltI, nI_eq, ite_not, reduceCtorEq, zqi_s, zql_s, zqv_s, true_and, and_true, vp_in_nI, if_pos, if_neg, not_true_eq_false, not_false_eq_true, or_true, true_or, or_false, false_or, and_self, List.drop_zero])
  refine l_told hM hR (by decide) (h32 3 (by decide)) hv (P 3).length 0 (P 0 ++ P 1 ++ P 2) (by omega) (by rw [List.length_append, List.length_append]; omega) (fun c hc => (List.mem_append.mp hc).elim (m1 c) (h32 2 (by decide) c)) ?_
  refine b137_44 ?_
  (try simp (disch := omega) only [zh, zh_st, ↓reduceIte, Nat.add_left_cancel_iff, Nat.reduceEqDiff, Nat.add_sub_cancel, Nat.reduceAdd, Nat.reduceSub, Nat.reduceMul, ← nI_0, zu_same, zu_ne, zoi, zoi_m1, nI_add, pk_mul, pk_sub, zcl, nI_leI, nI_ltI, nI_eq, ite_not, reduceCtorEq, zqi_s, zql_s, zqv_s, true_and, and_true, vp_in_nI, if_pos, if_neg, not_true_eq_false, not_false_eq_true, or_true, true_or, or_false, false_or, and_self, List.drop_zero])
  rw [show zdm (zhdR P mk) (P 0 ++ P 1 ++ P 2 ++ P 3) = zkRP P mk by unfold zkRP zsqR; rw [List.append_assoc, List.append_assoc]]
  exact hQ

theorem zdm_get {v : Nat} (l1 : List Nat) (c : Nat) (l2 : List Nat) (hc : c < 32) (h2 : ∀ x ∈ l2, x < 32) : zdm v (l1 ++ c :: l2) / 2 ^ (5 * l2.length) % 32 = c := by
  have h := zdm_lt h2
  rw [zdm_app, zdm, zdm_0, ← zp32]
  have hp : 0 < 32 ^ l2.length := Nat.pow_pos (by decide)
  rw [Nat.mul_comm _ (32 ^ l2.length), Nat.mul_add_div hp, Nat.div_eq_of_lt h]
  omega
theorem znI_m5 (a : Nat) : nI (a + 5) + (-5) = nI a := by
  rw [show (-5 : Int32) = - nI 5 from rfl, ← Int32.sub_eq_add_neg, pk_sub (by omega)]
  rfl
set_option maxHeartbeats 2000000 in
theorem l_untold {d p X v : Nat} {σ : zH} (hM : zMb σ) {mn hd rs : Nat → Int32} {mk : Int32} {l : List Nat} (hp : p < 4) (hm : mn p = nI l.length) (hl9 : l.length ≤ 9) (hX : X < 2 ^ 63) {Q : Option Value → zH → Prop} : ∀ (m i : Nat) (pre suf : List Nat) (pl : Nat → Int32), i + m = l.length → zdm v (pre ++ (l.drop i ++ suf)) = X → m + suf.length ≤ 9 → (∀ c ∈ l, c < 32) → (∀ c ∈ suf, c < 32) → (∀ j, j < i → pl (10 * p + j) = nI (l.getD j 0)) → (∀ pl', (∀ j, j < l.length → pl' (10 * p + j) = nI (l.getD j 0)) → (∀ k, (k < 10 * p ∨ 10 * p + 10 ≤ k) → pl' k = pl k) → zW d 138 101 [(0, .ref 160), (1, .long (lN X)), (5, .int (nI (5 * suf.length))), (6, .int (nI (p + 1)))] [] (zRa σ pl' mn hd rs mk) Q) → zW d 138 110 [(0, .ref 160), (1, .long (lN X)), (5, .int (nI (5 * (m + suf.length)))), (6, .int (nI p)), (7, .int (nI i))] [] (zRa σ pl mn hd rs mk) Q := by
  have ⟨mK0, mQ1, mK1, mN1, mQ6, mK6, mN6, mQ7, mK7, mN7, mQ8, mK8, mN8, mQ9, mK9, mN9, mQ10, mK10, mN10, mQ11, mK11, mN11, mQ21, mK21, mN21, mQ22, mK22, mN22, mQ23, mK23, mN23, mQ24, mK24, mN24, mQ25, mK25, mN25, mQ26, mK26, mN26, mQ27, mK27, mN27, mQ28, mK28, mN28, mQ32, mK32, mN32, mQ33, mK33, mN33, mQ34, mK34, mN34, mQ35, mK35, mN35, mQ40, mK40, mN40, mQ41, mK41, mN41, mQ42, mK42, mN42, mQ43, mK43, mN43, mQ44, mK44, mN44, mQ45, mK45, mN45, mQ62, mK62, mN62⟩ := hM
  intro m
  induction m with
  | zero =>
    intro i pre suf pl hi hz h9 h1 h2 hA hQ
    refine b138_110 ?_
    (try simp (disch := omega) only [zh, zh_st, ↓reduceIte, Nat.add_left_cancel_iff, Nat.reduceEqDiff, Nat.add_sub_cancel, Nat.reduceAdd, Nat.reduceSub, Nat.reduceMul, ← nI_0, zu_same, zu_ne, zoi, zoi_m1, nI_add, pk_mul, pk_sub, zcl, nI_leI, nI_ltI, nI_eq, ite_not, reduceCtorEq, zqi_s, zql_s, zqv_s, true_and, and_true, vp_in_nI, if_pos, if_neg, not_true_eq_false, not_false_eq_true, or_true, true_or, or_false, false_or, and_self, zRa_k, zRa_r, zRa_pl, zRa_mn, zRa_hd, zRa_rs, zRa_mk, mK0, mQ1, mK1, mN1, mQ6, mK6, mN6, mQ7, mK7, mN7, mQ8, mK8, mN8, mQ9, mK9, mN9, mQ10, mK10, mN10, mQ11, mK11, mN11, mQ21, mK21, mN21, mQ22, mK22, mN22, mQ23, mK23, mN23, mQ24, mK24, mN24, mQ25, mK25, mN25, mQ26, mK26, mN26, mQ27, mK27, mN27, mQ28, mK28, mN28, mQ32, mK32, mN32, mQ33, mK33, mN33, mQ34, mK34, mN34, mQ35, mK35, mN35, mQ40, mK40, mN40, mQ41, mK41, mN41, mQ42, mK42, mN42, mQ43, mK43, mN43, mQ44, mK44, mN44, mQ45, mK45, mN45, mQ62, mK62, mN62, hm])
    rw [Nat.zero_add]
    exact hQ pl (fun j hj => hA j (by omega)) (fun _ _ => rfl)
  | succ m ih =>
    intro i pre suf pl hi hz h9 h1 h2 hA hQ
    have hc := h1 _ (zgd_mem (l := l) (i := i) (by omega))
    have hdr : ∀ x ∈ l.drop (i + 1) ++ suf, x < 32 := fun x hx => (List.mem_append.mp hx).elim (fun h => h1 x (List.mem_of_mem_drop h)) (h2 x)
    have hlen : (l.drop (i + 1) ++ suf).length = m + suf.length := by rw [List.length_append, List.length_drop]; omega
    rw [zgd_drop (by omega)] at hz
    have hg := zdm_get (v := v) pre (l.getD i 0) (l.drop (i + 1) ++ suf) hc hdr
    rw [show pre ++ l.getD i 0 :: (l.drop (i + 1) ++ suf) = pre ++ (l.getD i 0 :: l.drop (i + 1) ++ suf) from rfl, hz, hlen] at hg
    have e1 : nI (5 * (m + 1 + suf.length)) + (-5) = nI (5 * (m + suf.length)) := by
      rw [show 5 * (m + 1 + suf.length) = 5 * (m + suf.length) + 5 by omega]
      exact znI_m5 _
    have e2 : (zlsr (lN X) (nI (5 * (m + suf.length))) &&& lN 31).toInt32 = nI (l.getD i 0) := by
      rw [zlsr_N hX (by omega), show (31 : Nat) = 2 ^ 5 - 1 from rfl, wb_mask (Nat.lt_of_le_of_lt (Nat.div_le_self _ _) (by omega)) (by decide), lN_i, show 2 ^ 5 = 32 from rfl, hg]
    refine b138_110 ?_
    (try simp (disch := omega) only [zh, zh_st, ↓reduceIte, Nat.add_left_cancel_iff, Nat.reduceEqDiff, Nat.add_sub_cancel, Nat.reduceAdd, Nat.reduceSub, Nat.reduceMul, ← nI_0, zu_same, zu_ne, zoi, zoi_m1, nI_add, pk_mul, pk_sub, zcl, nI_leI, nI_ltI, nI_eq, ite_not, reduceCtorEq, zqi_s, zql_s, zqv_s, true_and, and_true, vp_in_nI, if_pos, if_neg, not_true_eq_false, not_false_eq_true, or_true, true_or, or_false, false_or, and_self, zRa_k, zRa_r, zRa_pl, zRa_mn, zRa_hd, zRa_rs, zRa_mk, mK0, mQ1, mK1, mN1, mQ6, mK6, mN6, mQ7, mK7, mN7, mQ8, mK8, mN8, mQ9, mK9, mN9, mQ10, mK10, mN10, mQ11, mK11, mN11, mQ21, mK21, mN21, mQ22, mK22, mN22, mQ23, mK23, mN23, mQ24, mK24, mN24, mQ25, mK25, mN25, mQ26, mK26, mN26, mQ27, mK27, mN27, mQ28, mK28, mN28, mQ32, mK32, mN32, mQ33, mK33, mN33, mQ34, mK34, mN34, mQ35, mK35, mN35, mQ40, mK40, mN40, mQ41, mK41, mN41, mQ42, mK42, mN42, mQ43, mK43, mN43, mQ44, mK44, mN44, mQ45, mK45, mN45, mQ62, mK62, mN62, hm, e1, e2])
    refine ih (i + 1) (pre ++ [l.getD i 0]) suf _ (by omega) ?_ (by omega) h1 h2 (fun j hj => ?_) (fun pl' g1 g2 => hQ pl' g1 (fun k hk => ?_))
    · rw [← hz, List.append_assoc]; rfl
    · by_cases e : j = i
      · rw [e, zu_same]
      · rw [zu_ne _ _ (by omega)]; exact hA j (by omega)
    · rw [g2 k hk, zu_ne _ _ (by omega)]
theorem zhd_of {v s0 s1 s2 mk : Nat} (h0 : s0 < 16) (h1 : s1 < 16) (h2 : s2 < 16) (hv : v = ((mk * 16 + s0) * 16 + s1) * 16 + s2) : v / 2 ^ 12 = mk ∧ v / 2 ^ 8 % 16 = s0 ∧ v / 2 ^ 4 % 16 = s1 ∧ v % 16 = s2 := by
  simp only [Nat.reducePow]
  omega
set_option maxHeartbeats 4000000 in
theorem e_untold {d n mk : Nat} {σ : zH} (hM : zMb σ) (hcards : zI σ 160 5 = nI n) {pl mn hd rs : Nat → Int32} {mk0 : Int32} {P : Nat → List Nat} (hV : zVP n P mk) {Q : Option Value → zH → Prop} (hQ : ∀ pl' mn', zRR pl' mn' P → Q none (zRa σ pl' mn' hd rs (nI mk))) : zM d 138 [.ref 160, .long (lN (zkRP P mk))] (zRa σ pl mn hd rs mk0) Q := by
  have ⟨mK0, mQ1, mK1, mN1, mQ6, mK6, mN6, mQ7, mK7, mN7, mQ8, mK8, mN8, mQ9, mK9, mN9, mQ10, mK10, mN10, mQ11, mK11, mN11, mQ21, mK21, mN21, mQ22, mK22, mN22, mQ23, mK23, mN23, mQ24, mK24, mN24, mQ25, mK25, mN25, mQ26, mK26, mN26, mQ27, mK27, mN27, mQ28, mK28, mN28, mQ32, mK32, mN32, mQ33, mK33, mN33, mQ34, mK34, mN34, mQ35, mK35, mN35, mQ40, mK40, mN40, mQ41, mK41, mN41, mQ42, mK42, mN42, mQ43, mK43, mN43, mQ44, mK44, mN44, mQ45, mK45, mN45, mQ62, mK62, mN62⟩ := hM
  have h9 := zVP_9 hV
  have h0 := h9 0 (by decide)
  have h1 := h9 1 (by decide)
  have h2 := h9 2 (by decide)
  have h3 := h9 3 (by decide)
  have ht := hV.1
  have hn := hV.2.1
  have hm := hV.2.2.2
  have h32 := zVP_32 hV
  have hv := zhdR_lt hV
  have hlt := zdm_lt2 hv (zsqR_32 h32) (by rw [zsqR_len]; omega)
  have hX : zkRP P mk < 2 ^ 63 := Nat.lt_trans hlt (by decide)
  have hhd : zkRP P mk / 2 ^ (5 * n) = zhdR P mk := by
    unfold zkRP
    rw [zdm_0, zsqR_len, ht, ← zp32, Nat.mul_comm, Nat.mul_add_div (Nat.pow_pos (by decide)), Nat.div_eq_of_lt (by have := zdm_lt (zsqR_32 h32); rw [zsqR_len, ht] at this; exact this)]
    rfl
  obtain ⟨v, hvv⟩ : ∃ v, v = zhdR P mk := ⟨_, rfl⟩
  rw [← hvv] at hhd hv
  obtain ⟨d0, d1, d2, d3⟩ := zhd_of (show (P 0).length < 16 by omega) (show (P 1).length < 16 by omega) (show (P 2).length < 16 by omega) (hvv.trans rfl)
  obtain ⟨X, hXX⟩ : ∃ X, X = zkRP P mk := ⟨_, rfl⟩
  rw [← hXX] at hX hhd ⊢
  have z0 : zlsr (lN X) (nI (5 * n)) = lN v := by rw [zlsr_N hX (by omega), hhd]
  have z1 : (zlsr (lN v) (nI 12)).toInt32 = nI mk := by rw [zlsr_N (by omega) (by decide), d0, lN_i]
  have z2' : (zlsr (lN v) (nI 8) &&& lN 15).toInt32 = nI (P 0).length := by
    rw [zlsr_N (by omega) (by decide), show (15 : Nat) = 2 ^ 4 - 1 from rfl, wb_mask (Nat.lt_of_le_of_lt (Nat.div_le_self _ _) (by omega)) (by decide), lN_i, show 2 ^ 4 = 16 from rfl, d1]
  have z3 : (zlsr (lN v) (nI 4) &&& lN 15).toInt32 = nI (P 1).length := by
    rw [zlsr_N (by omega) (by decide), show (15 : Nat) = 2 ^ 4 - 1 from rfl, wb_mask (Nat.lt_of_le_of_lt (Nat.div_le_self _ _) (by omega)) (by decide), lN_i, show 2 ^ 4 = 16 from rfl, d2]
  have z4 : (lN v &&& lN 15).toInt32 = nI (P 2).length := by
    rw [show (15 : Nat) = 2 ^ 4 - 1 from rfl, wb_mask (by omega) (by decide), lN_i, show 2 ^ 4 = 16 from rfl, d3]
  have hz : zdm v (P 0 ++ (P 1 ++ (P 2 ++ P 3))) = X := by rw [hXX, hvv]; rfl
  unfold zTot at ht
  refine b138 ?_
  (try simp (disch := omega) only [zh, zh_st, ↓reduceIte, Nat.add_left_cancel_iff, Nat.reduceEqDiff, Nat.add_sub_cancel, Nat.reduceAdd, Nat.reduceSub, Nat.reduceMul, ← nI_0, zu_same, zu_ne, zoi, zoi_m1, nI_add, pk_mul, pk_sub, zcl, nI_leI, nI_ltI, nI_eq, ite_not, reduceCtorEq, zqi_s, zql_s, zqv_s, true_and, and_true, vp_in_nI, if_pos, if_neg, not_true_eq_false, not_false_eq_true, or_true, true_or, or_false, false_or, and_self, zRa_k, zRa_r, zRa_pl, zRa_mn, zRa_hd, zRa_rs, zRa_mk, mK0, mQ1, mK1, mN1, mQ6, mK6, mN6, mQ7, mK7, mN7, mQ8, mK8, mN8, mQ9, mK9, mN9, mQ10, mK10, mN10, mQ11, mK11, mN11, mQ21, mK21, mN21, mQ22, mK22, mN22, mQ23, mK23, mN23, mQ24, mK24, mN24, mQ25, mK25, mN25, mQ26, mK26, mN26, mQ27, mK27, mN27, mQ28, mK28, mN28, mQ32, mK32, mN32, mQ33, mK33, mN33, mQ34, mK34, mN34, mQ35, mK35, mN35, mQ40, mK40, mN40, mQ41, mK41, mN41, mQ42, mK42, mN42, mQ43, mK43, mN43, mQ44, mK44, mN44, mQ45, mK45, mN45, mQ62, mK62, mN62, zRa_oI, hcards, z0, z1, z2', z3, z4])
  rw [show n - (P 0).length - (P 1).length - (P 2).length = (P 3).length by omega]
  obtain ⟨mn', hmn⟩ : ∃ f, f = zu (zu (zu (zu mn 0 (nI (P 0).length)) 1 (nI (P 1).length)) 2 (nI (P 2).length)) 3 (nI (P 3).length) := ⟨_, rfl⟩
  rw [← hmn]
  have hs : ∀ p, p < 4 → mn' p = nI (P p).length := by
    intro p hp
    rw [hmn]
    rcases (show p = 0 ∨ p = 1 ∨ p = 2 ∨ p = 3 by omega) with rfl | rfl | rfl | rfl <;> simp [zu]
  have f3 := h32 3 (by decide)
  have f23 : ∀ c ∈ P 2 ++ P 3, c < 32 := fun c hc => (List.mem_append.mp hc).elim (h32 2 (by decide) c) (f3 c)
  have f123 : ∀ c ∈ P 1 ++ (P 2 ++ P 3), c < 32 := fun c hc => (List.mem_append.mp hc).elim (h32 1 (by decide) c) (f23 c)
  have g23 : (P 2 ++ P 3).length = (P 2).length + (P 3).length := List.length_append
  have g123 : (P 1 ++ (P 2 ++ P 3)).length = (P 1).length + ((P 2).length + (P 3).length) := by rw [List.length_append, g23]
  refine b138_101 ?_
  (try simp (disch := omega) only [zh, zh_st, ↓reduceIte, Nat.add_left_cancel_iff, Nat.reduceEqDiff, Nat.add_sub_cancel, Nat.reduceAdd, Nat.reduceSub, Nat.reduceMul, ← nI_0, zu_same, zu_ne, zoi, zoi_m1, nI_add, pk_mul, pk_sub, zcl, nI_leI, nI_ltI, nI_eq, ite_not, reduceCtorEq, zqi_s, zql_s, zqv_s, true_and, and_true, vp_in_nI, if_pos, if_neg, not_true_eq_false, not_false_eq_true, or_true, true_or, or_false, false_or, and_self, ])
  rw [show 5 * n = 5 * ((P 0).length + (P 1 ++ (P 2 ++ P 3)).length) by omega]
  refine l_untold (v := v) hM (by decide) (hs 0 (by decide)) h0 hX (P 0).length 0 [] (P 1 ++ (P 2 ++ P 3)) pl (by omega) hz (by omega) (h32 0 (by decide)) f123 (fun j hj => absurd hj (Nat.not_lt_zero j)) (fun pl0 a0 b0 => ?_)
  refine b138_101 ?_
  (try simp (disch := omega) only [zh, zh_st, ↓reduceIte, Nat.add_left_cancel_iff, Nat.reduceEqDiff, Nat.add_sub_cancel, Nat.reduceAdd, Nat.reduceSub, Nat.reduceMul, ← nI_0, zu_same, zu_ne, zoi, zoi_m1, nI_add, pk_mul, pk_sub, zcl, nI_leI, nI_ltI, nI_eq, ite_not, reduceCtorEq, zqi_s, zql_s, zqv_s, true_and, and_true, vp_in_nI, if_pos, if_neg, not_true_eq_false, not_false_eq_true, or_true, true_or, or_false, false_or, and_self, ])
  rw [show 5 * (P 1 ++ (P 2 ++ P 3)).length = 5 * ((P 1).length + (P 2 ++ P 3).length) by omega]
  refine l_untold (v := v) hM (by decide) (hs 1 (by decide)) h1 hX (P 1).length 0 (P 0) (P 2 ++ P 3) pl0 (by omega) hz (by omega) (h32 1 (by decide)) f23 (fun j hj => absurd hj (Nat.not_lt_zero j)) (fun pl1 a1 b1 => ?_)
  refine b138_101 ?_
  (try simp (disch := omega) only [zh, zh_st, ↓reduceIte, Nat.add_left_cancel_iff, Nat.reduceEqDiff, Nat.add_sub_cancel, Nat.reduceAdd, Nat.reduceSub, Nat.reduceMul, ← nI_0, zu_same, zu_ne, zoi, zoi_m1, nI_add, pk_mul, pk_sub, zcl, nI_leI, nI_ltI, nI_eq, ite_not, reduceCtorEq, zqi_s, zql_s, zqv_s, true_and, and_true, vp_in_nI, if_pos, if_neg, not_true_eq_false, not_false_eq_true, or_true, true_or, or_false, false_or, and_self, ])
  rw [show 5 * (P 2 ++ P 3).length = 5 * ((P 2).length + (P 3).length) by omega]
  refine l_untold (v := v) hM (by decide) (hs 2 (by decide)) h2 hX (P 2).length 0 (P 0 ++ P 1) (P 3) pl1 (by omega) (by rw [List.append_assoc]; exact hz) (by omega) (h32 2 (by decide)) f3 (fun j hj => absurd hj (Nat.not_lt_zero j)) (fun pl2 a2 b2 => ?_)
  refine b138_101 ?_
  (try simp (disch := omega) only [zh, zh_st, ↓reduceIte, Nat.add_left_cancel_iff, Nat.reduceEqDiff, Nat.add_sub_cancel, Nat.reduceAdd, Nat.reduceSub, Nat.reduceMul, ← nI_0, zu_same, zu_ne, zoi, zoi_m1, nI_add, pk_mul, pk_sub, zcl, nI_leI, nI_ltI, nI_eq, ite_not, reduceCtorEq, zqi_s, zql_s, zqv_s, true_and, and_true, vp_in_nI, if_pos, if_neg, not_true_eq_false, not_false_eq_true, or_true, true_or, or_false, false_or, and_self, ])
  rw [show 5 * (P 3).length = 5 * ((P 3).length + ([] : List Nat).length) by simp]
  refine l_untold (v := v) hM (by decide) (hs 3 (by decide)) h3 hX (P 3).length 0 (P 0 ++ P 1 ++ P 2) [] pl2 (by omega) (by rw [List.append_nil, List.append_assoc, List.append_assoc]; exact hz) (by simp; omega) f3 (by simp) (fun j hj => absurd hj (Nat.not_lt_zero j)) (fun pl3 a3 b3 => ?_)
  refine b138_101 ?_
  (try simp (disch := omega) only [zh, zh_st, ↓reduceIte, Nat.add_left_cancel_iff, Nat.reduceEqDiff, Nat.add_sub_cancel, Nat.reduceAdd, Nat.reduceSub, Nat.reduceMul, ← nI_0, zu_same, zu_ne, zoi, zoi_m1, nI_add, pk_mul, pk_sub, zcl, nI_leI, nI_ltI, nI_eq, ite_not, reduceCtorEq, zqi_s, zql_s, zqv_s, true_and, and_true, vp_in_nI, if_pos, if_neg, not_true_eq_false, not_false_eq_true, or_true, true_or, or_false, false_or, and_self, ])
  refine hQ _ _ (fun p hp => ⟨hs p hp, h9 p hp, fun i hi => ?_⟩)
  rcases (show p = 0 ∨ p = 1 ∨ p = 2 ∨ p = 3 by omega) with rfl | rfl | rfl | rfl
  · rw [b3 _ (by omega), b2 _ (by omega), b1 _ (by omega)]
    exact a0 i hi
  · rw [b3 _ (by omega), b2 _ (by omega)]
    exact a1 i hi
  · rw [b3 _ (by omega)]
    exact a2 i hi
  · exact a3 i hi
/-- a card of the start as the reference has it -/
def zsR (c : Nat) : Nat := c % 16 + (if 16 ≤ c then 128 else 0)
theorem zsR_c : ∀ c, c < 32 → ((nI (zsR c) &&& nI 15) ||| ((nI (zsR c) &&& nI 128) >>> (nI 3 &&& 31))) = nI c := by decide +kernel
set_option maxHeartbeats 2000000 in
theorem e_rlay {d n ra : Nat} {σ : zH} (hM : zMb σ) (hcards : zI σ 160 5 = nI n) (hn : n ≤ 9) (hra : ra = 165 ∨ ra = 186) {pl mn hd rs : Nat → Int32} {mk0 : Int32} {row : List Nat} (hrl : row.length = n) (hrow : ∀ i, i < n → zA σ ra i = nI (zsR (row.getD i 0))) (hrc : ∀ c ∈ row, c < 32) {Q : Option Value → zH → Prop} (hQ : ∀ pl' mn', zRR pl' mn' (zpl (row, [], [], [], 0)) → Q none (zRa σ pl' mn' hd rs (nI 0))) : zM d 136 [.ref 160, .ref ra] (zRa σ pl mn hd rs mk0) Q := by
  have ⟨mK0, mQ1, mK1, mN1, mQ6, mK6, mN6, mQ7, mK7, mN7, mQ8, mK8, mN8, mQ9, mK9, mN9, mQ10, mK10, mN10, mQ11, mK11, mN11, mQ21, mK21, mN21, mQ22, mK22, mN22, mQ23, mK23, mN23, mQ24, mK24, mN24, mQ25, mK25, mN25, mQ26, mK26, mN26, mQ27, mK27, mN27, mQ28, mK28, mN28, mQ32, mK32, mN32, mQ33, mK33, mN33, mQ34, mK34, mN34, mQ35, mK35, mN35, mQ40, mK40, mN40, mQ41, mK41, mN41, mQ42, mK42, mN42, mQ43, mK43, mN43, mQ44, mK44, mN44, mQ45, mK45, mN45, mQ62, mK62, mN62⟩ := hM
  have kr : zK σ ra = 20 ∧ zN σ ra = 9 := by rcases hra with rfl | rfl <;> constructor <;> assumption
  have hoA : ∀ pl mn hd rs mk, zA (zRa σ pl mn hd rs mk) ra = zA σ ra := fun pl mn hd rs mk => zRa_oA pl mn hd rs mk (by omega)
  have loop2 : ∀ (m j : Nat), j + m = n → ∀ (f g : Nat → Int32), g 0 = nI n → g 1 = nI 0 → g 2 = nI 0 → g 3 = nI 0 → (∀ i, i < j → f i = nI (row.getD i 0)) → zW d 136 32 [(0, .ref 160), (1, .ref ra), (2, .int (nI j))] [] (zRa σ f g hd rs mk0) Q := by
    intro m
    induction m with
    | zero =>
      intro j hj f g g0 g1 g2 g3 hA
      refine b136_32 ?_
      (try simp (disch := omega) only [zh, zh_st, ↓reduceIte, Nat.add_left_cancel_iff, Nat.reduceEqDiff, Nat.add_sub_cancel, Nat.reduceAdd, Nat.reduceSub, Nat.reduceMul, ← nI_0, zu_same, zu_ne, zoi, zoi_m1, nI_add, pk_mul, pk_sub, zcl, nI_leI, nI_ltI, nI_eq, ite_not, reduceCtorEq, zqi_s, zql_s, zqv_s, true_and, and_true, vp_in_nI, if_pos, if_neg, not_true_eq_false, not_false_eq_true, or_true, true_or, or_false, false_or, and_self, zRa_k, zRa_r, zRa_pl, zRa_mn, zRa_hd, zRa_rs, zRa_mk, mK0, mQ1, mK1, mN1, mQ6, mK6, mN6, mQ7, mK7, mN7, mQ8, mK8, mN8, mQ9, mK9, mN9, mQ10, mK10, mN10, mQ11, mK11, mN11, mQ21, mK21, mN21, mQ22, mK22, mN22, mQ23, mK23, mN23, mQ24, mK24, mN24, mQ25, mK25, mN25, mQ26, mK26, mN26, mQ27, mK27, mN27, mQ28, mK28, mN28, mQ32, mK32, mN32, mQ33, mK33, mN33, mQ34, mK34, mN34, mQ35, mK35, mN35, mQ40, mK40, mN40, mQ41, mK41, mN41, mQ42, mK42, mN42, mQ43, mK43, mN43, mQ44, mK44, mN44, mQ45, mK45, mN45, mQ62, mK62, mN62, zRa_oI, hcards])
      refine hQ _ _ (fun p hp => ?_)
      rcases (show p = 0 ∨ p = 1 ∨ p = 2 ∨ p = 3 by omega) with rfl | rfl | rfl | rfl
      · refine ⟨by show g 0 = nI row.length; rw [hrl, g0], by show row.length ≤ 9; omega, fun i hi => ?_⟩
        have hi' : i < row.length := hi
        have := hA i (by omega)
        rw [show 10 * 0 + i = i by omega]
        exact this
      · exact ⟨g1, Nat.zero_le _, fun i hi => absurd hi (Nat.not_lt_zero i)⟩
      · exact ⟨g2, Nat.zero_le _, fun i hi => absurd hi (Nat.not_lt_zero i)⟩
      · exact ⟨g3, Nat.zero_le _, fun i hi => absurd hi (Nat.not_lt_zero i)⟩
    | succ m ih =>
      intro j hj f g g0 g1 g2 g3 hA
      have e1 := hrow j (by omega)
      have e2 := zsR_c _ (hrc _ (zgd_mem (l := row) (i := j) (by omega)))
      refine b136_32 ?_
      (try simp (disch := omega) only [zh, zh_st, ↓reduceIte, Nat.add_left_cancel_iff, Nat.reduceEqDiff, Nat.add_sub_cancel, Nat.reduceAdd, Nat.reduceSub, Nat.reduceMul, ← nI_0, zu_same, zu_ne, zoi, zoi_m1, nI_add, pk_mul, pk_sub, zcl, nI_leI, nI_ltI, nI_eq, ite_not, reduceCtorEq, zqi_s, zql_s, zqv_s, true_and, and_true, vp_in_nI, if_pos, if_neg, not_true_eq_false, not_false_eq_true, or_true, true_or, or_false, false_or, and_self, zRa_k, zRa_r, zRa_pl, zRa_mn, zRa_hd, zRa_rs, zRa_mk, mK0, mQ1, mK1, mN1, mQ6, mK6, mN6, mQ7, mK7, mN7, mQ8, mK8, mN8, mQ9, mK9, mN9, mQ10, mK10, mN10, mQ11, mK11, mN11, mQ21, mK21, mN21, mQ22, mK22, mN22, mQ23, mK23, mN23, mQ24, mK24, mN24, mQ25, mK25, mN25, mQ26, mK26, mN26, mQ27, mK27, mN27, mQ28, mK28, mN28, mQ32, mK32, mN32, mQ33, mK33, mN33, mQ34, mK34, mN34, mQ35, mK35, mN35, mQ40, mK40, mN40, mQ41, mK41, mN41, mQ42, mK42, mN42, mQ43, mK43, mN43, mQ44, mK44, mN44, mQ45, mK45, mN45, mQ62, mK62, mN62, zRa_oI, hcards, kr.1, kr.2, hoA, e1, e2])
      refine ih (j + 1) (by omega) _ g g0 g1 g2 g3 (fun i hi => ?_)
      by_cases e : i = j
      · rw [e, zu_same]
      · rw [zu_ne _ _ e]; exact hA i (by omega)
  refine b136 ?_
  refine b136_2 ?_
  (try simp (disch := omega) only [zh, zh_st, ↓reduceIte, Nat.add_left_cancel_iff, Nat.reduceEqDiff, Nat.add_sub_cancel, Nat.reduceAdd, Nat.reduceSub, Nat.reduceMul, ← nI_0, zu_same, zu_ne, zoi, zoi_m1, nI_add, pk_mul, pk_sub, zcl, nI_leI, nI_ltI, nI_eq, ite_not, reduceCtorEq, zqi_s, zql_s, zqv_s, true_and, and_true, vp_in_nI, if_pos, if_neg, not_true_eq_false, not_false_eq_true, or_true, true_or, or_false, false_or, and_self, zRa_k, zRa_r, zRa_pl, zRa_mn, zRa_hd, zRa_rs, zRa_mk, mK0, mQ1, mK1, mN1, mQ6, mK6, mN6, mQ7, mK7, mN7, mQ8, mK8, mN8, mQ9, mK9, mN9, mQ10, mK10, mN10, mQ11, mK11, mN11, mQ21, mK21, mN21, mQ22, mK22, mN22, mQ23, mK23, mN23, mQ24, mK24, mN24, mQ25, mK25, mN25, mQ26, mK26, mN26, mQ27, mK27, mN27, mQ28, mK28, mN28, mQ32, mK32, mN32, mQ33, mK33, mN33, mQ34, mK34, mN34, mQ35, mK35, mN35, mQ40, mK40, mN40, mQ41, mK41, mN41, mQ42, mK42, mN42, mQ43, mK43, mN43, mQ44, mK44, mN44, mQ45, mK45, mN45, mQ62, mK62, mN62])
  refine b136_2 ?_
  (try simp (disch := omega) only [zh, zh_st, ↓reduceIte, Nat.add_left_cancel_iff, Nat.reduceEqDiff, Nat.add_sub_cancel, Nat.reduceAdd, Nat.reduceSub, Nat.reduceMul, ← nI_0, zu_same, zu_ne, zoi, zoi_m1, nI_add, pk_mul, pk_sub, zcl, nI_leI, nI_ltI, nI_eq, ite_not, reduceCtorEq, zqi_s, zql_s, zqv_s, true_and, and_true, vp_in_nI, if_pos, if_neg, not_true_eq_false, not_false_eq_true, or_true, true_or, or_false, false_or, and_self, zRa_k, zRa_r, zRa_pl, zRa_mn, zRa_hd, zRa_rs, zRa_mk, mK0, mQ1, mK1, mN1, mQ6, mK6, mN6, mQ7, mK7, mN7, mQ8, mK8, mN8, mQ9, mK9, mN9, mQ10, mK10, mN10, mQ11, mK11, mN11, mQ21, mK21, mN21, mQ22, mK22, mN22, mQ23, mK23, mN23, mQ24, mK24, mN24, mQ25, mK25, mN25, mQ26, mK26, mN26, mQ27, mK27, mN27, mQ28, mK28, mN28, mQ32, mK32, mN32, mQ33, mK33, mN33, mQ34, mK34, mN34, mQ35, mK35, mN35, mQ40, mK40, mN40, mQ41, mK41, mN41, mQ42, mK42, mN42, mQ43, mK43, mN43, mQ44, mK44, mN44, mQ45, mK45, mN45, mQ62, mK62, mN62])
  refine b136_2 ?_
  (try simp (disch := omega) only [zh, zh_st, ↓reduceIte, Nat.add_left_cancel_iff, Nat.reduceEqDiff, Nat.add_sub_cancel, Nat.reduceAdd, Nat.reduceSub, Nat.reduceMul, ← nI_0, zu_same, zu_ne, zoi, zoi_m1, nI_add, pk_mul, pk_sub, zcl, nI_leI, nI_ltI, nI_eq, ite_not, reduceCtorEq, zqi_s, zql_s, zqv_s, true_and, and_true, vp_in_nI, if_pos, if_neg, not_true_eq_false, not_false_eq_true, or_true, true_or, or_false, false_or, and_self, zRa_k, zRa_r, zRa_pl, zRa_mn, zRa_hd, zRa_rs, zRa_mk, mK0, mQ1, mK1, mN1, mQ6, mK6, mN6, mQ7, mK7, mN7, mQ8, mK8, mN8, mQ9, mK9, mN9, mQ10, mK10, mN10, mQ11, mK11, mN11, mQ21, mK21, mN21, mQ22, mK22, mN22, mQ23, mK23, mN23, mQ24, mK24, mN24, mQ25, mK25, mN25, mQ26, mK26, mN26, mQ27, mK27, mN27, mQ28, mK28, mN28, mQ32, mK32, mN32, mQ33, mK33, mN33, mQ34, mK34, mN34, mQ35, mK35, mN35, mQ40, mK40, mN40, mQ41, mK41, mN41, mQ42, mK42, mN42, mQ43, mK43, mN43, mQ44, mK44, mN44, mQ45, mK45, mN45, mQ62, mK62, mN62])
  refine b136_2 ?_
  (try simp (disch := omega) only [zh, zh_st, ↓reduceIte, Nat.add_left_cancel_iff, Nat.reduceEqDiff, Nat.add_sub_cancel, Nat.reduceAdd, Nat.reduceSub, Nat.reduceMul, ← nI_0, zu_same, zu_ne, zoi, zoi_m1, nI_add, pk_mul, pk_sub, zcl, nI_leI, nI_ltI, nI_eq, ite_not, reduceCtorEq, zqi_s, zql_s, zqv_s, true_and, and_true, vp_in_nI, if_pos, if_neg, not_true_eq_false, not_false_eq_true, or_true, true_or, or_false, false_or, and_self, zRa_k, zRa_r, zRa_pl, zRa_mn, zRa_hd, zRa_rs, zRa_mk, mK0, mQ1, mK1, mN1, mQ6, mK6, mN6, mQ7, mK7, mN7, mQ8, mK8, mN8, mQ9, mK9, mN9, mQ10, mK10, mN10, mQ11, mK11, mN11, mQ21, mK21, mN21, mQ22, mK22, mN22, mQ23, mK23, mN23, mQ24, mK24, mN24, mQ25, mK25, mN25, mQ26, mK26, mN26, mQ27, mK27, mN27, mQ28, mK28, mN28, mQ32, mK32, mN32, mQ33, mK33, mN33, mQ34, mK34, mN34, mQ35, mK35, mN35, mQ40, mK40, mN40, mQ41, mK41, mN41, mQ42, mK42, mN42, mQ43, mK43, mN43, mQ44, mK44, mN44, mQ45, mK45, mN45, mQ62, mK62, mN62])
  refine b136_2 ?_
  (try simp (disch := omega) only [zh, zh_st, ↓reduceIte, Nat.add_left_cancel_iff, Nat.reduceEqDiff, Nat.add_sub_cancel, Nat.reduceAdd, Nat.reduceSub, Nat.reduceMul, ← nI_0, zu_same, zu_ne, zoi, zoi_m1, nI_add, pk_mul, pk_sub, zcl, nI_leI, nI_ltI, nI_eq, ite_not, reduceCtorEq, zqi_s, zql_s, zqv_s, true_and, and_true, vp_in_nI, if_pos, if_neg, not_true_eq_false, not_false_eq_true, or_true, true_or, or_false, false_or, and_self, zRa_k, zRa_r, zRa_pl, zRa_mn, zRa_hd, zRa_rs, zRa_mk, mK0, mQ1, mK1, mN1, mQ6, mK6, mN6, mQ7, mK7, mN7, mQ8, mK8, mN8, mQ9, mK9, mN9, mQ10, mK10, mN10, mQ11, mK11, mN11, mQ21, mK21, mN21, mQ22, mK22, mN22, mQ23, mK23, mN23, mQ24, mK24, mN24, mQ25, mK25, mN25, mQ26, mK26, mN26, mQ27, mK27, mN27, mQ28, mK28, mN28, mQ32, mK32, mN32, mQ33, mK33, mN33, mQ34, mK34, mN34, mQ35, mK35, mN35, mQ40, mK40, mN40, mQ41, mK41, mN41, mQ42, mK42, mN42, mQ43, mK43, mN43, mQ44, mK44, mN44, mQ45, mK45, mN45, mQ62, mK62, mN62, zRa_oI, hcards])
  exact loop2 n 0 (by omega) _ _ (zu_same _ _ _) (by simp [zu]) (by simp [zu]) (by simp [zu]) (fun i hi => absurd hi (Nat.not_lt_zero i))
