/-- what is not the table's stays -/
theorem zTa_oA {σ : zH} {t a : Nat} (ly hd sz : Nat → Int32) (mk : Int32) (h1 : a ≠ t + 1) (h2 : a ≠ t + 2) (h3 : a ≠ t + 3) : zA (zTa σ t ly hd sz mk) a = zA σ a := by
  unfold zTa
  simp only [zh]
  rw [if_neg h3, if_neg h2, if_neg h1]
theorem zTa_oI {σ : zH} {t a i : Nat} (ly hd sz : Nat → Int32) (mk : Int32) (h1 : a ≠ t) : zI (zTa σ t ly hd sz mk) a i = zI σ a i := by
  unfold zTa
  simp only [zh]
  rw [if_neg (by omega)]
/-- a row of n cards is laid, all but the last m of it -/
def zlr (ly row : Nat → Int32) (n m : Nat) : Nat → Int32 := fun k => if n - m ≤ k ∧ k < n then row (n - 1 - k) else ly k
theorem zlr_u (ly row : Nat → Int32) {n m : Nat} (h : m < n) : zlr (zu ly (n - (m + 1)) (row m)) row n m = zlr ly row n (m + 1) := by
  funext k
  unfold zlr zu
  by_cases h1 : n - m ≤ k ∧ k < n
  · rw [if_pos h1, if_pos (by omega)]
  · rw [if_neg h1]
    by_cases h2 : k = n - (m + 1)
    · rw [if_pos h2, if_pos (by omega), show n - 1 - k = m by omega]
    · rw [if_neg h2, if_neg (by omega)]
theorem zlr_0 (ly row : Nat → Int32) (n : Nat) : zlr ly row n 0 = ly := by
  funext k
  unfold zlr
  rw [if_neg (by omega)]
theorem zu_id {α : Type} {f : Nat → α} {a : Nat} {v : α} (h : f a = v) : zu f a v = f := by
  funext k
  unfold zu
  by_cases hk : k = a
  · rw [if_pos hk, hk, h]
  · rw [if_neg hk]
theorem zu_zu {α : Type} (f : Nat → α) (a : Nat) (v w : α) : zu (zu f a v) a w = zu f a w := by
  funext k
  unfold zu
  by_cases hk : k = a
  · rw [if_pos hk, if_pos hk]
  · rw [if_neg hk, if_neg hk, if_neg hk]
set_option maxHeartbeats 1000000 in
theorem l_layRow {d t a n : Nat} {σ : zH} (hT : zTb σ t) (ka : zK σ a = 20) (na : zN σ a = 9) (h1 : a ≠ t + 1) (h2 : a ≠ t + 2) (h3 : a ≠ t + 3) (hn : n ≤ 9) {hd : Nat → Int32} {mk : Int32} {Q : Option Value → zH → Prop} : ∀ (m : Nat), m ≤ n → ∀ (x : Int32), x = nI m - nI 1 → ∀ (ly sz : Nat → Int32), sz 0 = nI (n - m) → Q none (zTa σ t (zlr ly (zA σ a) n m) hd (zu sz 0 (nI n)) mk) → zW (d + 1) 57 (if x < 0 then 32 else 18) [(0, .ref t), (1, .ref a), (2, .int x)] [] (zTa σ t ly hd sz mk) Q := by
  intro m
  induction m with
  | zero =>
    intro hm x hx ly sz hs hQ
    subst hx
    refine zW_if (fun _ => ?_) (fun h => absurd (by decide) h)
    refine zW_r rfl trivial ?_
    rw [zlr_0] at hQ
    rw [zu_id (by rw [hs]; rfl)] at hQ
    exact hQ
  | succ m ih =>
    intro hm x hx ly sz hs hQ
    have hx2 : x = nI m := by rw [hx, show nI (m + 1) - nI 1 = nI (m + 1 - 1) from pk_sub (by omega)]; rfl
    subst hx2
    refine zW_if (fun h => absurd h (nI_pos (by omega))) (fun _ => ?_)
    obtain ⟨τ, e, eK, eN, eQ, k0, k1, k2, k3, n1, n2, n3, q0, q1, q2, q3, r1, r2, r3, r4⟩ := zTb_f hT ly hd sz mk
    have ra : zA τ a = zA σ a := by rw [e]; exact zTa_oA ly hd sz mk h1 h2 h3
    rw [← e]
    repeat (first | refine zW_s rfl ?_ | refine zW_p rfl (by simp (disch := omega) only [zh, zh_st, ↓reduceIte, Nat.add_left_cancel_iff, Nat.reduceEqDiff, Nat.add_sub_cancel, Nat.reduceAdd, Nat.reduceSub, Nat.reduceMul, ← nI_0, zu_same, zu_ne, zoi, zoi_m1, nI_add, pk_mul, pk_sub, zcl, nI_leI, nI_ltI, nI_eq, eK, eN, eQ, k0, k1, k2, k3, n1, n2, n3, q0, q1, q2, q3, ka, na]; first | done | exact vp_in_nI (by omega) (by omega) | exact ⟨rfl, vp_in_nI (by omega) (by omega)⟩ | exact ⟨trivial, vp_in_nI (by omega) (by omega)⟩ | (simp only [true_and]; exact vp_in_nI (by omega) (by omega)) | assumption) ?_)
    refine zW_c rfl (by simp only [eK, k0]) ?_
    simp (disch := omega) only [zh, zh_st, ↓reduceIte, Nat.add_left_cancel_iff, Nat.reduceEqDiff, Nat.add_sub_cancel, Nat.reduceAdd, Nat.reduceSub, Nat.reduceMul, ← nI_0, zu_same, zu_ne, zoi, zoi_m1, nI_add, pk_mul, pk_sub, zcl, nI_leI, nI_ltI, nI_eq, ra]
    rw [e]
    refine e_push hT (p := 0) (n := n - (m + 1)) (by omega) hs (by omega) ?_
    rw [show 16 * 0 + (n - (m + 1)) = n - (m + 1) by omega]
    iterate 4 (first | refine zW_s rfl ?_ | refine zW_p rfl (by simp (disch := omega) only [zh, zh_st, ↓reduceIte, Nat.add_left_cancel_iff, Nat.reduceEqDiff, Nat.add_sub_cancel, Nat.reduceAdd, Nat.reduceSub, Nat.reduceMul, ← nI_0, zu_same, zu_ne, zoi, zoi_m1, nI_add, pk_mul, pk_sub, zcl, nI_leI, nI_ltI, nI_eq, eK, eN, eQ, k0, k1, k2, k3, n1, n2, n3, q0, q1, q2, q3]; first | done | exact vp_in_nI (by omega) (by omega) | exact ⟨rfl, vp_in_nI (by omega) (by omega)⟩ | exact ⟨trivial, vp_in_nI (by omega) (by omega)⟩ | (simp only [true_and]; exact vp_in_nI (by omega) (by omega)) | assumption) ?_)
    exact ih (by omega) _ (by rw [zoi_m1, show (-1 : Int32) = - nI 1 from rfl, Int32.sub_eq_add_neg]) _ _ (by rw [zu_same, show n - (m + 1) + 1 = n - m by omega]) (by rw [zlr_u _ _ (by omega), zu_zu]; exact hQ)
set_option maxHeartbeats 1000000 in
theorem e_layRow {d t a n : Nat} {σ : zH} (hT : zTb σ t) (ka : zK σ a = 20) (na : zN σ a = 9) (h1 : a ≠ t + 1) (h2 : a ≠ t + 2) (h3 : a ≠ t + 3) (kd : zK σ 4 = 2) (ht : t ≠ 4) (hc : zI σ 4 4 = nI n) (hn : n ≤ 9) {ly hd sz : Nat → Int32} {mk : Int32} {Q : Option Value → zH → Prop} (hQ : Q none (zTa σ t (zlr ly (zA σ a) n n) hd (zu (zfl sz 0 4 (nI 0)) 0 (nI n)) (nI 0))) : zM (d + 1) 57 [.ref t, .ref a] (zTa σ t ly hd sz mk) Q := by
  unfold zM
  obtain ⟨τ, e, eK, eN, eQ, k0, k1, k2, k3, n1, n2, n3, q0, q1, q2, q3, r1, r2, r3, r4⟩ := zTb_f hT ly hd sz mk
  rw [← e]
  repeat (first | refine zW_s rfl ?_ | refine zW_p rfl (by simp (disch := omega) only [zh, zh_st, ↓reduceIte, Nat.add_left_cancel_iff, Nat.reduceEqDiff, Nat.add_sub_cancel, Nat.reduceAdd, Nat.reduceSub, Nat.reduceMul, ← nI_0, zu_same, zu_ne, zoi, zoi_m1, nI_add, pk_mul, pk_sub, zcl, nI_leI, nI_ltI, nI_eq, eK, eN, eQ, k0, k1, k2, k3, n1, n2, n3, q0, q1, q2, q3]; first | done | exact vp_in_nI (by omega) (by omega) | exact ⟨rfl, vp_in_nI (by omega) (by omega)⟩ | exact ⟨trivial, vp_in_nI (by omega) (by omega)⟩ | (simp only [true_and]; exact vp_in_nI (by omega) (by omega)) | assumption) ?_)
  refine zW_c rfl (by simp only [eK, k0]) ?_
  rw [e]
  refine e_clear hT ?_
  have hI : zI (zTa σ t ly hd (zfl sz 0 4 (nI 0)) (nI 0)) 4 4 = nI n := by rw [zTa_oI _ _ _ _ (fun h => ht h.symm)]; exact hc
  iterate 8 (first | refine zW_s rfl ?_ | refine zW_p rfl (by simp (disch := omega) only [zh, zh_st, ↓reduceIte, Nat.add_left_cancel_iff, Nat.reduceEqDiff, Nat.add_sub_cancel, Nat.reduceAdd, Nat.reduceSub, Nat.reduceMul, ← nI_0, zu_same, zu_ne, zoi, zoi_m1, nI_add, pk_mul, pk_sub, zcl, nI_leI, nI_ltI, nI_eq, zTa_k, k0, q0, kd]; first | done | exact vp_in_nI (by omega) (by omega) | exact ⟨rfl, vp_in_nI (by omega) (by omega)⟩ | exact ⟨trivial, vp_in_nI (by omega) (by omega)⟩ | (simp only [true_and]; exact vp_in_nI (by omega) (by omega)) | assumption) ?_)
  simp only [zTa_k, q0, hI, zoi]
  exact l_layRow hT ka na h1 h2 h3 hn n (Nat.le_refl n) _ rfl _ _ (by unfold zfl; rw [if_pos (by omega)]; rw [Nat.sub_self]) hQ
