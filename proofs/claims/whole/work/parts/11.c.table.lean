/-- places i to n - 1 hold v -/
def zfl {α : Type} (f : Nat → α) (i n : Nat) (v : α) : Nat → α := fun k => if i ≤ k ∧ k < n then v else f k
theorem zfl_u {α : Type} (f : Nat → α) {i n : Nat} (v : α) (h : i < n) : zfl (zu f i v) (i + 1) n v = zfl f i n v := by
  funext k
  unfold zfl zu
  by_cases h1 : i + 1 ≤ k ∧ k < n
  · rw [if_pos h1, if_pos (by omega)]
  · rw [if_neg h1]
    by_cases h2 : k = i
    · rw [if_pos h2, if_pos (by omega)]
    · rw [if_neg h2, if_neg (by omega)]
theorem zfl_0 {α : Type} (f : Nat → α) {i n : Nat} (v : α) (h : n ≤ i) : zfl f i n v = f := by
  funext k
  unfold zfl
  rw [if_neg (by omega)]
theorem zW_e {d M pc : Nat} {lc : zC} {st : List Value} {σ τ : zH} {Q : Option Value → zH → Prop} (h : σ = τ) (k : zW d M pc lc st τ Q) : zW d M pc lc st σ Q := by rw [h]; exact k
set_option maxHeartbeats 1000000 in
theorem l_clear {d t : Nat} {σ : zH} (hT : zTb σ t) {ly hd : Nat → Int32} {mk : Int32} {Q : Option Value → zH → Prop} : ∀ (m i : Nat), i + m = 4 → ∀ (x : Int32), x = nI i → ∀ (sz : Nat → Int32), Q none (zTa σ t ly hd (zfl sz i 4 (nI 0)) mk) → zW d 58 (if Int32.ofInt 4 ≤ x then 25 else 12) [(0, .ref t), (1, .int x)] [] (zTa σ t ly hd sz mk) Q := by
  intro m
  induction m with
  | zero =>
    intro i hi x hx sz hQ
    rw [zfl_0 _ _ (by omega)] at hQ
    subst hx
    refine zW_if (fun _ => ?_) (fun h => ?_)
    · refine zW_r rfl trivial ?_
      exact hQ
    · exfalso
      simp (disch := omega) only [zh, zh_st, ↓reduceIte, Nat.add_left_cancel_iff, Nat.reduceEqDiff, Nat.add_sub_cancel, Nat.reduceAdd, Nat.reduceSub, Nat.reduceMul, ← nI_0, zu_same, zu_ne, zoi, zoi_m1, nI_add, pk_mul, pk_sub, zcl, nI_leI, nI_ltI, nI_eq, ] at h
      omega
  | succ m ih =>
    intro i hi x hx sz hQ
    subst hx
    refine zW_if (fun h => ?_) (fun _ => ?_)
    · exfalso
      simp (disch := omega) only [zh, zh_st, ↓reduceIte, Nat.add_left_cancel_iff, Nat.reduceEqDiff, Nat.add_sub_cancel, Nat.reduceAdd, Nat.reduceSub, Nat.reduceMul, ← nI_0, zu_same, zu_ne, zoi, zoi_m1, nI_add, pk_mul, pk_sub, zcl, nI_leI, nI_ltI, nI_eq, ] at h
      omega
    · obtain ⟨τ, e, eK, eN, eQ, k0, k1, k2, k3, n1, n2, n3, q0, q1, q2, q3, r1, r2, r3, r4⟩ := zTb_f hT ly hd sz mk
      rw [← e]
      repeat (first | refine zW_s rfl ?_ | refine zW_p rfl (by simp (disch := omega) only [zh, zh_st, ↓reduceIte, Nat.add_left_cancel_iff, Nat.reduceEqDiff, Nat.add_sub_cancel, Nat.reduceAdd, Nat.reduceSub, Nat.reduceMul, ← nI_0, zu_same, zu_ne, zoi, zoi_m1, nI_add, pk_mul, pk_sub, zcl, nI_leI, nI_ltI, nI_eq, eK, eN, eQ, k0, k1, k2, k3, n1, n2, n3, q0, q1, q2, q3]; first | done | exact vp_in_nI (by omega) (by omega) | exact ⟨rfl, vp_in_nI (by omega) (by omega)⟩ | exact ⟨trivial, vp_in_nI (by omega) (by omega)⟩ | (simp only [true_and]; exact vp_in_nI (by omega) (by omega)) | assumption) ?_)
      refine zW_e (τ := zTa σ t ly hd (zu sz i (nI 0)) mk) (by rw [e]; simp (disch := omega) only [zh, zh_st, ↓reduceIte, Nat.add_left_cancel_iff, Nat.reduceEqDiff, Nat.add_sub_cancel, Nat.reduceAdd, Nat.reduceSub, Nat.reduceMul, ← nI_0, zu_same, zu_ne, zoi, zoi_m1, nI_add, pk_mul, pk_sub, zcl, nI_leI, nI_ltI, nI_eq, zTa_k, zTa_ly, zTa_hd, zTa_sz, zTa_mk, zTa_r, q3]) ?_
      exact ih (i + 1) (by omega) _ (by simp (disch := omega) only [zh, zh_st, ↓reduceIte, Nat.add_left_cancel_iff, Nat.reduceEqDiff, Nat.add_sub_cancel, Nat.reduceAdd, Nat.reduceSub, Nat.reduceMul, ← nI_0, zu_same, zu_ne, zoi, zoi_m1, nI_add, pk_mul, pk_sub, zcl, nI_leI, nI_ltI, nI_eq, ]) _ (by rw [zfl_u _ _ (by omega)]; exact hQ)
set_option maxHeartbeats 1000000 in
theorem e_clear {d t : Nat} {σ : zH} (hT : zTb σ t) {ly hd sz : Nat → Int32} {mk : Int32} {Q : Option Value → zH → Prop} (hQ : Q none (zTa σ t ly hd (zfl sz 0 4 (nI 0)) (nI 0))) : zM d 58 [.ref t] (zTa σ t ly hd sz mk) Q := by
  obtain ⟨τ, e, eK, eN, eQ, k0, k1, k2, k3, n1, n2, n3, q0, q1, q2, q3, r1, r2, r3, r4⟩ := zTb_f hT ly hd sz mk
  rw [← e]
  unfold zM
  iterate 8 (first | refine zW_s rfl ?_ | refine zW_p rfl (by simp (disch := omega) only [zh, zh_st, ↓reduceIte, Nat.add_left_cancel_iff, Nat.reduceEqDiff, Nat.add_sub_cancel, Nat.reduceAdd, Nat.reduceSub, Nat.reduceMul, ← nI_0, zu_same, zu_ne, zoi, zoi_m1, nI_add, pk_mul, pk_sub, zcl, nI_leI, nI_ltI, nI_eq, eK, eN, eQ, k0, k1, k2, k3, n1, n2, n3, q0, q1, q2, q3]; first | done | exact vp_in_nI (by omega) (by omega) | exact ⟨rfl, vp_in_nI (by omega) (by omega)⟩ | exact ⟨trivial, vp_in_nI (by omega) (by omega)⟩ | (simp only [true_and]; exact vp_in_nI (by omega) (by omega)) | assumption) ?_)
  refine zW_e (τ := zTa σ t ly hd sz (nI 0)) (by rw [e]; simp (disch := omega) only [zh, zh_st, ↓reduceIte, Nat.add_left_cancel_iff, Nat.reduceEqDiff, Nat.add_sub_cancel, Nat.reduceAdd, Nat.reduceSub, Nat.reduceMul, ← nI_0, zu_same, zu_ne, zoi, zoi_m1, nI_add, pk_mul, pk_sub, zcl, nI_leI, nI_ltI, nI_eq, zTa_k, zTa_ly, zTa_hd, zTa_sz, zTa_mk, zTa_r]) ?_
  exact l_clear hT 4 0 rfl _ rfl _ hQ
