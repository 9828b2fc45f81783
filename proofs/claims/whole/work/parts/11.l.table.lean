theorem zTR_del {ly sz : Nat → Int32} {P : Nat → List Nat} (h : zTR ly sz P) {p k : Nat} (hp : p < 4) (hk : 1 ≤ k ∧ k ≤ (P p).length) : zTR (zcq ly (fun j => ly (16 * p + ((P p).length - k) + j + 1)) (16 * p + ((P p).length - k)) (k - 1)) (zu sz p (nI ((P p).length - 1))) (zu P p ((P p).eraseIdx (k - 1))) := by
  have h4 := (h p hp).2.1
  intro q hq
  obtain ⟨h1, h2, h3⟩ := h q hq
  by_cases hqp : q = p
  · subst hqp
    rw [zu_same, zu_same, List.length_eraseIdx_of_lt (by omega)]
    refine ⟨rfl, by omega, fun i hi => ?_⟩
    by_cases hi2 : (P q).length - k ≤ i
    · rw [show 16 * q + i = 16 * q + ((P q).length - k) + (i - ((P q).length - k)) by omega, zcq_in (by omega), show 16 * q + ((P q).length - k) + (i - ((P q).length - k)) + 1 = 16 * q + (i + 1) by omega, h3 _ (by omega)]
      congr 1
      rw [List.getD_eq_getElem?_getD, List.getD_eq_getElem?_getD, List.getElem?_eraseIdx_of_lt (by omega)]
      congr 2
      omega
    · rw [zcq_out (by omega), h3 _ (by omega)]
      congr 1
      rw [List.getD_eq_getElem?_getD, List.getD_eq_getElem?_getD, List.getElem?_eraseIdx_of_ge (by omega)]
      congr 2
      omega
  · rw [zu_ne _ _ hqp, zu_ne _ _ hqp]
    refine ⟨h1, h2, fun i hi => ?_⟩
    rw [zcq_out (by omega), h3 i hi]
set_option maxHeartbeats 2000000 in
theorem l_take {d t p n b : Nat} {σ : zH} (hT : zTb σ t) {ly hd sz : Nat → Int32} {mk c : Int32} {kk qq : Int32} (hp : p < 4) (hn : n ≤ 9) (hb : b < n) (hs : sz p = nI n) {Q : Option Value → zH → Prop} (hQ : ∀ lc, lc = [(0, Value.ref t), (1, .int (nI p)), (2, .int kk), (3, .int qq), (4, .int c)] → zW d 76 69 lc [] (zTa σ t (zcq ly (fun j => ly (16 * p + b + j + 1)) (16 * p + b) (n - 1 - b)) hd sz mk) Q) : ∀ (m i : Nat), i + m = n - 1 → b ≤ i → ∀ (x : Int32), x = nI i → zW d 76 24 [(0, .ref t), (1, .int (nI p)), (2, .int kk), (3, .int qq), (4, .int c), (5, .int x)] [] (zTa σ t (zcq ly (fun j => ly (16 * p + b + j + 1)) (16 * p + b) (i - b)) hd sz mk) Q := by
  have ⟨k0, k1, k2, k3, n1, n2, n3, q0, q1, q2, q3⟩ := hT
  intro m
  induction m with
  | zero =>
    intro i hi hbi x hx
    subst hx
    iterate 8 (first | refine zW_s rfl ?_ | refine zW_p rfl (by simp (disch := omega) only [zh, zh_st, ↓reduceIte, Nat.add_left_cancel_iff, Nat.reduceEqDiff, Nat.add_sub_cancel, Nat.reduceAdd, Nat.reduceSub, Nat.reduceMul, ← nI_0, zu_same, zu_ne, zoi, zoi_m1, nI_add, pk_mul, pk_sub, zcl, nI_leI, nI_ltI, nI_eq, zTa_k, zTa_ly, zTa_hd, zTa_sz, zTa_mk, zTa_r, k0, k3, q3, n3]; first | done | exact vp_in_nI (by omega) (by omega) | exact ⟨rfl, vp_in_nI (by omega) (by omega)⟩ | exact ⟨trivial, vp_in_nI (by omega) (by omega)⟩ | (simp only [true_and]; exact vp_in_nI (by omega) (by omega)) | assumption) ?_)
    simp (disch := omega) only [zoi, zcl, pk_sub, zTa_k, zTa_ly, zTa_hd, zTa_sz, zTa_mk, zTa_r, q3, hs]
    refine zW_if (fun _ => ?_) (fun h => ?_)
    · refine zW_k [0, 1, 2, 3, 4] rfl ?_
      rw [show i = n - 1 by omega]
      exact hQ _ rfl
    · exfalso
      simp (disch := omega) only [zh, zh_st, ↓reduceIte, Nat.add_left_cancel_iff, Nat.reduceEqDiff, Nat.add_sub_cancel, Nat.reduceAdd, Nat.reduceSub, Nat.reduceMul, ← nI_0, zu_same, zu_ne, zoi, zoi_m1, nI_add, pk_mul, pk_sub, zcl, nI_leI, nI_ltI, nI_eq, ] at h
      omega
  | succ m ih =>
    intro i hi hbi x hx
    subst hx
    iterate 8 (first | refine zW_s rfl ?_ | refine zW_p rfl (by simp (disch := omega) only [zh, zh_st, ↓reduceIte, Nat.add_left_cancel_iff, Nat.reduceEqDiff, Nat.add_sub_cancel, Nat.reduceAdd, Nat.reduceSub, Nat.reduceMul, ← nI_0, zu_same, zu_ne, zoi, zoi_m1, nI_add, pk_mul, pk_sub, zcl, nI_leI, nI_ltI, nI_eq, zTa_k, zTa_ly, zTa_hd, zTa_sz, zTa_mk, zTa_r, k0, k3, q3, n3]; first | done | exact vp_in_nI (by omega) (by omega) | exact ⟨rfl, vp_in_nI (by omega) (by omega)⟩ | exact ⟨trivial, vp_in_nI (by omega) (by omega)⟩ | (simp only [true_and]; exact vp_in_nI (by omega) (by omega)) | assumption) ?_)
    simp (disch := omega) only [zoi, zcl, pk_sub, zTa_k, zTa_ly, zTa_hd, zTa_sz, zTa_mk, zTa_r, q3, hs]
    refine zW_if (fun h => ?_) (fun _ => ?_)
    · exfalso
      simp (disch := omega) only [zh, zh_st, ↓reduceIte, Nat.add_left_cancel_iff, Nat.reduceEqDiff, Nat.add_sub_cancel, Nat.reduceAdd, Nat.reduceSub, Nat.reduceMul, ← nI_0, zu_same, zu_ne, zoi, zoi_m1, nI_add, pk_mul, pk_sub, zcl, nI_leI, nI_ltI, nI_eq, ] at h
      omega
    · iterate 18 (first | refine zW_s rfl ?_ | refine zW_p rfl (by simp (disch := omega) only [zh, zh_st, ↓reduceIte, Nat.add_left_cancel_iff, Nat.reduceEqDiff, Nat.add_sub_cancel, Nat.reduceAdd, Nat.reduceSub, Nat.reduceMul, ← nI_0, zu_same, zu_ne, zoi, zoi_m1, nI_add, pk_mul, pk_sub, zcl, nI_leI, nI_ltI, nI_eq, zTa_k, zTa_ly, zTa_hd, zTa_sz, zTa_mk, zTa_r, k0, k1, q1, n1]; first | done | exact vp_in_nI (by omega) (by omega) | exact ⟨rfl, vp_in_nI (by omega) (by omega)⟩ | exact ⟨trivial, vp_in_nI (by omega) (by omega)⟩ | (simp only [true_and]; exact vp_in_nI (by omega) (by omega)) | assumption) ?_)
      refine zW_e (τ := zTa σ t (zcq ly (fun j => ly (16 * p + b + j + 1)) (16 * p + b) (i + 1 - b)) hd sz mk) (by
        simp (disch := omega) only [zh, zh_st, ↓reduceIte, Nat.add_left_cancel_iff, Nat.reduceEqDiff, Nat.add_sub_cancel, Nat.reduceAdd, Nat.reduceSub, Nat.reduceMul, ← nI_0, zu_same, zu_ne, zoi, zoi_m1, nI_add, pk_mul, pk_sub, zcl, nI_leI, nI_ltI, nI_eq, zTa_k, zTa_ly, zTa_hd, zTa_sz, zTa_mk, zTa_r, q1]
        rw [zcq_out (j := p * 16 + i + 1) (by omega), show i + 1 - b = i - b + 1 by omega, ← zcq_u]
        rw [show 16 * p + b + (i - b) = p * 16 + i by omega]) ?_
      iterate 2 (first | refine zW_s rfl ?_ | refine zW_p rfl (by simp (disch := omega) only [zh, zh_st, ↓reduceIte, Nat.add_left_cancel_iff, Nat.reduceEqDiff, Nat.add_sub_cancel, Nat.reduceAdd, Nat.reduceSub, Nat.reduceMul, ← nI_0, zu_same, zu_ne, zoi, zoi_m1, nI_add, pk_mul, pk_sub, zcl, nI_leI, nI_ltI, nI_eq, ]; first | done | exact vp_in_nI (by omega) (by omega) | exact ⟨rfl, vp_in_nI (by omega) (by omega)⟩ | exact ⟨trivial, vp_in_nI (by omega) (by omega)⟩ | (simp only [true_and]; exact vp_in_nI (by omega) (by omega)) | assumption) ?_)
      exact ih (i + 1) (by omega) (by omega) _ (by simp (disch := omega) only [zh, zh_st, ↓reduceIte, Nat.add_left_cancel_iff, Nat.reduceEqDiff, Nat.add_sub_cancel, Nat.reduceAdd, Nat.reduceSub, Nat.reduceMul, ← nI_0, zu_same, zu_ne, zoi, zoi_m1, nI_add, pk_mul, pk_sub, zcl, nI_leI, nI_ltI, nI_eq, ])
set_option maxHeartbeats 2000000 in
theorem e_take {d t p q k : Nat} {σ : zH} (hT : zTb σ t) {ly hd sz : Nat → Int32} {mk : Int32} {P : Nat → List Nat} (hR : zTR ly sz P) (hp : p < 4) (hq : q < 4) (hpq : p ≠ q) (hk : k < 2 ^ 31) (ht : zTot P ≤ 9) (h32 : ∀ c ∈ P p, 0 < c ∧ c < 32) {Q : Option Value → zH → Prop} (hQ : ∀ ly' sz', zTR ly' sz' (if 1 ≤ k ∧ k ≤ (P p).length then zu (zu P p ((P p).eraseIdx (k - 1))) q ((P p).getD (k - 1) 0 :: P q) else P) → Q none (zTa σ t ly' hd sz' mk)) : zM (d + 1) 76 [.ref t, .int (nI p), .int (nI k), .int (nI q)] (zTa σ t ly hd sz mk) Q := by
  have ⟨k0, k1, k2, k3, n1, n2, n3, q0, q1, q2, q3⟩ := hT
  obtain ⟨g1, g2, g3⟩ := hR p hp
  unfold zM
  iterate 3 (first | refine zW_s rfl ?_ | refine zW_p rfl (by simp (disch := omega) only [zh, zh_st, ↓reduceIte, Nat.add_left_cancel_iff, Nat.reduceEqDiff, Nat.add_sub_cancel, Nat.reduceAdd, Nat.reduceSub, Nat.reduceMul, ← nI_0, zu_same, zu_ne, zoi, zoi_m1, nI_add, pk_mul, pk_sub, zcl, nI_leI, nI_ltI, nI_eq, ]; first | done | exact vp_in_nI (by omega) (by omega) | exact ⟨rfl, vp_in_nI (by omega) (by omega)⟩ | exact ⟨trivial, vp_in_nI (by omega) (by omega)⟩ | (simp only [true_and]; exact vp_in_nI (by omega) (by omega)) | assumption) ?_)
  refine zW_c rfl (by simp only [zTa_k]; exact hT.1) ?_
  refine s_cardAt hT hR hp hk ?_
  iterate 3 (first | refine zW_s rfl ?_ | refine zW_p rfl (by simp (disch := omega) only [zh, zh_st, ↓reduceIte, Nat.add_left_cancel_iff, Nat.reduceEqDiff, Nat.add_sub_cancel, Nat.reduceAdd, Nat.reduceSub, Nat.reduceMul, ← nI_0, zu_same, zu_ne, zoi, zoi_m1, nI_add, pk_mul, pk_sub, zcl, nI_leI, nI_ltI, nI_eq, ]; first | done | exact vp_in_nI (by omega) (by omega) | exact ⟨rfl, vp_in_nI (by omega) (by omega)⟩ | exact ⟨trivial, vp_in_nI (by omega) (by omega)⟩ | (simp only [true_and]; exact vp_in_nI (by omega) (by omega)) | assumption) ?_)
  by_cases hk1 : 1 ≤ k ∧ k ≤ (P p).length
  · rw [if_pos hk1.1]
    rw [if_pos hk1] at hQ
    have hmem : (P p).getD (k - 1) 0 ∈ P p := by rw [List.getD_eq_getElem?_getD, List.getElem?_eq_getElem (by omega)]; exact List.getElem_mem _
    obtain ⟨c1, c2⟩ := h32 _ hmem
    refine zW_if (fun _ => ?_) (fun h => ?_)
    · iterate 7 (first | refine zW_s rfl ?_ | refine zW_p rfl (by simp (disch := omega) only [zh, zh_st, ↓reduceIte, Nat.add_left_cancel_iff, Nat.reduceEqDiff, Nat.add_sub_cancel, Nat.reduceAdd, Nat.reduceSub, Nat.reduceMul, ← nI_0, zu_same, zu_ne, zoi, zoi_m1, nI_add, pk_mul, pk_sub, zcl, nI_leI, nI_ltI, nI_eq, zTa_k, zTa_ly, zTa_hd, zTa_sz, zTa_mk, zTa_r, k0, k3, q3, n3]; first | done | exact vp_in_nI (by omega) (by omega) | exact ⟨rfl, vp_in_nI (by omega) (by omega)⟩ | exact ⟨trivial, vp_in_nI (by omega) (by omega)⟩ | (simp only [true_and]; exact vp_in_nI (by omega) (by omega)) | assumption) ?_)
      simp (disch := omega) only [zoi, zcl, pk_sub, zTa_k, zTa_ly, zTa_hd, zTa_sz, zTa_mk, zTa_r, q3, g1]
      refine zW_e (τ := zTa σ t (zcq ly (fun j => ly (16 * p + ((P p).length - k) + j + 1)) (16 * p + ((P p).length - k)) ((P p).length - k - ((P p).length - k))) hd sz mk) (by rw [Nat.sub_self, zcq_0]) ?_
      refine l_take hT hp g2 (by omega) g1 (fun lc hlc => ?_) (k - 1) ((P p).length - k) (by omega) (by omega) _ rfl
      subst hlc
      rw [show (P p).length - 1 - ((P p).length - k) = k - 1 by omega]
      iterate 8 (first | refine zW_s rfl ?_ | refine zW_p rfl (by simp (disch := omega) only [zh, zh_st, ↓reduceIte, Nat.add_left_cancel_iff, Nat.reduceEqDiff, Nat.add_sub_cancel, Nat.reduceAdd, Nat.reduceSub, Nat.reduceMul, ← nI_0, zu_same, zu_ne, zoi, zoi_m1, nI_add, pk_mul, pk_sub, zcl, nI_leI, nI_ltI, nI_eq, zTa_k, zTa_ly, zTa_hd, zTa_sz, zTa_mk, zTa_r, k0, k3, q3, n3, g1]; first | done | exact vp_in_nI (by omega) (by omega) | exact ⟨rfl, vp_in_nI (by omega) (by omega)⟩ | exact ⟨trivial, vp_in_nI (by omega) (by omega)⟩ | (simp only [true_and]; exact vp_in_nI (by omega) (by omega)) | assumption) ?_)
      refine zW_e (τ := zTa σ t (zcq ly (fun j => ly (16 * p + ((P p).length - k) + j + 1)) (16 * p + ((P p).length - k)) (k - 1)) hd (zu sz p (nI ((P p).length - 1))) mk) (by simp (disch := omega) only [zh, zh_st, ↓reduceIte, Nat.add_left_cancel_iff, Nat.reduceEqDiff, Nat.add_sub_cancel, Nat.reduceAdd, Nat.reduceSub, Nat.reduceMul, ← nI_0, zu_same, zu_ne, zoi, zoi_m1, nI_add, pk_mul, pk_sub, zcl, nI_leI, nI_ltI, nI_eq, zTa_k, zTa_ly, zTa_hd, zTa_sz, zTa_mk, zTa_r, q3, g1]) ?_
      iterate 3 (first | refine zW_s rfl ?_ | refine zW_p rfl (by simp (disch := omega) only [zh, zh_st, ↓reduceIte, Nat.add_left_cancel_iff, Nat.reduceEqDiff, Nat.add_sub_cancel, Nat.reduceAdd, Nat.reduceSub, Nat.reduceMul, ← nI_0, zu_same, zu_ne, zoi, zoi_m1, nI_add, pk_mul, pk_sub, zcl, nI_leI, nI_ltI, nI_eq, ]; first | done | exact vp_in_nI (by omega) (by omega) | exact ⟨rfl, vp_in_nI (by omega) (by omega)⟩ | exact ⟨trivial, vp_in_nI (by omega) (by omega)⟩ | (simp only [true_and]; exact vp_in_nI (by omega) (by omega)) | assumption) ?_)
      refine zW_c rfl (by simp only [zTa_k]; exact hT.1) ?_
      have h2 := zTot_le2 (P := P) hp hq hpq
      refine s_push hT (zTR_del hR hp hk1) hq (by rw [zu_ne _ _ (fun h => hpq h.symm)]; omega) (fun ly2 sz2 hR2 => ?_)
      rw [zu_ne (f := P) _ (fun h => hpq h.symm)] at hR2
      refine zW_r rfl trivial ?_
      exact hQ _ _ hR2
    · exfalso
      simp (disch := omega) only [zh, zh_st, ↓reduceIte, Nat.add_left_cancel_iff, Nat.reduceEqDiff, Nat.add_sub_cancel, Nat.reduceAdd, Nat.reduceSub, Nat.reduceMul, ← nI_0, zu_same, zu_ne, zoi, zoi_m1, nI_add, pk_mul, pk_sub, zcl, nI_leI, nI_ltI, nI_eq, ] at h
      omega
  · rw [if_neg hk1] at hQ
    have h0 : (if 1 ≤ k then (P p).getD (k - 1) 0 else 0) = 0 := by
      by_cases hk2 : 1 ≤ k
      · rw [if_pos hk2, List.getD_eq_getElem?_getD, List.getElem?_eq_none (by omega)]; rfl
      · rw [if_neg hk2]
    rw [h0]
    refine zW_if (fun h => absurd nI_0 h) (fun _ => ?_)
    refine zW_r rfl trivial ?_
    exact hQ _ _ hR
