theorem zTR_set {ly sz : Nat → Int32} {P : Nat → List Nat} (h : zTR ly sz P) {p k : Nat} (hp : p < 4) (hk : 1 ≤ k ∧ k ≤ (P p).length) (c : Nat) : zTR (zu ly (16 * p + ((P p).length - k)) (nI c)) sz (zu P p ((P p).set (k - 1) c)) := by
  have h4 := (h p hp).2.1
  intro q hq
  obtain ⟨h1, h2, h3⟩ := h q hq
  by_cases hqp : q = p
  · subst hqp
    rw [zu_same, List.length_set]
    refine ⟨h1, h2, fun i hi => ?_⟩
    by_cases hi2 : i = (P q).length - k
    · subst hi2
      rw [zu_same, List.getD_eq_getElem?_getD, show (P q).length - 1 - ((P q).length - k) = k - 1 by omega, List.getElem?_set_self (by omega)]
      rfl
    · rw [zu_ne _ _ (by omega), h3 i hi, List.getD_eq_getElem?_getD, List.getD_eq_getElem?_getD, List.getElem?_set_ne (by omega)]
  · rw [zu_ne _ _ hqp]
    refine ⟨h1, h2, fun i hi => ?_⟩
    rw [zu_ne _ _ (by omega), h3 i hi]
set_option maxHeartbeats 1000000 in
theorem e_flip {d t p k : Nat} {σ : zH} (hT : zTb σ t) {ly hd sz : Nat → Int32} {mk : Int32} {P : Nat → List Nat} (hR : zTR ly sz P) (hp : p < 4) (hk : k < 2 ^ 31) (h32 : ∀ c ∈ P p, 0 < c ∧ c < 32) {Q : Option Value → zH → Prop} (hQ : ∀ ly', zTR ly' sz (if 1 ≤ k ∧ k ≤ (P p).length then zu P p ((P p).set (k - 1) ((P p).getD (k - 1) 0 ^^^ 16)) else P) → Q none (zTa σ t ly' hd sz mk)) : zM (d + 1) 78 [.ref t, .int (nI p), .int (nI k)] (zTa σ t ly hd sz mk) Q := by
  have ⟨k0, k1, k2, k3, n1, n2, n3, q0, q1, q2, q3⟩ := hT
  obtain ⟨g1, g2, g3⟩ := hR p hp
  unfold zM
  iterate 3 (first | refine zW_s rfl ?_ | refine zW_p rfl (by simp (disch := omega) only [zh, zh_st, ↓reduceIte, Nat.add_left_cancel_iff, Nat.reduceEqDiff, Nat.add_sub_cancel, Nat.reduceAdd, Nat.reduceSub, Nat.reduceMul, ← nI_0, zu_same, zu_ne, zoi, zoi_m1, nI_add, pk_mul, pk_sub, zcl, nI_leI, nI_ltI, nI_eq, ]; first | done | exact vp_in_nI (by omega) (by omega) | exact ⟨rfl, vp_in_nI (by omega) (by omega)⟩ | exact ⟨trivial, vp_in_nI (by omega) (by omega)⟩ | (simp only [true_and]; exact vp_in_nI (by omega) (by omega)) | assumption) ?_)
  refine zW_c rfl (by simp only [zTa_k]; exact hT.1) ?_
  refine s_cardAt hT hR hp hk ?_
  iterate 1 (first | refine zW_s rfl ?_ | refine zW_p rfl (by simp (disch := omega) only [zh, zh_st, ↓reduceIte, Nat.add_left_cancel_iff, Nat.reduceEqDiff, Nat.add_sub_cancel, Nat.reduceAdd, Nat.reduceSub, Nat.reduceMul, ← nI_0, zu_same, zu_ne, zoi, zoi_m1, nI_add, pk_mul, pk_sub, zcl, nI_leI, nI_ltI, nI_eq, ]; first | done | exact vp_in_nI (by omega) (by omega) | exact ⟨rfl, vp_in_nI (by omega) (by omega)⟩ | exact ⟨trivial, vp_in_nI (by omega) (by omega)⟩ | (simp only [true_and]; exact vp_in_nI (by omega) (by omega)) | assumption) ?_)
  by_cases hk1 : 1 ≤ k ∧ k ≤ (P p).length
  · rw [if_pos hk1.1]
    rw [if_pos hk1] at hQ
    have hmem : (P p).getD (k - 1) 0 ∈ P p := by rw [List.getD_eq_getElem?_getD, List.getElem?_eq_getElem (by omega)]; exact List.getElem_mem _
    obtain ⟨c1, c2⟩ := h32 _ hmem
    have g4 := g3 ((P p).length - k) (by omega)
    rw [show (P p).length - 1 - ((P p).length - k) = k - 1 by omega] at g4
    refine zW_if (fun h => ?_) (fun _ => ?_)
    · exfalso
      simp (disch := omega) only [zh, zh_st, ↓reduceIte, Nat.add_left_cancel_iff, Nat.reduceEqDiff, Nat.add_sub_cancel, Nat.reduceAdd, Nat.reduceSub, Nat.reduceMul, ← nI_0, zu_same, zu_ne, zoi, zoi_m1, nI_add, pk_mul, pk_sub, zcl, nI_leI, nI_ltI, nI_eq, ] at h
      omega
    · iterate 12 (first | refine zW_s rfl ?_ | refine zW_p rfl (by simp (disch := omega) only [zh, zh_st, ↓reduceIte, Nat.add_left_cancel_iff, Nat.reduceEqDiff, Nat.add_sub_cancel, Nat.reduceAdd, Nat.reduceSub, Nat.reduceMul, ← nI_0, zu_same, zu_ne, zoi, zoi_m1, nI_add, pk_mul, pk_sub, zcl, nI_leI, nI_ltI, nI_eq, zTa_k, zTa_ly, zTa_hd, zTa_sz, zTa_mk, zTa_r, k0, k1, k3, q1, q3, n1, n3, g1]; first | done | exact vp_in_nI (by omega) (by omega) | exact ⟨rfl, vp_in_nI (by omega) (by omega)⟩ | exact ⟨trivial, vp_in_nI (by omega) (by omega)⟩ | (simp only [true_and]; exact vp_in_nI (by omega) (by omega)) | assumption) ?_)
      simp (disch := omega) only [zoi, zcl, pk_mul, nI_add, pk_sub, zTa_k, zTa_ly, zTa_hd, zTa_sz, zTa_mk, zTa_r, q1, q3, g1]
      rw [show p * 16 + (P p).length - k = 16 * p + ((P p).length - k) by omega]
      iterate 5 (first | refine zW_s rfl ?_ | refine zW_p rfl (by simp (disch := omega) only [zh, zh_st, ↓reduceIte, Nat.add_left_cancel_iff, Nat.reduceEqDiff, Nat.add_sub_cancel, Nat.reduceAdd, Nat.reduceSub, Nat.reduceMul, ← nI_0, zu_same, zu_ne, zoi, zoi_m1, nI_add, pk_mul, pk_sub, zcl, nI_leI, nI_ltI, nI_eq, zTa_k, zTa_ly, zTa_hd, zTa_sz, zTa_mk, zTa_r, k0, k1, k3, q1, q3, n1, n3, g1]; first | done | exact vp_in_nI (by omega) (by omega) | exact ⟨rfl, vp_in_nI (by omega) (by omega)⟩ | exact ⟨trivial, vp_in_nI (by omega) (by omega)⟩ | (simp only [true_and]; exact vp_in_nI (by omega) (by omega)) | assumption) ?_)
      refine zW_e (τ := zTa σ t (zu ly (16 * p + ((P p).length - k)) (nI ((P p).getD (k - 1) 0 ^^^ 16))) hd sz mk) (by simp (disch := omega) only [zh, zh_st, ↓reduceIte, Nat.add_left_cancel_iff, Nat.reduceEqDiff, Nat.add_sub_cancel, Nat.reduceAdd, Nat.reduceSub, Nat.reduceMul, ← nI_0, zu_same, zu_ne, zoi, zoi_m1, nI_add, pk_mul, pk_sub, zcl, nI_leI, nI_ltI, nI_eq, zTa_k, zTa_ly, zTa_hd, zTa_sz, zTa_mk, zTa_r, g4, nI_xor]) ?_
      refine zW_r rfl trivial ?_
      exact hQ _ (zTR_set hR hp hk1 _)
  · rw [if_neg hk1] at hQ
    have h0 : (if 1 ≤ k then (P p).getD (k - 1) 0 else 0) = 0 := by
      by_cases hk2 : 1 ≤ k
      · rw [if_pos hk2, List.getD_eq_getElem?_getD, List.getElem?_eq_none (by omega)]; rfl
      · rw [if_neg hk2]
    rw [h0]
    refine zW_if (fun _ => ?_) (fun h => absurd nI_0 h)
    refine zW_r rfl trivial ?_
    exact hQ _ hR
/-- the first i places of the rows of piles p and q are exchanged -/
def zsp (f : Nat → Int32) (p q i : Nat) : Nat → Int32 := fun j => if 16 * p ≤ j ∧ j < 16 * p + i then f (16 * q + (j - 16 * p)) else if 16 * q ≤ j ∧ j < 16 * q + i then f (16 * p + (j - 16 * q)) else f j
theorem zsp_u {f : Nat → Int32} {p q i : Nat} (hpq : p ≠ q) (hi : i < 16) : zu (zu (zsp f p q i) (16 * p + i) (zsp f p q i (16 * q + i))) (16 * q + i) (zsp f p q i (16 * p + i)) = zsp f p q (i + 1) := by
  have a1 : zsp f p q i (16 * q + i) = f (16 * q + i) := by unfold zsp; rw [if_neg (by omega), if_neg (by omega)]
  have a2 : zsp f p q i (16 * p + i) = f (16 * p + i) := by unfold zsp; rw [if_neg (by omega), if_neg (by omega)]
  rw [a1, a2]
  funext j
  unfold zu zsp
  by_cases h1 : j = 16 * q + i
  · rw [if_pos h1, if_neg (by omega), if_pos (by omega), show j - 16 * q = i by omega]
  · rw [if_neg h1]
    by_cases h2 : j = 16 * p + i
    · rw [if_pos h2, if_pos (by omega), show j - 16 * p = i by omega]
    · rw [if_neg h2]
      by_cases h3 : 16 * p ≤ j ∧ j < 16 * p + i
      · rw [if_pos h3, if_pos (by omega)]
      · rw [if_neg h3, if_neg (show ¬ (16 * p ≤ j ∧ j < 16 * p + (i + 1)) by omega)]
        by_cases h4 : 16 * q ≤ j ∧ j < 16 * q + i
        · rw [if_pos h4, if_pos (by omega)]
        · rw [if_neg h4, if_neg (by omega)]
set_option maxHeartbeats 2000000 in
theorem l_swap {d t p q : Nat} {σ : zH} (hT : zTb σ t) {ly hd sz : Nat → Int32} {mk : Int32} (hp : p < 4) (hq : q < 4) (hpq : p ≠ q) {Q : Option Value → zH → Prop} (hQ : Q none (zTa σ t (zsp ly p q 16) hd (zu (zu sz p (sz q)) q (sz p)) mk)) : ∀ (m i : Nat), i + m = 16 → ∀ (x : Int32), x = nI i → ∀ (lx : zC), zW d 82 (if Int32.ofInt 16 ≤ x then 62 else 8) ([(0, .ref t), (1, .int (nI p)), (2, .int (nI q)), (3, .int x)] ++ lx) [] (zTa σ t (zsp ly p q i) hd sz mk) Q := by
  have ⟨k0, k1, k2, k3, n1, n2, n3, q0, q1, q2, q3⟩ := hT
  intro m
  induction m with
  | zero =>
    intro i hi x hx lx
    subst hx
    refine zW_k [0, 1, 2, 3] rfl ?_
    refine zW_if (fun _ => ?_) (fun h => ?_)
    · rw [show i = 16 by omega]
      iterate 18 (first | refine zW_s rfl ?_ | refine zW_p rfl (by simp (disch := omega) only [zh, zh_st, ↓reduceIte, Nat.add_left_cancel_iff, Nat.reduceEqDiff, Nat.add_sub_cancel, Nat.reduceAdd, Nat.reduceSub, Nat.reduceMul, ← nI_0, zu_same, zu_ne, zoi, zoi_m1, nI_add, pk_mul, pk_sub, zcl, nI_leI, nI_ltI, nI_eq, zTa_k, zTa_ly, zTa_hd, zTa_sz, zTa_mk, zTa_r, k0, k1, k3, q1, q3, n1, n3]; first | done | exact vp_in_nI (by omega) (by omega) | exact ⟨rfl, vp_in_nI (by omega) (by omega)⟩ | exact ⟨trivial, vp_in_nI (by omega) (by omega)⟩ | (simp only [true_and]; exact vp_in_nI (by omega) (by omega)) | assumption) ?_)
      refine zW_e (τ := zTa σ t (zsp ly p q 16) hd (zu (zu sz p (sz q)) q (sz p)) mk) (by simp (disch := omega) only [zh, zh_st, ↓reduceIte, Nat.add_left_cancel_iff, Nat.reduceEqDiff, Nat.add_sub_cancel, Nat.reduceAdd, Nat.reduceSub, Nat.reduceMul, ← nI_0, zu_same, zu_ne, zoi, zoi_m1, nI_add, pk_mul, pk_sub, zcl, nI_leI, nI_ltI, nI_eq, zTa_k, zTa_ly, zTa_hd, zTa_sz, zTa_mk, zTa_r, q3]) ?_
      refine zW_r rfl trivial ?_
      exact hQ
    · exfalso
      simp (disch := omega) only [zh, zh_st, ↓reduceIte, Nat.add_left_cancel_iff, Nat.reduceEqDiff, Nat.add_sub_cancel, Nat.reduceAdd, Nat.reduceSub, Nat.reduceMul, ← nI_0, zu_same, zu_ne, zoi, zoi_m1, nI_add, pk_mul, pk_sub, zcl, nI_leI, nI_ltI, nI_eq, ] at h
      omega
  | succ m ih =>
    intro i hi x hx lx
    subst hx
    refine zW_k [0, 1, 2, 3] rfl ?_
    refine zW_if (fun h => ?_) (fun _ => ?_)
    · exfalso
      simp (disch := omega) only [zh, zh_st, ↓reduceIte, Nat.add_left_cancel_iff, Nat.reduceEqDiff, Nat.add_sub_cancel, Nat.reduceAdd, Nat.reduceSub, Nat.reduceMul, ← nI_0, zu_same, zu_ne, zoi, zoi_m1, nI_add, pk_mul, pk_sub, zcl, nI_leI, nI_ltI, nI_eq, ] at h
      omega
    · iterate 34 (first | refine zW_s rfl ?_ | refine zW_p rfl (by simp (disch := omega) only [zh, zh_st, ↓reduceIte, Nat.add_left_cancel_iff, Nat.reduceEqDiff, Nat.add_sub_cancel, Nat.reduceAdd, Nat.reduceSub, Nat.reduceMul, ← nI_0, zu_same, zu_ne, zoi, zoi_m1, nI_add, pk_mul, pk_sub, zcl, nI_leI, nI_ltI, nI_eq, zTa_k, zTa_ly, zTa_hd, zTa_sz, zTa_mk, zTa_r, k0, k1, k3, q1, q3, n1, n3]; first | done | exact vp_in_nI (by omega) (by omega) | exact ⟨rfl, vp_in_nI (by omega) (by omega)⟩ | exact ⟨trivial, vp_in_nI (by omega) (by omega)⟩ | (simp only [true_and]; exact vp_in_nI (by omega) (by omega)) | assumption) ?_)
      refine zW_e (τ := zTa σ t (zsp ly p q (i + 1)) hd sz mk) (by simp (disch := omega) only [zh, zh_st, ↓reduceIte, Nat.add_left_cancel_iff, Nat.reduceEqDiff, Nat.add_sub_cancel, Nat.reduceAdd, Nat.reduceSub, Nat.reduceMul, ← nI_0, zu_same, zu_ne, zoi, zoi_m1, nI_add, pk_mul, pk_sub, zcl, nI_leI, nI_ltI, nI_eq, zTa_k, zTa_ly, zTa_hd, zTa_sz, zTa_mk, zTa_r, q1]; rw [Nat.mul_comm p 16, Nat.mul_comm q 16, zsp_u hpq (by omega)]) ?_
      iterate 5 (first | refine zW_s rfl ?_ | refine zW_p rfl (by simp (disch := omega) only [zh, zh_st, ↓reduceIte, Nat.add_left_cancel_iff, Nat.reduceEqDiff, Nat.add_sub_cancel, Nat.reduceAdd, Nat.reduceSub, Nat.reduceMul, ← nI_0, zu_same, zu_ne, zoi, zoi_m1, nI_add, pk_mul, pk_sub, zcl, nI_leI, nI_ltI, nI_eq, ]; first | done | exact vp_in_nI (by omega) (by omega) | exact ⟨rfl, vp_in_nI (by omega) (by omega)⟩ | exact ⟨trivial, vp_in_nI (by omega) (by omega)⟩ | (simp only [true_and]; exact vp_in_nI (by omega) (by omega)) | assumption) ?_)
      exact ih (i + 1) (by omega) _ (by simp (disch := omega) only [zh, zh_st, ↓reduceIte, Nat.add_left_cancel_iff, Nat.reduceEqDiff, Nat.add_sub_cancel, Nat.reduceAdd, Nat.reduceSub, Nat.reduceMul, ← nI_0, zu_same, zu_ne, zoi, zoi_m1, nI_add, pk_mul, pk_sub, zcl, nI_leI, nI_ltI, nI_eq, ]) [_]
theorem s_swap {d t p q : Nat} {σ : zH} (hT : zTb σ t) {ly hd sz : Nat → Int32} {mk : Int32} {P : Nat → List Nat} (hR : zTR ly sz P) (hp : p < 4) (hq : q < 4) (hpq : p ≠ q) {Q : Option Value → zH → Prop} (hQ : ∀ ly' sz', zTR ly' sz' (zu (zu P p (P q)) q (P p)) → Q none (zTa σ t ly' hd sz' mk)) : zM d 82 [.ref t, .int (nI p), .int (nI q)] (zTa σ t ly hd sz mk) Q := by
  unfold zM
  iterate 5 (first | refine zW_s rfl ?_ | refine zW_p rfl (by simp (disch := omega) only [zh, zh_st, ↓reduceIte, Nat.add_left_cancel_iff, Nat.reduceEqDiff, Nat.add_sub_cancel, Nat.reduceAdd, Nat.reduceSub, Nat.reduceMul, ← nI_0, zu_same, zu_ne, zoi, zoi_m1, nI_add, pk_mul, pk_sub, zcl, nI_leI, nI_ltI, nI_eq, ]; first | done | exact vp_in_nI (by omega) (by omega) | exact ⟨rfl, vp_in_nI (by omega) (by omega)⟩ | exact ⟨trivial, vp_in_nI (by omega) (by omega)⟩ | (simp only [true_and]; exact vp_in_nI (by omega) (by omega)) | assumption) ?_)
  refine zW_e (τ := zTa σ t (zsp ly p q 0) hd sz mk) (by congr 1; funext j; unfold zsp; rw [if_neg (by omega), if_neg (by omega)]) ?_
  refine l_swap hT hp hq hpq (hQ _ _ ?_) 16 0 rfl _ rfl []
  intro r hr
  obtain ⟨h1, h2, h3⟩ := hR r hr
  obtain ⟨p1, p2, p3⟩ := hR p hp
  obtain ⟨q1, q2, q3⟩ := hR q hq
  by_cases hrq : r = q
  · subst hrq
    rw [zu_same, zu_same]
    refine ⟨p1, p2, fun i hi => ?_⟩
    rw [← p3 i hi]
    unfold zsp
    rw [if_neg (by omega), if_pos (by omega), show 16 * r + i - 16 * r = i by omega]
  · rw [zu_ne _ _ hrq, zu_ne _ _ hrq]
    by_cases hrp : r = p
    · subst hrp
      rw [zu_same, zu_same]
      refine ⟨q1, q2, fun i hi => ?_⟩
      rw [← q3 i hi]
      unfold zsp
      rw [if_pos (by omega), show 16 * r + i - 16 * r = i by omega]
    · rw [zu_ne _ _ hrp, zu_ne _ _ hrp]
      refine ⟨h1, h2, fun i hi => ?_⟩
      rw [← h3 i hi]
      unfold zsp
      rw [if_neg (by omega), if_neg (by omega)]
