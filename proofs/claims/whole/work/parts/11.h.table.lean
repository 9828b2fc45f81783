set_option maxHeartbeats 1000000 in
theorem l_turn1 {d t p mny : Nat} {σ : zH} (hT : zTb σ t) {mk : Int32} (hp : p < 4) (hm9 : mny ≤ 9) {Q : Option Value → zH → Prop} : ∀ (m i : Nat), i + m = mny → ∀ (x : Int32), x = nI i → ∀ (ly hd sz : Nat → Int32) (P : Nat → List Nat) (h : List Nat), zHD hd h → h.length = i → zTR ly sz P → m ≤ (P p).length → (P p).length + i ≤ 9 → (∀ ly' hd' sz', zTR ly' sz' (zu P p ((h ++ ((P p).take m).map (fun c => c ^^^ 16)).reverse ++ (P p).drop m)) → Q none (zTa σ t ly' hd' sz' mk)) → zW (d + 1) 77 (if nI mny ≤ x then 27 else 7) [(0, .ref t), (1, .int (nI p)), (2, .int (nI mny)), (3, .int x)] [] (zTa σ t ly hd sz mk) Q := by
  intro m
  induction m with
  | zero =>
    intro i hi x hx ly hd sz P h hh hl hR hm ht hQ
    subst hx
    refine zW_if (fun _ => ?_) (fun h => ?_)
    · iterate 5 (first | refine zW_s rfl ?_ | refine zW_p rfl (by simp (disch := omega) only [zh, zh_st, ↓reduceIte, Nat.add_left_cancel_iff, Nat.reduceEqDiff, Nat.add_sub_cancel, Nat.reduceAdd, Nat.reduceSub, Nat.reduceMul, ← nI_0, zu_same, zu_ne, zoi, zoi_m1, nI_add, pk_mul, pk_sub, zcl, nI_leI, nI_ltI, nI_eq, ]; first | done | exact vp_in_nI (by omega) (by omega) | exact ⟨rfl, vp_in_nI (by omega) (by omega)⟩ | exact ⟨trivial, vp_in_nI (by omega) (by omega)⟩ | (simp only [true_and]; exact vp_in_nI (by omega) (by omega)) | assumption) ?_)
      refine l_turn2 hT hh (by omega) hm9 hp mny 0 (by omega) _ rfl _ _ P hR (by omega) (fun ly' sz' hR' => ?_)
      refine hQ _ _ _ ?_
      rw [List.take_zero, List.map_nil, List.append_nil, List.drop_zero]
      rw [List.drop_zero] at hR'
      exact hR'
    · exfalso
      simp (disch := omega) only [zh, zh_st, ↓reduceIte, Nat.add_left_cancel_iff, Nat.reduceEqDiff, Nat.add_sub_cancel, Nat.reduceAdd, Nat.reduceSub, Nat.reduceMul, ← nI_0, zu_same, zu_ne, zoi, zoi_m1, nI_add, pk_mul, pk_sub, zcl, nI_leI, nI_ltI, nI_eq, ] at h
      omega
  | succ m ih =>
    intro i hi x hx ly hd sz P h hh hl hR hm ht hQ
    subst hx
    refine zW_if (fun h => ?_) (fun _ => ?_)
    · exfalso
      simp (disch := omega) only [zh, zh_st, ↓reduceIte, Nat.add_left_cancel_iff, Nat.reduceEqDiff, Nat.add_sub_cancel, Nat.reduceAdd, Nat.reduceSub, Nat.reduceMul, ← nI_0, zu_same, zu_ne, zoi, zoi_m1, nI_add, pk_mul, pk_sub, zcl, nI_leI, nI_ltI, nI_eq, ] at h
      omega
    · obtain ⟨c, l, hcl⟩ : ∃ c l, P p = c :: l := by
        cases hP : P p with
        | nil => rw [hP] at hm; simp at hm
        | cons c l => exact ⟨c, l, rfl⟩
      have hlen : (P p).length = l.length + 1 := by rw [hcl]; rfl
      have ⟨k0, k1, k2, k3, n1, n2, n3, q0, q1, q2, q3⟩ := hT
      iterate 5 (first | refine zW_s rfl ?_ | refine zW_p rfl (by simp (disch := omega) only [zh, zh_st, ↓reduceIte, Nat.add_left_cancel_iff, Nat.reduceEqDiff, Nat.add_sub_cancel, Nat.reduceAdd, Nat.reduceSub, Nat.reduceMul, ← nI_0, zu_same, zu_ne, zoi, zoi_m1, nI_add, pk_mul, pk_sub, zcl, nI_leI, nI_ltI, nI_eq, zTa_k, k0]; first | done | exact vp_in_nI (by omega) (by omega) | exact ⟨rfl, vp_in_nI (by omega) (by omega)⟩ | exact ⟨trivial, vp_in_nI (by omega) (by omega)⟩ | (simp only [true_and]; exact vp_in_nI (by omega) (by omega)) | assumption) ?_)
      refine zW_c rfl (by simp only [zTa_k]; exact hT.1) ?_
      refine s_pop hT hR hp hcl (fun sz' hR' => ?_)
      iterate 3 (first | refine zW_s rfl ?_ | refine zW_p rfl (by simp (disch := omega) only [zh, zh_st, ↓reduceIte, Nat.add_left_cancel_iff, Nat.reduceEqDiff, Nat.add_sub_cancel, Nat.reduceAdd, Nat.reduceSub, Nat.reduceMul, ← nI_0, zu_same, zu_ne, zoi, zoi_m1, nI_add, pk_mul, pk_sub, zcl, nI_leI, nI_ltI, nI_eq, zTa_k, q2, k2, n2]; first | done | exact vp_in_nI (by omega) (by omega) | exact ⟨rfl, vp_in_nI (by omega) (by omega)⟩ | exact ⟨trivial, vp_in_nI (by omega) (by omega)⟩ | (simp only [true_and]; exact vp_in_nI (by omega) (by omega)) | assumption) ?_)
      refine zW_e (τ := zTa σ t ly (zu hd i (nI (c ^^^ 16))) sz' mk) (by simp (disch := omega) only [zh, zh_st, ↓reduceIte, Nat.add_left_cancel_iff, Nat.reduceEqDiff, Nat.add_sub_cancel, Nat.reduceAdd, Nat.reduceSub, Nat.reduceMul, ← nI_0, zu_same, zu_ne, zoi, zoi_m1, nI_add, pk_mul, pk_sub, zcl, nI_leI, nI_ltI, nI_eq, zTa_k, zTa_ly, zTa_hd, zTa_sz, zTa_mk, zTa_r, q2, nI_xor]) ?_
      iterate 5 (first | refine zW_s rfl ?_ | refine zW_p rfl (by simp (disch := omega) only [zh, zh_st, ↓reduceIte, Nat.add_left_cancel_iff, Nat.reduceEqDiff, Nat.add_sub_cancel, Nat.reduceAdd, Nat.reduceSub, Nat.reduceMul, ← nI_0, zu_same, zu_ne, zoi, zoi_m1, nI_add, pk_mul, pk_sub, zcl, nI_leI, nI_ltI, nI_eq, ]; first | done | exact vp_in_nI (by omega) (by omega) | exact ⟨rfl, vp_in_nI (by omega) (by omega)⟩ | exact ⟨trivial, vp_in_nI (by omega) (by omega)⟩ | (simp only [true_and]; exact vp_in_nI (by omega) (by omega)) | assumption) ?_)
      have hh' := zHD_u hh (c ^^^ 16)
      rw [hl] at hh'
      refine ih (i + 1) (by omega) _ (by simp (disch := omega) only [zh, zh_st, ↓reduceIte, Nat.add_left_cancel_iff, Nat.reduceEqDiff, Nat.add_sub_cancel, Nat.reduceAdd, Nat.reduceSub, Nat.reduceMul, ← nI_0, zu_same, zu_ne, zoi, zoi_m1, nI_add, pk_mul, pk_sub, zcl, nI_leI, nI_ltI, nI_eq, ]) _ _ _ _ (h ++ [c ^^^ 16]) hh' (by simp [hl]) hR' ?_ ?_ (fun ly2 hd2 sz2 hR2 => hQ _ _ _ ?_)
      · rw [zu_same]; omega
      · rw [zu_same]; omega
      · rw [zu_same, zu_zu] at hR2
        rw [hcl, List.drop_succ_cons, List.take_succ_cons, List.map_cons]
        rw [List.append_assoc h [c ^^^ 16]] at hR2
        exact hR2
theorem e_turn {d t p mny : Nat} {σ : zH} (hT : zTb σ t) {ly hd sz : Nat → Int32} {mk : Int32} {P : Nat → List Nat} (hR : zTR ly sz P) (hp : p < 4) (hm : mny ≤ (P p).length) {Q : Option Value → zH → Prop} (hQ : ∀ ly' hd' sz', zTR ly' sz' (zu P p ((((P p).take mny).map (fun c => c ^^^ 16)).reverse ++ (P p).drop mny)) → Q none (zTa σ t ly' hd' sz' mk)) : zM (d + 1) 77 [.ref t, .int (nI p), .int (nI mny)] (zTa σ t ly hd sz mk) Q := by
  unfold zM
  iterate 5 (first | refine zW_s rfl ?_ | refine zW_p rfl (by simp (disch := omega) only [zh, zh_st, ↓reduceIte, Nat.add_left_cancel_iff, Nat.reduceEqDiff, Nat.add_sub_cancel, Nat.reduceAdd, Nat.reduceSub, Nat.reduceMul, ← nI_0, zu_same, zu_ne, zoi, zoi_m1, nI_add, pk_mul, pk_sub, zcl, nI_leI, nI_ltI, nI_eq, ]; first | done | exact vp_in_nI (by omega) (by omega) | exact ⟨rfl, vp_in_nI (by omega) (by omega)⟩ | exact ⟨trivial, vp_in_nI (by omega) (by omega)⟩ | (simp only [true_and]; exact vp_in_nI (by omega) (by omega)) | assumption) ?_)
  have h1 := (hR p hp).2.1
  exact l_turn1 hT hp (by omega) mny 0 (by omega) _ rfl _ _ _ P [] (fun i hi => absurd hi (Nat.not_lt_zero i)) rfl hR hm (by omega) (by rw [List.nil_append]; exact hQ)
set_option maxHeartbeats 1000000 in
theorem e_mark {d t p k : Nat} {σ : zH} (hT : zTb σ t) {ly hd sz : Nat → Int32} {mk : Int32} {P : Nat → List Nat} (hR : zTR ly sz P) (hp : p < 4) (hk : k < 2 ^ 31) (h32 : ∀ c ∈ P p, 0 < c ∧ c < 32) {Q : Option Value → zH → Prop} (hQ : Q none (zTa σ t ly hd sz (if 1 ≤ k ∧ k ≤ (P p).length then nI ((P p).getD (k - 1) 0 &&& 15) else mk))) : zM (d + 1) 83 [.ref t, .int (nI p), .int (nI k)] (zTa σ t ly hd sz mk) Q := by
  unfold zM
  iterate 3 (first | refine zW_s rfl ?_ | refine zW_p rfl (by simp (disch := omega) only [zh, zh_st, ↓reduceIte, Nat.add_left_cancel_iff, Nat.reduceEqDiff, Nat.add_sub_cancel, Nat.reduceAdd, Nat.reduceSub, Nat.reduceMul, ← nI_0, zu_same, zu_ne, zoi, zoi_m1, nI_add, pk_mul, pk_sub, zcl, nI_leI, nI_ltI, nI_eq, ]; first | done | exact vp_in_nI (by omega) (by omega) | exact ⟨rfl, vp_in_nI (by omega) (by omega)⟩ | exact ⟨trivial, vp_in_nI (by omega) (by omega)⟩ | (simp only [true_and]; exact vp_in_nI (by omega) (by omega)) | assumption) ?_)
  refine zW_c rfl (by simp only [zTa_k]; exact hT.1) ?_
  refine s_cardAt hT hR hp hk ?_
  iterate 3 (first | refine zW_s rfl ?_ | refine zW_p rfl (by simp (disch := omega) only [zh, zh_st, ↓reduceIte, Nat.add_left_cancel_iff, Nat.reduceEqDiff, Nat.add_sub_cancel, Nat.reduceAdd, Nat.reduceSub, Nat.reduceMul, ← nI_0, zu_same, zu_ne, zoi, zoi_m1, nI_add, pk_mul, pk_sub, zcl, nI_leI, nI_ltI, nI_eq, ]; first | done | exact vp_in_nI (by omega) (by omega) | exact ⟨rfl, vp_in_nI (by omega) (by omega)⟩ | exact ⟨trivial, vp_in_nI (by omega) (by omega)⟩ | (simp only [true_and]; exact vp_in_nI (by omega) (by omega)) | assumption) ?_)
  by_cases hk1 : 1 ≤ k ∧ k ≤ (P p).length
  · rw [if_pos hk1.1]
    rw [if_pos hk1] at hQ
    have hmem : (P p).getD (k - 1) 0 ∈ P p := by rw [List.getD_eq_getElem?_getD, List.getElem?_eq_getElem (by omega)]; exact List.getElem_mem _
    obtain ⟨c1, c2⟩ := h32 _ hmem
    refine zW_if (fun h => ?_) (fun _ => ?_)
    · exfalso
      simp (disch := omega) only [zh, zh_st, ↓reduceIte, Nat.add_left_cancel_iff, Nat.reduceEqDiff, Nat.add_sub_cancel, Nat.reduceAdd, Nat.reduceSub, Nat.reduceMul, ← nI_0, zu_same, zu_ne, zoi, zoi_m1, nI_add, pk_mul, pk_sub, zcl, nI_leI, nI_ltI, nI_eq, ] at h
      omega
    · iterate 5 (first | refine zW_s rfl ?_ | refine zW_p rfl (by simp (disch := omega) only [zh, zh_st, ↓reduceIte, Nat.add_left_cancel_iff, Nat.reduceEqDiff, Nat.add_sub_cancel, Nat.reduceAdd, Nat.reduceSub, Nat.reduceMul, ← nI_0, zu_same, zu_ne, zoi, zoi_m1, nI_add, pk_mul, pk_sub, zcl, nI_leI, nI_ltI, nI_eq, zTa_k, hT.1]; first | done | exact vp_in_nI (by omega) (by omega) | exact ⟨rfl, vp_in_nI (by omega) (by omega)⟩ | exact ⟨trivial, vp_in_nI (by omega) (by omega)⟩ | (simp only [true_and]; exact vp_in_nI (by omega) (by omega)) | assumption) ?_)
      refine zW_e (τ := zTa σ t ly hd sz (nI ((P p).getD (k - 1) 0 &&& 15))) (by simp (disch := omega) only [zh, zh_st, ↓reduceIte, Nat.add_left_cancel_iff, Nat.reduceEqDiff, Nat.add_sub_cancel, Nat.reduceAdd, Nat.reduceSub, Nat.reduceMul, ← nI_0, zu_same, zu_ne, zoi, zoi_m1, nI_add, pk_mul, pk_sub, zcl, nI_leI, nI_ltI, nI_eq, zTa_k, zTa_ly, zTa_hd, zTa_sz, zTa_mk, zTa_r, nI_and]) ?_
      refine zW_r rfl trivial ?_
      exact hQ
  · rw [if_neg hk1] at hQ
    have h0 : (if 1 ≤ k then (P p).getD (k - 1) 0 else 0) = 0 := by
      by_cases hk2 : 1 ≤ k
      · rw [if_pos hk2, List.getD_eq_getElem?_getD, List.getElem?_eq_none (by omega)]; rfl
      · rw [if_neg hk2]
    rw [h0]
    refine zW_if (fun _ => ?_) (fun h => absurd nI_0 h)
    refine zW_r rfl trivial ?_
    exact hQ
