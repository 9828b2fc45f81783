/-- the hand holds these cards -/
def zHD (hd : Nat → Int32) (h : List Nat) : Prop := ∀ i, i < h.length → hd i = nI (h.getD i 0)
theorem zHD_u {hd : Nat → Int32} {h : List Nat} (hh : zHD hd h) (c : Nat) : zHD (zu hd h.length (nI c)) (h ++ [c]) := by
  intro i hi
  simp only [List.length_append, List.length_cons, List.length_nil] at hi
  by_cases h1 : i = h.length
  · subst h1
    rw [zu_same, List.getD_eq_getElem?_getD, List.getElem?_append_right (Nat.le_refl _), Nat.sub_self]
    rfl
  · rw [zu_ne _ _ h1, hh i (by omega), List.getD_eq_getElem?_getD, List.getD_eq_getElem?_getD, List.getElem?_append_left (by omega)]
set_option maxHeartbeats 1000000 in
theorem l_put {d t q : Nat} {σ : zH} (hT : zTb σ t) {hd : Nat → Int32} {mk : Int32} {h : List Nat} (hh : zHD hd h) (h9 : h.length ≤ 9) (hq : q < 4) {Q : Option Value → zH → Prop} {mny : Int32} : ∀ (m : Nat), m ≤ h.length → ∀ (x : Int32), x = nI m - nI 1 → ∀ (ly sz : Nat → Int32) (P : Nat → List Nat), zTR ly sz P → (P q).length + m ≤ 9 → (∀ ly' sz', zTR ly' sz' (zu P q (h.take m ++ P q)) → Q none (zTa σ t ly' hd sz' mk)) → zW (d + 1) 75 (if x < 0 then 25 else 8) [(0, .ref t), (1, .int (nI q)), (2, .int mny), (3, .int x)] [] (zTa σ t ly hd sz mk) Q := by
  intro m
  induction m with
  | zero =>
    intro hm x hx ly sz P hR ht hQ
    subst hx
    refine zW_if (fun _ => ?_) (fun h => absurd (by decide) h)
    refine zW_r rfl trivial ?_
    refine hQ _ _ ?_
    rw [List.take_zero, List.nil_append, zu_id rfl]
    exact hR
  | succ m ih =>
    intro hm x hx ly sz P hR ht hQ
    have hx2 : x = nI m := by rw [hx, show nI (m + 1) - nI 1 = nI (m + 1 - 1) from pk_sub (by omega)]; rfl
    subst hx2
    refine zW_if (fun h => absurd h (nI_pos (by omega))) (fun _ => ?_)
    obtain ⟨τ, e, eK, eN, eQ, k0, k1, k2, k3, n1, n2, n3, q0, q1, q2, q3, r1, r2, r3, r4⟩ := zTb_f hT ly hd sz mk
    rw [← e]
    iterate 6 (first | refine zW_s rfl ?_ | refine zW_p rfl (by simp (disch := omega) only [zh, zh_st, ↓reduceIte, Nat.add_left_cancel_iff, Nat.reduceEqDiff, Nat.add_sub_cancel, Nat.reduceAdd, Nat.reduceSub, Nat.reduceMul, ← nI_0, zu_same, zu_ne, zoi, zoi_m1, nI_add, pk_mul, pk_sub, zcl, nI_leI, nI_ltI, nI_eq, eK, eN, eQ, k0, k1, k2, k3, n1, n2, n3, q0, q1, q2, q3]; first | done | exact vp_in_nI (by omega) (by omega) | exact ⟨rfl, vp_in_nI (by omega) (by omega)⟩ | exact ⟨trivial, vp_in_nI (by omega) (by omega)⟩ | (simp only [true_and]; exact vp_in_nI (by omega) (by omega)) | assumption) ?_)
    refine zW_c rfl (by simp only [eK, k0]) ?_
    simp (disch := omega) only [zh, zh_st, ↓reduceIte, Nat.add_left_cancel_iff, Nat.reduceEqDiff, Nat.add_sub_cancel, Nat.reduceAdd, Nat.reduceSub, Nat.reduceMul, ← nI_0, zu_same, zu_ne, zoi, zoi_m1, nI_add, pk_mul, pk_sub, zcl, nI_leI, nI_ltI, nI_eq, eK, eN, eQ, k0, k1, k2, k3, n1, n2, n3, q0, q1, q2, q3, r2]
    rw [hh m (by omega), e]
    refine s_push hT hR hq (by omega) (fun ly' sz' hR' => ?_)
    iterate 4 (first | refine zW_s rfl ?_ | refine zW_p rfl (by simp (disch := omega) only [zh, zh_st, ↓reduceIte, Nat.add_left_cancel_iff, Nat.reduceEqDiff, Nat.add_sub_cancel, Nat.reduceAdd, Nat.reduceSub, Nat.reduceMul, ← nI_0, zu_same, zu_ne, zoi, zoi_m1, nI_add, pk_mul, pk_sub, zcl, nI_leI, nI_ltI, nI_eq, ]; first | done | exact vp_in_nI (by omega) (by omega) | exact ⟨rfl, vp_in_nI (by omega) (by omega)⟩ | exact ⟨trivial, vp_in_nI (by omega) (by omega)⟩ | (simp only [true_and]; exact vp_in_nI (by omega) (by omega)) | assumption) ?_)
    refine ih (by omega) _ (by rw [zoi_m1, show (-1 : Int32) = - nI 1 from rfl, Int32.sub_eq_add_neg]) _ _ _ hR' ?_ (fun ly2 sz2 hR2 => hQ _ _ ?_)
    · rw [zu_same]; simp only [List.length_cons]; omega
    · rw [zu_same, zu_zu] at hR2
      have h3 : h.take (m + 1) ++ P q = h.take m ++ h.getD m 0 :: P q := by
        rw [List.take_succ, List.append_assoc, List.getElem?_eq_getElem (by omega), List.getD_eq_getElem?_getD, List.getElem?_eq_getElem (by omega)]
        rfl
      rw [h3]
      exact hR2
theorem e_put {d t q mny : Nat} {σ : zH} (hT : zTb σ t) {ly hd sz : Nat → Int32} {mk : Int32} {P : Nat → List Nat} {h : List Nat} (hh : zHD hd h) (hR : zTR ly sz P) (hq : q < 4) (hm : h.length = mny) (ht : (P q).length + mny ≤ 9) {Q : Option Value → zH → Prop} (hQ : ∀ ly' sz', zTR ly' sz' (zu P q (h ++ P q)) → Q none (zTa σ t ly' hd sz' mk)) : zM (d + 1) 75 [.ref t, .int (nI q), .int (nI mny)] (zTa σ t ly hd sz mk) Q := by
  unfold zM
  iterate 6 (first | refine zW_s rfl ?_ | refine zW_p rfl (by simp (disch := omega) only [zh, zh_st, ↓reduceIte, Nat.add_left_cancel_iff, Nat.reduceEqDiff, Nat.add_sub_cancel, Nat.reduceAdd, Nat.reduceSub, Nat.reduceMul, ← nI_0, zu_same, zu_ne, zoi, zoi_m1, nI_add, pk_mul, pk_sub, zcl, nI_leI, nI_ltI, nI_eq, ]; first | done | exact vp_in_nI (by omega) (by omega) | exact ⟨rfl, vp_in_nI (by omega) (by omega)⟩ | exact ⟨trivial, vp_in_nI (by omega) (by omega)⟩ | (simp only [true_and]; exact vp_in_nI (by omega) (by omega)) | assumption) ?_)
  exact l_put hT hh (by omega) hq mny (by omega) _ rfl _ _ P hR ht (fun ly' sz' hR' => hQ _ _ (by rw [List.take_of_length_le (by omega)] at hR'; exact hR'))
set_option maxHeartbeats 1000000 in
theorem l_move {d t p q mny : Nat} {σ : zH} (hT : zTb σ t) {mk : Int32} (hp : p < 4) (hq : q < 4) (hpq : p ≠ q) (hm9 : mny ≤ 9) {Q : Option Value → zH → Prop} : ∀ (m i : Nat), i + m = mny → ∀ (x : Int32), x = nI i → ∀ (ly hd sz : Nat → Int32) (P : Nat → List Nat) (h : List Nat), zHD hd h → h.length = i → zTR ly sz P → m ≤ (P p).length → (P q).length + mny ≤ 9 → (∀ ly' hd' sz', zTR ly' sz' (zu (zu P p ((P p).drop m)) q (h ++ (P p).take m ++ P q)) → Q none (zTa σ t ly' hd' sz' mk)) → zW (d + 2) 74 (if nI mny ≤ x then 27 else 9) [(0, .ref t), (1, .int (nI p)), (2, .int (nI mny)), (3, .int (nI q)), (4, .int x)] [] (zTa σ t ly hd sz mk) Q := by
  intro m
  induction m with
  | zero =>
    intro i hi x hx ly hd sz P h hh hl hR hm ht hQ
    subst hx
    refine zW_if (fun _ => ?_) (fun h => ?_)
    · iterate 3 (first | refine zW_s rfl ?_ | refine zW_p rfl (by simp (disch := omega) only [zh, zh_st, ↓reduceIte, Nat.add_left_cancel_iff, Nat.reduceEqDiff, Nat.add_sub_cancel, Nat.reduceAdd, Nat.reduceSub, Nat.reduceMul, ← nI_0, zu_same, zu_ne, zoi, zoi_m1, nI_add, pk_mul, pk_sub, zcl, nI_leI, nI_ltI, nI_eq, ]; first | done | exact vp_in_nI (by omega) (by omega) | exact ⟨rfl, vp_in_nI (by omega) (by omega)⟩ | exact ⟨trivial, vp_in_nI (by omega) (by omega)⟩ | (simp only [true_and]; exact vp_in_nI (by omega) (by omega)) | assumption) ?_)
      refine zW_c rfl (by simp only [zTa_k]; exact hT.1) ?_
      refine e_put hT hh hR hq (by omega) ht (fun ly' sz' hR' => ?_)
      refine zW_r rfl trivial ?_
      refine hQ _ _ _ ?_
      rw [List.take_zero, List.append_nil, List.drop_zero, zu_id rfl]
      exact hR'
    · exfalso
      simp (disch := omega) only [zh, zh_st, ↓reduceIte, Nat.add_left_cancel_iff, Nat.reduceEqDiff, Nat.add_sub_cancel, Nat.reduceAdd, Nat.reduceSub, Nat.reduceMul, ← nI_0, zu_same, zu_ne, zoi, zoi_m1, nI_add, pk_mul, pk_sub, zcl, nI_leI, nI_ltI, nI_eq, ] at h
      omega
  | succ m ih =>
    intro i hi x hx ly hd sz P h hh hl hR hm ht hQ
    subst hx
    refine zW_if (fun h => ?_) (fun _ => ?_)
    · exfalso
      simp (disch := omega) only [zh, zh_st, ↓reduceIte, Nat.add_left_cancel_iff, Nat.reduceEqDiff, Nat.add_sub_cancel, Nat.reduceAdd, Nat.reduceSub, Nat.reduceMul, ← nI_0, zu_same, zu_ne, zoi, zoi_m1, nI_add, pk_mul, pk_sub, zcl, nI_leI, nI_ltI, nI_eq, ] at h
      omega
    · obtain ⟨c, l, hcl⟩ : ∃ c l, P p = c :: l := by
        cases hP : P p with
        | nil => rw [hP] at hm; simp at hm
        | cons c l => exact ⟨c, l, rfl⟩
      have hlen : (P p).length = l.length + 1 := by rw [hcl]; rfl
      have ⟨k0, k1, k2, k3, n1, n2, n3, q0, q1, q2, q3⟩ := hT
      iterate 5 (first | refine zW_s rfl ?_ | refine zW_p rfl (by simp (disch := omega) only [zh, zh_st, ↓reduceIte, Nat.add_left_cancel_iff, Nat.reduceEqDiff, Nat.add_sub_cancel, Nat.reduceAdd, Nat.reduceSub, Nat.reduceMul, ← nI_0, zu_same, zu_ne, zoi, zoi_m1, nI_add, pk_mul, pk_sub, zcl, nI_leI, nI_ltI, nI_eq, zTa_k, k0]; first | done | exact vp_in_nI (by omega) (by omega) | exact ⟨rfl, vp_in_nI (by omega) (by omega)⟩ | exact ⟨trivial, vp_in_nI (by omega) (by omega)⟩ | (simp only [true_and]; exact vp_in_nI (by omega) (by omega)) | assumption) ?_)
      refine zW_c rfl (by simp only [zTa_k]; exact hT.1) ?_
      refine s_pop hT hR hp hcl (fun sz' hR' => ?_)
      iterate 1 (first | refine zW_s rfl ?_ | refine zW_p rfl (by simp (disch := omega) only [zh, zh_st, ↓reduceIte, Nat.add_left_cancel_iff, Nat.reduceEqDiff, Nat.add_sub_cancel, Nat.reduceAdd, Nat.reduceSub, Nat.reduceMul, ← nI_0, zu_same, zu_ne, zoi, zoi_m1, nI_add, pk_mul, pk_sub, zcl, nI_leI, nI_ltI, nI_eq, zTa_k, q2, k2, n2]; first | done | exact vp_in_nI (by omega) (by omega) | exact ⟨rfl, vp_in_nI (by omega) (by omega)⟩ | exact ⟨trivial, vp_in_nI (by omega) (by omega)⟩ | (simp only [true_and]; exact vp_in_nI (by omega) (by omega)) | assumption) ?_)
      refine zW_e (τ := zTa σ t ly (zu hd i (nI c)) sz' mk) (by simp (disch := omega) only [zh, zh_st, ↓reduceIte, Nat.add_left_cancel_iff, Nat.reduceEqDiff, Nat.add_sub_cancel, Nat.reduceAdd, Nat.reduceSub, Nat.reduceMul, ← nI_0, zu_same, zu_ne, zoi, zoi_m1, nI_add, pk_mul, pk_sub, zcl, nI_leI, nI_ltI, nI_eq, zTa_k, zTa_ly, zTa_hd, zTa_sz, zTa_mk, zTa_r, q2]) ?_
      iterate 5 (first | refine zW_s rfl ?_ | refine zW_p rfl (by simp (disch := omega) only [zh, zh_st, ↓reduceIte, Nat.add_left_cancel_iff, Nat.reduceEqDiff, Nat.add_sub_cancel, Nat.reduceAdd, Nat.reduceSub, Nat.reduceMul, ← nI_0, zu_same, zu_ne, zoi, zoi_m1, nI_add, pk_mul, pk_sub, zcl, nI_leI, nI_ltI, nI_eq, ]; first | done | exact vp_in_nI (by omega) (by omega) | exact ⟨rfl, vp_in_nI (by omega) (by omega)⟩ | exact ⟨trivial, vp_in_nI (by omega) (by omega)⟩ | (simp only [true_and]; exact vp_in_nI (by omega) (by omega)) | assumption) ?_)
      have hh' := zHD_u hh c
      rw [hl] at hh'
      refine ih (i + 1) (by omega) _ (by simp (disch := omega) only [zh, zh_st, ↓reduceIte, Nat.add_left_cancel_iff, Nat.reduceEqDiff, Nat.add_sub_cancel, Nat.reduceAdd, Nat.reduceSub, Nat.reduceMul, ← nI_0, zu_same, zu_ne, zoi, zoi_m1, nI_add, pk_mul, pk_sub, zcl, nI_leI, nI_ltI, nI_eq, ]) _ _ _ _ (h ++ [c]) hh' (by simp [hl]) hR' ?_ ?_ (fun ly2 hd2 sz2 hR2 => hQ _ _ _ ?_)
      · rw [zu_same]; omega
      · rw [zu_ne _ _ (fun h => hpq h.symm)]; exact ht
      · rw [zu_same, zu_zu, zu_ne _ _ (fun h => hpq h.symm)] at hR2
        rw [hcl, List.drop_succ_cons, List.take_succ_cons]
        rw [List.append_assoc h [c]] at hR2
        exact hR2
theorem e_move {d t p q mny : Nat} {σ : zH} (hT : zTb σ t) {ly hd sz : Nat → Int32} {mk : Int32} {P : Nat → List Nat} (hR : zTR ly sz P) (hp : p < 4) (hq : q < 4) (hpq : p ≠ q) (hm : mny ≤ (P p).length) (ht : zTot P ≤ 9) {Q : Option Value → zH → Prop} (hQ : ∀ ly' hd' sz', zTR ly' sz' (zu (zu P p ((P p).drop mny)) q ((P p).take mny ++ P q)) → Q none (zTa σ t ly' hd' sz' mk)) : zM (d + 2) 74 [.ref t, .int (nI p), .int (nI mny), .int (nI q)] (zTa σ t ly hd sz mk) Q := by
  unfold zM
  iterate 5 (first | refine zW_s rfl ?_ | refine zW_p rfl (by simp (disch := omega) only [zh, zh_st, ↓reduceIte, Nat.add_left_cancel_iff, Nat.reduceEqDiff, Nat.add_sub_cancel, Nat.reduceAdd, Nat.reduceSub, Nat.reduceMul, ← nI_0, zu_same, zu_ne, zoi, zoi_m1, nI_add, pk_mul, pk_sub, zcl, nI_leI, nI_ltI, nI_eq, ]; first | done | exact vp_in_nI (by omega) (by omega) | exact ⟨rfl, vp_in_nI (by omega) (by omega)⟩ | exact ⟨trivial, vp_in_nI (by omega) (by omega)⟩ | (simp only [true_and]; exact vp_in_nI (by omega) (by omega)) | assumption) ?_)
  have h1 := zTot_le2 (P := P) hp hq hpq
  exact l_move hT hp hq hpq (by omega) mny 0 (by omega) _ rfl _ _ _ P [] (fun i hi => absurd hi (Nat.not_lt_zero i)) rfl hR hm (by omega) hQ
theorem nI_xor (a b : Nat) : nI a ^^^ nI b = nI (a ^^^ b) := by
  apply Int32.toBitVec_inj.1
  show BitVec.ofNat 32 a ^^^ BitVec.ofNat 32 b = BitVec.ofNat 32 (a ^^^ b)
  apply BitVec.eq_of_getLsbD_eq
  intro i hi
  simp [hi]
theorem nI_and (a b : Nat) : nI a &&& nI b = nI (a &&& b) := by
  apply Int32.toBitVec_inj.1
  show BitVec.ofNat 32 a &&& BitVec.ofNat 32 b = BitVec.ofNat 32 (a &&& b)
  apply BitVec.eq_of_getLsbD_eq
  intro i hi
  simp [hi]
theorem nI_or (a b : Nat) : nI a ||| nI b = nI (a ||| b) := by
  apply Int32.toBitVec_inj.1
  show BitVec.ofNat 32 a ||| BitVec.ofNat 32 b = BitVec.ofNat 32 (a ||| b)
  apply BitVec.eq_of_getLsbD_eq
  intro i hi
  simp [hi]
set_option maxHeartbeats 1000000 in
theorem l_turn2 {d t p mny : Nat} {σ : zH} (hT : zTb σ t) {hd : Nat → Int32} {mk : Int32} {h : List Nat} (hh : zHD hd h) (hl : h.length = mny) (h9 : mny ≤ 9) (hp : p < 4) {Q : Option Value → zH → Prop} : ∀ (m i : Nat), i + m = mny → ∀ (x : Int32), x = nI i → ∀ (ly sz : Nat → Int32) (P : Nat → List Nat), zTR ly sz P → (P p).length + m ≤ 9 → (∀ ly' sz', zTR ly' sz' (zu P p ((h.drop i).reverse ++ P p)) → Q none (zTa σ t ly' hd sz' mk)) → zW (d + 1) 77 (if nI mny ≤ x then 51 else 34) [(0, .ref t), (1, .int (nI p)), (2, .int (nI mny)), (3, .int x)] [] (zTa σ t ly hd sz mk) Q := by
  intro m
  induction m with
  | zero =>
    intro i hi x hx ly sz P hR ht hQ
    subst hx
    refine zW_if (fun _ => ?_) (fun h => ?_)
    · refine zW_r rfl trivial ?_
      refine hQ _ _ ?_
      rw [List.drop_of_length_le (by omega), List.reverse_nil, List.nil_append, zu_id rfl]
      exact hR
    · exfalso
      simp (disch := omega) only [zh, zh_st, ↓reduceIte, Nat.add_left_cancel_iff, Nat.reduceEqDiff, Nat.add_sub_cancel, Nat.reduceAdd, Nat.reduceSub, Nat.reduceMul, ← nI_0, zu_same, zu_ne, zoi, zoi_m1, nI_add, pk_mul, pk_sub, zcl, nI_leI, nI_ltI, nI_eq, ] at h
      omega
  | succ m ih =>
    intro i hi x hx ly sz P hR ht hQ
    subst hx
    refine zW_if (fun h => ?_) (fun _ => ?_)
    · exfalso
      simp (disch := omega) only [zh, zh_st, ↓reduceIte, Nat.add_left_cancel_iff, Nat.reduceEqDiff, Nat.add_sub_cancel, Nat.reduceAdd, Nat.reduceSub, Nat.reduceMul, ← nI_0, zu_same, zu_ne, zoi, zoi_m1, nI_add, pk_mul, pk_sub, zcl, nI_leI, nI_ltI, nI_eq, ] at h
      omega
    · obtain ⟨τ, e, eK, eN, eQ, k0, k1, k2, k3, n1, n2, n3, q0, q1, q2, q3, r1, r2, r3, r4⟩ := zTb_f hT ly hd sz mk
      rw [← e]
      iterate 6 (first | refine zW_s rfl ?_ | refine zW_p rfl (by simp (disch := omega) only [zh, zh_st, ↓reduceIte, Nat.add_left_cancel_iff, Nat.reduceEqDiff, Nat.add_sub_cancel, Nat.reduceAdd, Nat.reduceSub, Nat.reduceMul, ← nI_0, zu_same, zu_ne, zoi, zoi_m1, nI_add, pk_mul, pk_sub, zcl, nI_leI, nI_ltI, nI_eq, eK, eN, eQ, k0, k1, k2, k3, n1, n2, n3, q0, q1, q2, q3]; first | done | exact vp_in_nI (by omega) (by omega) | exact ⟨rfl, vp_in_nI (by omega) (by omega)⟩ | exact ⟨trivial, vp_in_nI (by omega) (by omega)⟩ | (simp only [true_and]; exact vp_in_nI (by omega) (by omega)) | assumption) ?_)
      refine zW_c rfl (by simp only [eK, k0]) ?_
      simp (disch := omega) only [zh, zh_st, ↓reduceIte, Nat.add_left_cancel_iff, Nat.reduceEqDiff, Nat.add_sub_cancel, Nat.reduceAdd, Nat.reduceSub, Nat.reduceMul, ← nI_0, zu_same, zu_ne, zoi, zoi_m1, nI_add, pk_mul, pk_sub, zcl, nI_leI, nI_ltI, nI_eq, eK, eN, eQ, k0, k1, k2, k3, n1, n2, n3, q0, q1, q2, q3, r2]
      rw [hh i (by omega), e]
      refine s_push hT hR hp (by omega) (fun ly' sz' hR' => ?_)
      iterate 5 (first | refine zW_s rfl ?_ | refine zW_p rfl (by simp (disch := omega) only [zh, zh_st, ↓reduceIte, Nat.add_left_cancel_iff, Nat.reduceEqDiff, Nat.add_sub_cancel, Nat.reduceAdd, Nat.reduceSub, Nat.reduceMul, ← nI_0, zu_same, zu_ne, zoi, zoi_m1, nI_add, pk_mul, pk_sub, zcl, nI_leI, nI_ltI, nI_eq, ]; first | done | exact vp_in_nI (by omega) (by omega) | exact ⟨rfl, vp_in_nI (by omega) (by omega)⟩ | exact ⟨trivial, vp_in_nI (by omega) (by omega)⟩ | (simp only [true_and]; exact vp_in_nI (by omega) (by omega)) | assumption) ?_)
      refine ih (i + 1) (by omega) _ (by simp (disch := omega) only [zh, zh_st, ↓reduceIte, Nat.add_left_cancel_iff, Nat.reduceEqDiff, Nat.add_sub_cancel, Nat.reduceAdd, Nat.reduceSub, Nat.reduceMul, ← nI_0, zu_same, zu_ne, zoi, zoi_m1, nI_add, pk_mul, pk_sub, zcl, nI_leI, nI_ltI, nI_eq, ]) _ _ _ hR' ?_ (fun ly2 sz2 hR2 => hQ _ _ ?_)
      · rw [zu_same]; simp only [List.length_cons]; omega
      · rw [zu_same, zu_zu] at hR2
        have h3 : h.drop i = h.getD i 0 :: h.drop (i + 1) := by
          rw [List.drop_eq_getElem_cons (by omega), List.getD_eq_getElem?_getD, List.getElem?_eq_getElem (by omega)]
          rfl
        rw [h3, List.reverse_cons, List.append_assoc]
        exact hR2
