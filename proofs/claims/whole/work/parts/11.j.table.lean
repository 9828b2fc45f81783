/-- one card goes on pile q, the next one to the bottom, m cards in all -/
def zdown : Nat → (Nat → List Nat) → Nat → Nat → (Nat → List Nat)
  | 0, P, _, _ => P
  | m + 1, P, p, q => match P p with
    | [] => P
    | c :: l => zdown m (zu (zu P q (c :: P q)) p (l.drop 1 ++ l.take 1)) p q
set_option maxHeartbeats 2000000 in
theorem l_down {d t p q : Nat} {σ : zH} (hT : zTb σ t) {mk : Int32} (hp : p < 4) (hq : q < 4) (hpq : p ≠ q) {Q : Option Value → zH → Prop} : ∀ (m i : Nat), i + m ≤ 9 → ∀ (x : Int32), x = nI i → ∀ (ly hd sz : Nat → Int32) (P : Nat → List Nat), zTR ly sz P → (P p).length = m → zTot P ≤ 9 → (∀ ly' hd' sz', zTR ly' sz' (zdown m P p q) → Q none (zTa σ t ly' hd' sz' mk)) → zW (d + 2) 81 (if Int32.ofInt 9 ≤ x then 48 else 8) [(0, .ref t), (1, .int (nI p)), (2, .int (nI q)), (3, .int x)] [] (zTa σ t ly hd sz mk) Q := by
  have ⟨k0, k1, k2, k3, n1, n2, n3, q0, q1, q2, q3⟩ := hT
  intro m
  induction m with
  | zero =>
    intro i hi x hx ly hd sz P hR hm ht hQ
    subst hx
    refine zW_if (fun _ => ?_) (fun _ => ?_)
    · refine zW_r rfl trivial ?_
      exact hQ _ _ _ hR
    · have hs := (hR p hp).1
      rw [hm] at hs
      iterate 5 (first | refine zW_s rfl ?_ | refine zW_p rfl (by simp (disch := omega) only [zh, zh_st, ↓reduceIte, Nat.add_left_cancel_iff, Nat.reduceEqDiff, Nat.add_sub_cancel, Nat.reduceAdd, Nat.reduceSub, Nat.reduceMul, ← nI_0, zu_same, zu_ne, zoi, zoi_m1, nI_add, pk_mul, pk_sub, zcl, nI_leI, nI_ltI, nI_eq, zTa_k, zTa_ly, zTa_hd, zTa_sz, zTa_mk, zTa_r, k0, k3, q3, n3]; first | done | exact vp_in_nI (by omega) (by omega) | exact ⟨rfl, vp_in_nI (by omega) (by omega)⟩ | exact ⟨trivial, vp_in_nI (by omega) (by omega)⟩ | (simp only [true_and]; exact vp_in_nI (by omega) (by omega)) | assumption) ?_)
      simp (disch := omega) only [zcl, zTa_k, zTa_ly, zTa_hd, zTa_sz, zTa_mk, zTa_r, q3, hs]
      refine zW_if (fun _ => ?_) (fun h => absurd (by decide) h)
      refine zW_r rfl trivial ?_
      exact hQ _ _ _ hR
  | succ m ih =>
    intro i hi x hx ly hd sz P hR hm ht hQ
    subst hx
    obtain ⟨c, l, hcl⟩ : ∃ c l, P p = c :: l := by
      cases hP : P p with
      | nil => rw [hP] at hm; simp at hm
      | cons c l => exact ⟨c, l, rfl⟩
    have hlen : (P p).length = l.length + 1 := by rw [hcl]; rfl
    have hs := (hR p hp).1
    rw [hm] at hs
    refine zW_if (fun h => ?_) (fun _ => ?_)
    · exfalso
      simp (disch := omega) only [zh, zh_st, ↓reduceIte, Nat.add_left_cancel_iff, Nat.reduceEqDiff, Nat.add_sub_cancel, Nat.reduceAdd, Nat.reduceSub, Nat.reduceMul, ← nI_0, zu_same, zu_ne, zoi, zoi_m1, nI_add, pk_mul, pk_sub, zcl, nI_leI, nI_ltI, nI_eq, ] at h
      omega
    · iterate 5 (first | refine zW_s rfl ?_ | refine zW_p rfl (by simp (disch := omega) only [zh, zh_st, ↓reduceIte, Nat.add_left_cancel_iff, Nat.reduceEqDiff, Nat.add_sub_cancel, Nat.reduceAdd, Nat.reduceSub, Nat.reduceMul, ← nI_0, zu_same, zu_ne, zoi, zoi_m1, nI_add, pk_mul, pk_sub, zcl, nI_leI, nI_ltI, nI_eq, zTa_k, zTa_ly, zTa_hd, zTa_sz, zTa_mk, zTa_r, k0, k3, q3, n3]; first | done | exact vp_in_nI (by omega) (by omega) | exact ⟨rfl, vp_in_nI (by omega) (by omega)⟩ | exact ⟨trivial, vp_in_nI (by omega) (by omega)⟩ | (simp only [true_and]; exact vp_in_nI (by omega) (by omega)) | assumption) ?_)
      simp (disch := omega) only [zcl, zTa_k, zTa_ly, zTa_hd, zTa_sz, zTa_mk, zTa_r, q3, hs]
      refine zW_if (fun h => ?_) (fun _ => ?_)
      · exfalso
        simp (disch := omega) only [zh, zh_st, ↓reduceIte, Nat.add_left_cancel_iff, Nat.reduceEqDiff, Nat.add_sub_cancel, Nat.reduceAdd, Nat.reduceSub, Nat.reduceMul, ← nI_0, zu_same, zu_ne, zoi, zoi_m1, nI_add, pk_mul, pk_sub, zcl, nI_leI, nI_ltI, nI_eq, ] at h
        omega
      · iterate 4 (first | refine zW_s rfl ?_ | refine zW_p rfl (by simp (disch := omega) only [zh, zh_st, ↓reduceIte, Nat.add_left_cancel_iff, Nat.reduceEqDiff, Nat.add_sub_cancel, Nat.reduceAdd, Nat.reduceSub, Nat.reduceMul, ← nI_0, zu_same, zu_ne, zoi, zoi_m1, nI_add, pk_mul, pk_sub, zcl, nI_leI, nI_ltI, nI_eq, ]; first | done | exact vp_in_nI (by omega) (by omega) | exact ⟨rfl, vp_in_nI (by omega) (by omega)⟩ | exact ⟨trivial, vp_in_nI (by omega) (by omega)⟩ | (simp only [true_and]; exact vp_in_nI (by omega) (by omega)) | assumption) ?_)
        refine zW_c rfl (by simp only [zTa_k]; exact hT.1) ?_
        refine s_pop hT hR hp hcl (fun sz' hR' => ?_)
        refine zW_c rfl (by simp only [zTa_k]; exact hT.1) ?_
        have h2 := zTot_le2 (P := P) hp hq hpq
        refine s_push hT hR' hq (by rw [zu_ne _ _ (fun h => hpq h.symm)]; omega) (fun ly2 sz2 hR2 => ?_)
        have hs2 := (hR2 p hp).1
        rw [zu_ne _ _ hpq, zu_same] at hs2
        iterate 8 (first | refine zW_s rfl ?_ | refine zW_p rfl (by simp (disch := omega) only [zh, zh_st, ↓reduceIte, Nat.add_left_cancel_iff, Nat.reduceEqDiff, Nat.add_sub_cancel, Nat.reduceAdd, Nat.reduceSub, Nat.reduceMul, ← nI_0, zu_same, zu_ne, zoi, zoi_m1, nI_add, pk_mul, pk_sub, zcl, nI_leI, nI_ltI, nI_eq, zTa_k, zTa_ly, zTa_hd, zTa_sz, zTa_mk, zTa_r, k0, k3, q3, n3]; first | done | exact vp_in_nI (by omega) (by omega) | exact ⟨rfl, vp_in_nI (by omega) (by omega)⟩ | exact ⟨trivial, vp_in_nI (by omega) (by omega)⟩ | (simp only [true_and]; exact vp_in_nI (by omega) (by omega)) | assumption) ?_)
        have hv : (if nI l.length < nI 1 then nI l.length else nI 1) = nI (min 1 l.length) := by
          by_cases h : l.length < 1
          · rw [if_pos ((nI_ltI (by omega) (by omega)).mpr h), show min 1 l.length = l.length by omega]
          · rw [if_neg (fun q => h ((nI_ltI (by omega) (by omega)).mp q)), show min 1 l.length = 1 by omega]
        simp (disch := omega) only [zoi, zcl, zTa_k, zTa_ly, zTa_hd, zTa_sz, zTa_mk, zTa_r, q3, hs2]
        rw [hv]
        refine zW_c rfl (by simp only [zTa_k]; exact hT.1) ?_
        have hPp : zu (zu P p l) q (c :: zu P p l q) p = l := by rw [zu_ne _ _ hpq, zu_same]
        refine s_cut hT hR2 hp (by rw [hPp]; omega) (fun ly3 hd3 hR3 => ?_)
        rw [hPp] at hR3
        have hct : l.drop (min 1 l.length) ++ l.take (min 1 l.length) = l.drop 1 ++ l.take 1 := by
          cases l with
          | nil => rfl
          | cons a l => rw [show min 1 (a :: l).length = 1 by simp only [List.length_cons]; omega]
        have hP3 : zu (zu (zu P p l) q (c :: zu P p l q)) p (l.drop (min 1 l.length) ++ l.take (min 1 l.length)) = zu (zu P q (c :: P q)) p (l.drop 1 ++ l.take 1) := by
          funext j
          rw [hct, zu_ne (f := P) l (fun h => hpq h.symm)]
          unfold zu
          by_cases hj : j = p
          · rw [if_pos hj, if_pos hj]
          · rw [if_neg hj, if_neg hj, if_neg hj]
        rw [hP3] at hR3
        iterate 5 (first | refine zW_s rfl ?_ | refine zW_p rfl (by simp (disch := omega) only [zh, zh_st, ↓reduceIte, Nat.add_left_cancel_iff, Nat.reduceEqDiff, Nat.add_sub_cancel, Nat.reduceAdd, Nat.reduceSub, Nat.reduceMul, ← nI_0, zu_same, zu_ne, zoi, zoi_m1, nI_add, pk_mul, pk_sub, zcl, nI_leI, nI_ltI, nI_eq, ]; first | done | exact vp_in_nI (by omega) (by omega) | exact ⟨rfl, vp_in_nI (by omega) (by omega)⟩ | exact ⟨trivial, vp_in_nI (by omega) (by omega)⟩ | (simp only [true_and]; exact vp_in_nI (by omega) (by omega)) | assumption) ?_)
        refine ih (i + 1) (by omega) _ (by simp (disch := omega) only [zh, zh_st, ↓reduceIte, Nat.add_left_cancel_iff, Nat.reduceEqDiff, Nat.add_sub_cancel, Nat.reduceAdd, Nat.reduceSub, Nat.reduceMul, ← nI_0, zu_same, zu_ne, zoi, zoi_m1, nI_add, pk_mul, pk_sub, zcl, nI_leI, nI_ltI, nI_eq, ]) _ _ _ _ hR3 ?_ ?_ (fun ly4 hd4 sz4 hR4 => hQ _ _ _ ?_)
        · rw [zu_same, List.length_append, List.length_drop, List.length_take]; omega
        · have h3 := zTot_u (P := P) hq (c :: P q)
          have h4 := zTot_u (P := zu P q (c :: P q)) hp (l.drop 1 ++ l.take 1)
          rw [zu_ne _ _ hpq] at h4
          simp only [List.length_append, List.length_drop, List.length_take, List.length_cons] at h3 h4
          omega
        · rw [zdown, hcl]
          exact hR4
theorem e_down {d t p q : Nat} {σ : zH} (hT : zTb σ t) {ly hd sz : Nat → Int32} {mk : Int32} {P : Nat → List Nat} (hR : zTR ly sz P) (hp : p < 4) (hq : q < 4) (hpq : p ≠ q) (ht : zTot P ≤ 9) {Q : Option Value → zH → Prop} (hQ : ∀ ly' hd' sz', zTR ly' sz' (zdown (P p).length P p q) → Q none (zTa σ t ly' hd' sz' mk)) : zM (d + 2) 81 [.ref t, .int (nI p), .int (nI q)] (zTa σ t ly hd sz mk) Q := by
  unfold zM
  iterate 5 (first | refine zW_s rfl ?_ | refine zW_p rfl (by simp (disch := omega) only [zh, zh_st, ↓reduceIte, Nat.add_left_cancel_iff, Nat.reduceEqDiff, Nat.add_sub_cancel, Nat.reduceAdd, Nat.reduceSub, Nat.reduceMul, ← nI_0, zu_same, zu_ne, zoi, zoi_m1, nI_add, pk_mul, pk_sub, zcl, nI_leI, nI_ltI, nI_eq, ]; first | done | exact vp_in_nI (by omega) (by omega) | exact ⟨rfl, vp_in_nI (by omega) (by omega)⟩ | exact ⟨trivial, vp_in_nI (by omega) (by omega)⟩ | (simp only [true_and]; exact vp_in_nI (by omega) (by omega)) | assumption) ?_)
  exact l_down hT hp hq hpq (P p).length 0 (by have := (hR p hp).2.1; omega) _ rfl _ _ _ P hR rfl ht hQ
