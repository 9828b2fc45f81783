/-- how many cards lie in all -/
def zTot (P : Nat → List Nat) : Nat := (P 0).length + (P 1).length + (P 2).length + (P 3).length
theorem zTot_le {P : Nat → List Nat} {p : Nat} (h : p < 4) : (P p).length ≤ zTot P := by
  unfold zTot
  rcases (show p = 0 ∨ p = 1 ∨ p = 2 ∨ p = 3 by omega) with rfl | rfl | rfl | rfl <;> omega
theorem zTot_le2 {P : Nat → List Nat} {p q : Nat} (h : p < 4) (h2 : q < 4) (hpq : p ≠ q) : (P p).length + (P q).length ≤ zTot P := by
  unfold zTot
  rcases (show p = 0 ∨ p = 1 ∨ p = 2 ∨ p = 3 by omega) with rfl | rfl | rfl | rfl <;> rcases (show q = 0 ∨ q = 1 ∨ q = 2 ∨ q = 3 by omega) with rfl | rfl | rfl | rfl <;> omega
theorem zTot_u {P : Nat → List Nat} {p : Nat} (h : p < 4) (l : List Nat) : zTot (zu P p l) + (P p).length = zTot P + l.length := by
  unfold zTot zu
  rcases (show p = 0 ∨ p = 1 ∨ p = 2 ∨ p = 3 by omega) with rfl | rfl | rfl | rfl <;> simp <;> omega
/-- m cards go one by one from pile p on pile q -/
def zdeal : Nat → (Nat → List Nat) → Nat → Nat → (Nat → List Nat)
  | 0, P, _, _ => P
  | m + 1, P, p, q => match P p with
    | [] => P
    | c :: l => zdeal m (zu (zu P p l) q (c :: zu P p l q)) p q
set_option maxHeartbeats 1000000 in
theorem l_deal {d t p q mny : Nat} {σ : zH} (hT : zTb σ t) {hd : Nat → Int32} {mk : Int32} (hp : p < 4) (hq : q < 4) (hpq : p ≠ q) (hm9 : mny ≤ 9) {Q : Option Value → zH → Prop} : ∀ (m i : Nat), i + m = mny → ∀ (x : Int32), x = nI i → ∀ (ly sz : Nat → Int32) (P : Nat → List Nat), zTR ly sz P → m ≤ (P p).length → zTot P ≤ 9 → (∀ ly' sz', zTR ly' sz' (zdeal m P p q) → Q none (zTa σ t ly' hd sz' mk)) → zW (d + 1) 73 (if nI mny ≤ x then 25 else 9) [(0, .ref t), (1, .int (nI p)), (2, .int (nI mny)), (3, .int (nI q)), (4, .int x)] [] (zTa σ t ly hd sz mk) Q := by
  intro m
  induction m with
  | zero =>
    intro i hi x hx ly sz P hR hm ht hQ
    subst hx
    refine zW_if (fun _ => ?_) (fun h => ?_)
    · refine zW_r rfl trivial ?_
      exact hQ _ _ hR
    · exfalso
      simp (disch := omega) only [zh, zh_st, ↓reduceIte, Nat.add_left_cancel_iff, Nat.reduceEqDiff, Nat.add_sub_cancel, Nat.reduceAdd, Nat.reduceSub, Nat.reduceMul, ← nI_0, zu_same, zu_ne, zoi, zoi_m1, nI_add, pk_mul, pk_sub, zcl, nI_leI, nI_ltI, nI_eq, ] at h
      omega
  | succ m ih =>
    intro i hi x hx ly sz P hR hm ht hQ
    subst hx
    refine zW_if (fun h => ?_) (fun _ => ?_)
    · exfalso
      simp (disch := omega) only [zh, zh_st, ↓reduceIte, Nat.add_left_cancel_iff, Nat.reduceEqDiff, Nat.add_sub_cancel, Nat.reduceAdd, Nat.reduceSub, Nat.reduceMul, ← nI_0, zu_same, zu_ne, zoi, zoi_m1, nI_add, pk_mul, pk_sub, zcl, nI_leI, nI_ltI, nI_eq, ] at h
      omega
    · obtain ⟨c, l, hcl⟩ : ∃ c l, P p = c :: l := by
        cases hP : P p with
        | nil => rw [hP] at hm; simp at hm
        | cons c l => exact ⟨c, l, rfl⟩
      have hlen : (P p).length = l.length + 1 := by rw [hcl]; rfl
      iterate 4 (first | refine zW_s rfl ?_ | refine zW_p rfl (by simp (disch := omega) only [zh, zh_st, ↓reduceIte, Nat.add_left_cancel_iff, Nat.reduceEqDiff, Nat.add_sub_cancel, Nat.reduceAdd, Nat.reduceSub, Nat.reduceMul, ← nI_0, zu_same, zu_ne, zoi, zoi_m1, nI_add, pk_mul, pk_sub, zcl, nI_leI, nI_ltI, nI_eq, ]; first | done | exact vp_in_nI (by omega) (by omega) | exact ⟨rfl, vp_in_nI (by omega) (by omega)⟩ | exact ⟨trivial, vp_in_nI (by omega) (by omega)⟩ | (simp only [true_and]; exact vp_in_nI (by omega) (by omega)) | assumption) ?_)
      refine zW_c rfl (by simp only [zTa_k]; exact hT.1) ?_
      refine s_pop hT hR hp hcl (fun sz' hR' => ?_)
      refine zW_c rfl (by simp only [zTa_k]; exact hT.1) ?_
      have h2 := zTot_le2 (P := P) hp hq hpq
      refine s_push hT hR' hq (by rw [zu_ne _ _ (fun h => hpq h.symm)]; omega) (fun ly2 sz2 hR2 => ?_)
      iterate 5 (first | refine zW_s rfl ?_ | refine zW_p rfl (by simp (disch := omega) only [zh, zh_st, ↓reduceIte, Nat.add_left_cancel_iff, Nat.reduceEqDiff, Nat.add_sub_cancel, Nat.reduceAdd, Nat.reduceSub, Nat.reduceMul, ← nI_0, zu_same, zu_ne, zoi, zoi_m1, nI_add, pk_mul, pk_sub, zcl, nI_leI, nI_ltI, nI_eq, ]; first | done | exact vp_in_nI (by omega) (by omega) | exact ⟨rfl, vp_in_nI (by omega) (by omega)⟩ | exact ⟨trivial, vp_in_nI (by omega) (by omega)⟩ | (simp only [true_and]; exact vp_in_nI (by omega) (by omega)) | assumption) ?_)
      refine ih (i + 1) (by omega) _ (by simp (disch := omega) only [zh, zh_st, ↓reduceIte, Nat.add_left_cancel_iff, Nat.reduceEqDiff, Nat.add_sub_cancel, Nat.reduceAdd, Nat.reduceSub, Nat.reduceMul, ← nI_0, zu_same, zu_ne, zoi, zoi_m1, nI_add, pk_mul, pk_sub, zcl, nI_leI, nI_ltI, nI_eq, ]) _ _ _ hR2 ?_ ?_ (fun ly3 sz3 hR3 => hQ _ _ ?_)
      · rw [zu_ne _ _ hpq, zu_same]; omega
      · have h3 := zTot_u (P := P) hp l
        have h4 := zTot_u (P := zu P p l) hq (c :: zu P p l q)
        simp only [List.length_cons] at h4
        omega
      · rw [zdeal, hcl]
        exact hR3
theorem e_deal {d t p q mny : Nat} {σ : zH} (hT : zTb σ t) {ly hd sz : Nat → Int32} {mk : Int32} {P : Nat → List Nat} (hR : zTR ly sz P) (hp : p < 4) (hq : q < 4) (hpq : p ≠ q) (hm : mny ≤ (P p).length) (ht : zTot P ≤ 9) {Q : Option Value → zH → Prop} (hQ : ∀ ly' sz', zTR ly' sz' (zdeal mny P p q) → Q none (zTa σ t ly' hd sz' mk)) : zM (d + 1) 73 [.ref t, .int (nI p), .int (nI mny), .int (nI q)] (zTa σ t ly hd sz mk) Q := by
  unfold zM
  iterate 5 (first | refine zW_s rfl ?_ | refine zW_p rfl (by simp (disch := omega) only [zh, zh_st, ↓reduceIte, Nat.add_left_cancel_iff, Nat.reduceEqDiff, Nat.add_sub_cancel, Nat.reduceAdd, Nat.reduceSub, Nat.reduceMul, ← nI_0, zu_same, zu_ne, zoi, zoi_m1, nI_add, pk_mul, pk_sub, zcl, nI_leI, nI_ltI, nI_eq, ]; first | done | exact vp_in_nI (by omega) (by omega) | exact ⟨rfl, vp_in_nI (by omega) (by omega)⟩ | exact ⟨trivial, vp_in_nI (by omega) (by omega)⟩ | (simp only [true_and]; exact vp_in_nI (by omega) (by omega)) | assumption) ?_)
  have h1 := zTot_le (P := P) hp
  exact l_deal hT hp hq hpq (by omega) mny 0 (by omega) _ rfl _ _ P hR hm ht hQ
