/-- the faro of A and B, whose turn it is -/
def zfa : Nat → Bool → List Nat → List Nat → List Nat
  | 0, _, _, _ => []
  | m + 1, ft, A, B => match A, B with
    | [], [] => []
    | [], b :: B => b :: zfa m (!ft) [] B
    | a :: A, [] => a :: zfa m (!ft) A []
    | a :: A, b :: B => if ft then a :: zfa m (!ft) A (b :: B) else b :: zfa m (!ft) (a :: A) B
def zbi (b : Bool) : Int32 := if b then 1 else 0
abbrev zfc (t s p q tot : Nat) (ft x : Int32) : zC := [(0, .ref t), (1, .ref s), (2, .int (nI p)), (3, .int (nI q)), (4, .int (nI tot)), (5, .int ft), (6, .int x)]
set_option maxHeartbeats 4000000 in
theorem l_faro {d t s p q tot : Nat} {σ : zH} (hT : zTb σ t) {mk : Int32} (hp : p < 4) (hq : q < 4) (hpq : p ≠ q) (ht9 : tot ≤ 9) {Q : Option Value → zH → Prop} : ∀ (m i : Nat), i + m = tot → ∀ (x : Int32), x = nI i → ∀ (ft : Bool) (ly hd sz : Nat → Int32) (P : Nat → List Nat) (h : List Nat) (lx : zC), zHD hd h → h.length = i → zTR ly sz P → (P p).length + (P q).length = m → (∀ ly' hd' sz' h', zHD hd' h' → h' = h ++ zfa m ft (P p) (P q) → zTR ly' sz' (zu (zu P p []) q []) → zW (d + 1) 80 114 [(0, .ref t), (1, .ref s), (4, .int (nI tot))] [] (zTa σ t ly' hd' sz' mk) Q) → zW (d + 1) 80 31 (zfc t s p q tot (zbi ft) x ++ lx) [] (zTa σ t ly hd sz mk) Q := by
  have ⟨k0, k1, k2, k3, n1, n2, n3, q0, q1, q2, q3⟩ := hT
  intro m
  induction m with
  | zero =>
    intro i hi x hx ft ly hd sz P h lx hh hl hR hm hQ
    subst hx
    refine zW_k [0, 1, 2, 3, 4, 5, 6] rfl ?_
    iterate 3 (first | refine zW_s rfl ?_ | refine zW_p rfl (by simp (disch := omega) only [zh, zh_st, ↓reduceIte, Nat.add_left_cancel_iff, Nat.reduceEqDiff, Nat.add_sub_cancel, Nat.reduceAdd, Nat.reduceSub, Nat.reduceMul, ← nI_0, zu_same, zu_ne, zoi, zoi_m1, nI_add, pk_mul, pk_sub, zcl, nI_leI, nI_ltI, nI_eq, ]; first | done | exact vp_in_nI (by omega) (by omega) | exact ⟨rfl, vp_in_nI (by omega) (by omega)⟩ | exact ⟨trivial, vp_in_nI (by omega) (by omega)⟩ | (simp only [true_and]; exact vp_in_nI (by omega) (by omega)) | assumption) ?_)
    refine zW_if (fun _ => ?_) (fun h => ?_)
    · refine zW_k [0, 1, 4] rfl ?_
      have e1 : P p = [] := List.length_eq_zero_iff.mp (by omega)
      have e2 : P q = [] := List.length_eq_zero_iff.mp (by omega)
      refine hQ _ _ _ h hh (by rw [zfa, List.append_nil]) ?_
      rw [zu_id (f := P) e1, zu_id (f := P) e2]
      exact hR
    · exfalso
      simp (disch := omega) only [zh, zh_st, ↓reduceIte, Nat.add_left_cancel_iff, Nat.reduceEqDiff, Nat.add_sub_cancel, Nat.reduceAdd, Nat.reduceSub, Nat.reduceMul, ← nI_0, zu_same, zu_ne, zoi, zoi_m1, nI_add, pk_mul, pk_sub, zcl, nI_leI, nI_ltI, nI_eq, ] at h
      omega
  | succ m ih =>
    intro i hi x hx ft ly hd sz P h lx hh hl hR hm hQ
    subst hx
    refine zW_k [0, 1, 2, 3, 4, 5, 6] rfl ?_
    have sp := (hR p hp).1
    have sq := (hR q hq).1
    have takeP : ∀ (a : Nat) (A : List Nat) (lx' : zC), P p = a :: A → zfa (m + 1) ft (P p) (P q) = a :: zfa m (!ft) A (P q) → zW (d + 1) 80 75 (zfc t s p q tot (zbi ft) (nI i) ++ [(7, .int (nI 1))]) [] (zTa σ t ly hd sz mk) Q := by
      intro a A lx' hA hz
      have hAl : (P p).length = A.length + 1 := by rw [hA]; rfl
      iterate 6 (first | refine zW_s rfl ?_ | refine zW_p rfl (by simp (disch := omega) only [zh, zh_st, ↓reduceIte, Nat.add_left_cancel_iff, Nat.reduceEqDiff, Nat.add_sub_cancel, Nat.reduceAdd, Nat.reduceSub, Nat.reduceMul, ← nI_0, zu_same, zu_ne, zoi, zoi_m1, nI_add, pk_mul, pk_sub, zcl, nI_leI, nI_ltI, nI_eq, zTa_k, zTa_ly, zTa_hd, zTa_sz, zTa_mk, zTa_r, k0]; first | done | exact vp_in_nI (by omega) (by omega) | exact ⟨rfl, vp_in_nI (by omega) (by omega)⟩ | exact ⟨trivial, vp_in_nI (by omega) (by omega)⟩ | (simp only [true_and]; exact vp_in_nI (by omega) (by omega)) | assumption) ?_)
      refine zW_if (fun h => absurd h (by decide)) (fun _ => ?_)
      iterate 2 (first | refine zW_s rfl ?_ | refine zW_p rfl (by simp (disch := omega) only [zh, zh_st, ↓reduceIte, Nat.add_left_cancel_iff, Nat.reduceEqDiff, Nat.add_sub_cancel, Nat.reduceAdd, Nat.reduceSub, Nat.reduceMul, ← nI_0, zu_same, zu_ne, zoi, zoi_m1, nI_add, pk_mul, pk_sub, zcl, nI_leI, nI_ltI, nI_eq, ]; first | done | exact vp_in_nI (by omega) (by omega) | exact ⟨rfl, vp_in_nI (by omega) (by omega)⟩ | exact ⟨trivial, vp_in_nI (by omega) (by omega)⟩ | (simp only [true_and]; exact vp_in_nI (by omega) (by omega)) | assumption) ?_)
      refine zW_c rfl (by simp only [zTa_k]; exact hT.1) ?_
      refine s_pop hT hR hp hA (fun sz' hR' => ?_)
      iterate 1 (first | refine zW_s rfl ?_ | refine zW_p rfl (by simp (disch := omega) only [zh, zh_st, ↓reduceIte, Nat.add_left_cancel_iff, Nat.reduceEqDiff, Nat.add_sub_cancel, Nat.reduceAdd, Nat.reduceSub, Nat.reduceMul, ← nI_0, zu_same, zu_ne, zoi, zoi_m1, nI_add, pk_mul, pk_sub, zcl, nI_leI, nI_ltI, nI_eq, zTa_k, zTa_ly, zTa_hd, zTa_sz, zTa_mk, zTa_r, q2, k2, n2]; first | done | exact vp_in_nI (by omega) (by omega) | exact ⟨rfl, vp_in_nI (by omega) (by omega)⟩ | exact ⟨trivial, vp_in_nI (by omega) (by omega)⟩ | (simp only [true_and]; exact vp_in_nI (by omega) (by omega)) | assumption) ?_)
      refine zW_e (τ := zTa σ t ly (zu hd i (nI a)) sz' mk) (by simp (disch := omega) only [zh, zh_st, ↓reduceIte, Nat.add_left_cancel_iff, Nat.reduceEqDiff, Nat.add_sub_cancel, Nat.reduceAdd, Nat.reduceSub, Nat.reduceMul, ← nI_0, zu_same, zu_ne, zoi, zoi_m1, nI_add, pk_mul, pk_sub, zcl, nI_leI, nI_ltI, nI_eq, zTa_k, zTa_ly, zTa_hd, zTa_sz, zTa_mk, zTa_r, q2]) ?_
      have hh' := zHD_u hh a
      rw [hl] at hh'
      have fin : zW (d + 1) 80 31 (zfc t s p q tot (zbi (!ft)) (nI i + Int32.ofInt 1) ++ [(7, .int (nI 1))]) [] (zTa σ t ly (zu hd i (nI a)) sz' mk) Q := by
        refine ih (i + 1) (by omega) (nI i + Int32.ofInt 1) (by simp (disch := omega) only [zh, zh_st, ↓reduceIte, Nat.add_left_cancel_iff, Nat.reduceEqDiff, Nat.add_sub_cancel, Nat.reduceAdd, Nat.reduceSub, Nat.reduceMul, ← nI_0, zu_same, zu_ne, zoi, zoi_m1, nI_add, pk_mul, pk_sub, zcl, nI_leI, nI_ltI, nI_eq, ]) (!ft) _ _ _ _ (h ++ [a]) _ hh' (by simp [hl]) hR' ?_ (fun ly2 hd2 sz2 h2 g1 g2 g3 => hQ _ _ _ h2 g1 ?_ ?_)
        · rw [zu_same, zu_ne _ _ (fun h => hpq h.symm)]; omega
        · rw [zu_same, zu_ne _ _ (fun h => hpq h.symm)] at g2
          rw [g2, hz, List.append_assoc]
          rfl
        · rw [zu_zu] at g3
          exact g3
      cases ft with
      | true => iterate 6 (first | refine zW_s rfl ?_ | refine zW_p rfl (by simp (disch := omega) only [zh, zh_st, ↓reduceIte, Nat.add_left_cancel_iff, Nat.reduceEqDiff, Nat.add_sub_cancel, Nat.reduceAdd, Nat.reduceSub, Nat.reduceMul, ← nI_0, zu_same, zu_ne, zoi, zoi_m1, nI_add, pk_mul, pk_sub, zcl, nI_leI, nI_ltI, nI_eq, ]; first | done | exact vp_in_nI (by omega) (by omega) | exact ⟨rfl, vp_in_nI (by omega) (by omega)⟩ | exact ⟨trivial, vp_in_nI (by omega) (by omega)⟩ | (simp only [true_and]; exact vp_in_nI (by omega) (by omega)) | assumption) ?_)
                exact fin
      | false => iterate 7 (first | refine zW_s rfl ?_ | refine zW_p rfl (by simp (disch := omega) only [zh, zh_st, ↓reduceIte, Nat.add_left_cancel_iff, Nat.reduceEqDiff, Nat.add_sub_cancel, Nat.reduceAdd, Nat.reduceSub, Nat.reduceMul, ← nI_0, zu_same, zu_ne, zoi, zoi_m1, nI_add, pk_mul, pk_sub, zcl, nI_leI, nI_ltI, nI_eq, ]; first | done | exact vp_in_nI (by omega) (by omega) | exact ⟨rfl, vp_in_nI (by omega) (by omega)⟩ | exact ⟨trivial, vp_in_nI (by omega) (by omega)⟩ | (simp only [true_and]; exact vp_in_nI (by omega) (by omega)) | assumption) ?_)
                 exact fin
    have takeQ : ∀ (b : Nat) (B : List Nat) (lx' : zC), P q = b :: B → zfa (m + 1) ft (P p) (P q) = b :: zfa m (!ft) (P p) B → zW (d + 1) 80 75 (zfc t s p q tot (zbi ft) (nI i) ++ [(7, .int (nI 0))]) [] (zTa σ t ly hd sz mk) Q := by
      intro b B lx' hB hz
      have hBl : (P q).length = B.length + 1 := by rw [hB]; rfl
      iterate 6 (first | refine zW_s rfl ?_ | refine zW_p rfl (by simp (disch := omega) only [zh, zh_st, ↓reduceIte, Nat.add_left_cancel_iff, Nat.reduceEqDiff, Nat.add_sub_cancel, Nat.reduceAdd, Nat.reduceSub, Nat.reduceMul, ← nI_0, zu_same, zu_ne, zoi, zoi_m1, nI_add, pk_mul, pk_sub, zcl, nI_leI, nI_ltI, nI_eq, zTa_k, zTa_ly, zTa_hd, zTa_sz, zTa_mk, zTa_r, k0]; first | done | exact vp_in_nI (by omega) (by omega) | exact ⟨rfl, vp_in_nI (by omega) (by omega)⟩ | exact ⟨trivial, vp_in_nI (by omega) (by omega)⟩ | (simp only [true_and]; exact vp_in_nI (by omega) (by omega)) | assumption) ?_)
      refine zW_if (fun _ => ?_) (fun h => absurd (by decide) h)
      iterate 1 (first | refine zW_s rfl ?_ | refine zW_p rfl (by simp (disch := omega) only [zh, zh_st, ↓reduceIte, Nat.add_left_cancel_iff, Nat.reduceEqDiff, Nat.add_sub_cancel, Nat.reduceAdd, Nat.reduceSub, Nat.reduceMul, ← nI_0, zu_same, zu_ne, zoi, zoi_m1, nI_add, pk_mul, pk_sub, zcl, nI_leI, nI_ltI, nI_eq, ]; first | done | exact vp_in_nI (by omega) (by omega) | exact ⟨rfl, vp_in_nI (by omega) (by omega)⟩ | exact ⟨trivial, vp_in_nI (by omega) (by omega)⟩ | (simp only [true_and]; exact vp_in_nI (by omega) (by omega)) | assumption) ?_)
      refine zW_c rfl (by simp only [zTa_k]; exact hT.1) ?_
      refine s_pop hT hR hq hB (fun sz' hR' => ?_)
      iterate 1 (first | refine zW_s rfl ?_ | refine zW_p rfl (by simp (disch := omega) only [zh, zh_st, ↓reduceIte, Nat.add_left_cancel_iff, Nat.reduceEqDiff, Nat.add_sub_cancel, Nat.reduceAdd, Nat.reduceSub, Nat.reduceMul, ← nI_0, zu_same, zu_ne, zoi, zoi_m1, nI_add, pk_mul, pk_sub, zcl, nI_leI, nI_ltI, nI_eq, zTa_k, zTa_ly, zTa_hd, zTa_sz, zTa_mk, zTa_r, q2, k2, n2]; first | done | exact vp_in_nI (by omega) (by omega) | exact ⟨rfl, vp_in_nI (by omega) (by omega)⟩ | exact ⟨trivial, vp_in_nI (by omega) (by omega)⟩ | (simp only [true_and]; exact vp_in_nI (by omega) (by omega)) | assumption) ?_)
      refine zW_e (τ := zTa σ t ly (zu hd i (nI b)) sz' mk) (by simp (disch := omega) only [zh, zh_st, ↓reduceIte, Nat.add_left_cancel_iff, Nat.reduceEqDiff, Nat.add_sub_cancel, Nat.reduceAdd, Nat.reduceSub, Nat.reduceMul, ← nI_0, zu_same, zu_ne, zoi, zoi_m1, nI_add, pk_mul, pk_sub, zcl, nI_leI, nI_ltI, nI_eq, zTa_k, zTa_ly, zTa_hd, zTa_sz, zTa_mk, zTa_r, q2]) ?_
      have hh' := zHD_u hh b
      rw [hl] at hh'
      have fin : zW (d + 1) 80 31 (zfc t s p q tot (zbi (!ft)) (nI i + Int32.ofInt 1) ++ [(7, .int (nI 0))]) [] (zTa σ t ly (zu hd i (nI b)) sz' mk) Q := by
        refine ih (i + 1) (by omega) (nI i + Int32.ofInt 1) (by simp (disch := omega) only [zh, zh_st, ↓reduceIte, Nat.add_left_cancel_iff, Nat.reduceEqDiff, Nat.add_sub_cancel, Nat.reduceAdd, Nat.reduceSub, Nat.reduceMul, ← nI_0, zu_same, zu_ne, zoi, zoi_m1, nI_add, pk_mul, pk_sub, zcl, nI_leI, nI_ltI, nI_eq, ]) (!ft) _ _ _ _ (h ++ [b]) _ hh' (by simp [hl]) hR' ?_ (fun ly2 hd2 sz2 h2 g1 g2 g3 => hQ _ _ _ h2 g1 ?_ ?_)
        · rw [zu_same, zu_ne _ _ hpq]; omega
        · rw [zu_same, zu_ne _ _ hpq] at g2
          rw [g2, hz, List.append_assoc]
          rfl
        · have e9 : zu (zu (zu P q B) p []) q [] = zu (zu P p []) q [] := by
            funext j
            unfold zu
            by_cases hj : j = q
            · rw [if_pos hj, if_pos hj]
            · rw [if_neg hj, if_neg hj, if_neg hj]
          rw [e9] at g3
          exact g3
      cases ft with
      | true => iterate 6 (first | refine zW_s rfl ?_ | refine zW_p rfl (by simp (disch := omega) only [zh, zh_st, ↓reduceIte, Nat.add_left_cancel_iff, Nat.reduceEqDiff, Nat.add_sub_cancel, Nat.reduceAdd, Nat.reduceSub, Nat.reduceMul, ← nI_0, zu_same, zu_ne, zoi, zoi_m1, nI_add, pk_mul, pk_sub, zcl, nI_leI, nI_ltI, nI_eq, ]; first | done | exact vp_in_nI (by omega) (by omega) | exact ⟨rfl, vp_in_nI (by omega) (by omega)⟩ | exact ⟨trivial, vp_in_nI (by omega) (by omega)⟩ | (simp only [true_and]; exact vp_in_nI (by omega) (by omega)) | assumption) ?_)
                exact fin
      | false => iterate 7 (first | refine zW_s rfl ?_ | refine zW_p rfl (by simp (disch := omega) only [zh, zh_st, ↓reduceIte, Nat.add_left_cancel_iff, Nat.reduceEqDiff, Nat.add_sub_cancel, Nat.reduceAdd, Nat.reduceSub, Nat.reduceMul, ← nI_0, zu_same, zu_ne, zoi, zoi_m1, nI_add, pk_mul, pk_sub, zcl, nI_leI, nI_ltI, nI_eq, ]; first | done | exact vp_in_nI (by omega) (by omega) | exact ⟨rfl, vp_in_nI (by omega) (by omega)⟩ | exact ⟨trivial, vp_in_nI (by omega) (by omega)⟩ | (simp only [true_and]; exact vp_in_nI (by omega) (by omega)) | assumption) ?_)
                 exact fin
    iterate 3 (first | refine zW_s rfl ?_ | refine zW_p rfl (by simp (disch := omega) only [zh, zh_st, ↓reduceIte, Nat.add_left_cancel_iff, Nat.reduceEqDiff, Nat.add_sub_cancel, Nat.reduceAdd, Nat.reduceSub, Nat.reduceMul, ← nI_0, zu_same, zu_ne, zoi, zoi_m1, nI_add, pk_mul, pk_sub, zcl, nI_leI, nI_ltI, nI_eq, ]; first | done | exact vp_in_nI (by omega) (by omega) | exact ⟨rfl, vp_in_nI (by omega) (by omega)⟩ | exact ⟨trivial, vp_in_nI (by omega) (by omega)⟩ | (simp only [true_and]; exact vp_in_nI (by omega) (by omega)) | assumption) ?_)
    refine zW_if (fun h => ?_) (fun _ => ?_)
    · exfalso
      simp (disch := omega) only [zh, zh_st, ↓reduceIte, Nat.add_left_cancel_iff, Nat.reduceEqDiff, Nat.add_sub_cancel, Nat.reduceAdd, Nat.reduceSub, Nat.reduceMul, ← nI_0, zu_same, zu_ne, zoi, zoi_m1, nI_add, pk_mul, pk_sub, zcl, nI_leI, nI_ltI, nI_eq, ] at h
      omega
    iterate 3 (first | refine zW_s rfl ?_ | refine zW_p rfl (by simp (disch := omega) only [zh, zh_st, ↓reduceIte, Nat.add_left_cancel_iff, Nat.reduceEqDiff, Nat.add_sub_cancel, Nat.reduceAdd, Nat.reduceSub, Nat.reduceMul, ← nI_0, zu_same, zu_ne, zoi, zoi_m1, nI_add, pk_mul, pk_sub, zcl, nI_leI, nI_ltI, nI_eq, ]; first | done | exact vp_in_nI (by omega) (by omega) | exact ⟨rfl, vp_in_nI (by omega) (by omega)⟩ | exact ⟨trivial, vp_in_nI (by omega) (by omega)⟩ | (simp only [true_and]; exact vp_in_nI (by omega) (by omega)) | assumption) ?_)
    refine zW_if (fun h => ?_) (fun _ => ?_)
    · exfalso
      simp (disch := omega) only [zh, zh_st, ↓reduceIte, Nat.add_left_cancel_iff, Nat.reduceEqDiff, Nat.add_sub_cancel, Nat.reduceAdd, Nat.reduceSub, Nat.reduceMul, ← nI_0, zu_same, zu_ne, zoi, zoi_m1, nI_add, pk_mul, pk_sub, zcl, nI_leI, nI_ltI, nI_eq, ] at h
      omega
    iterate 5 (first | refine zW_s rfl ?_ | refine zW_p rfl (by simp (disch := omega) only [zh, zh_st, ↓reduceIte, Nat.add_left_cancel_iff, Nat.reduceEqDiff, Nat.add_sub_cancel, Nat.reduceAdd, Nat.reduceSub, Nat.reduceMul, ← nI_0, zu_same, zu_ne, zoi, zoi_m1, nI_add, pk_mul, pk_sub, zcl, nI_leI, nI_ltI, nI_eq, zTa_k, zTa_ly, zTa_hd, zTa_sz, zTa_mk, zTa_r, k0, k3, q3, n3]; first | done | exact vp_in_nI (by omega) (by omega) | exact ⟨rfl, vp_in_nI (by omega) (by omega)⟩ | exact ⟨trivial, vp_in_nI (by omega) (by omega)⟩ | (simp only [true_and]; exact vp_in_nI (by omega) (by omega)) | assumption) ?_)
    simp (disch := omega) only [zcl, zTa_k, zTa_ly, zTa_hd, zTa_sz, zTa_mk, zTa_r, q3, sq]
    have l9 := (hR q hq).2.1
    have l8 := (hR p hp).2.1
    cases hB : P q with
    | nil =>
      cases hA : P p with
      | nil => rw [hA, hB] at hm; simp at hm
      | cons a A =>
        refine zW_if (fun _ => ?_) (fun h => absurd nI_0 h)
        iterate 3 (first | refine zW_s rfl ?_ | refine zW_p rfl (by simp (disch := omega) only [zh, zh_st, ↓reduceIte, Nat.add_left_cancel_iff, Nat.reduceEqDiff, Nat.add_sub_cancel, Nat.reduceAdd, Nat.reduceSub, Nat.reduceMul, ← nI_0, zu_same, zu_ne, zoi, zoi_m1, nI_add, pk_mul, pk_sub, zcl, nI_leI, nI_ltI, nI_eq, ]; first | done | exact vp_in_nI (by omega) (by omega) | exact ⟨rfl, vp_in_nI (by omega) (by omega)⟩ | exact ⟨trivial, vp_in_nI (by omega) (by omega)⟩ | (simp only [true_and]; exact vp_in_nI (by omega) (by omega)) | assumption) ?_)
        exact takeP a A [] hA (by rw [hA, hB, zfa])
    | cons b B =>
      have hBl : (P q).length = B.length + 1 := by rw [hB]; rfl
      refine zW_if (fun h => absurd h (nI_ne0 (by simp) (by rw [← hB]; omega))) (fun _ => ?_)
      cases ft with
      | false =>
        iterate 2 (first | refine zW_s rfl ?_ | refine zW_p rfl (by simp (disch := omega) only [zh, zh_st, ↓reduceIte, Nat.add_left_cancel_iff, Nat.reduceEqDiff, Nat.add_sub_cancel, Nat.reduceAdd, Nat.reduceSub, Nat.reduceMul, ← nI_0, zu_same, zu_ne, zoi, zoi_m1, nI_add, pk_mul, pk_sub, zcl, nI_leI, nI_ltI, nI_eq, ]; first | done | exact vp_in_nI (by omega) (by omega) | exact ⟨rfl, vp_in_nI (by omega) (by omega)⟩ | exact ⟨trivial, vp_in_nI (by omega) (by omega)⟩ | (simp only [true_and]; exact vp_in_nI (by omega) (by omega)) | assumption) ?_)
        refine zW_if (fun _ => ?_) (fun h => absurd rfl h)
        iterate 2 (first | refine zW_s rfl ?_ | refine zW_p rfl (by simp (disch := omega) only [zh, zh_st, ↓reduceIte, Nat.add_left_cancel_iff, Nat.reduceEqDiff, Nat.add_sub_cancel, Nat.reduceAdd, Nat.reduceSub, Nat.reduceMul, ← nI_0, zu_same, zu_ne, zoi, zoi_m1, nI_add, pk_mul, pk_sub, zcl, nI_leI, nI_ltI, nI_eq, ]; first | done | exact vp_in_nI (by omega) (by omega) | exact ⟨rfl, vp_in_nI (by omega) (by omega)⟩ | exact ⟨trivial, vp_in_nI (by omega) (by omega)⟩ | (simp only [true_and]; exact vp_in_nI (by omega) (by omega)) | assumption) ?_)
        refine takeQ b B [] hB ?_
        rw [hB]
        cases hA : P p with
        | nil => rw [zfa]
        | cons a A => rw [zfa]; rfl
      | true =>
        iterate 2 (first | refine zW_s rfl ?_ | refine zW_p rfl (by simp (disch := omega) only [zh, zh_st, ↓reduceIte, Nat.add_left_cancel_iff, Nat.reduceEqDiff, Nat.add_sub_cancel, Nat.reduceAdd, Nat.reduceSub, Nat.reduceMul, ← nI_0, zu_same, zu_ne, zoi, zoi_m1, nI_add, pk_mul, pk_sub, zcl, nI_leI, nI_ltI, nI_eq, ]; first | done | exact vp_in_nI (by omega) (by omega) | exact ⟨rfl, vp_in_nI (by omega) (by omega)⟩ | exact ⟨trivial, vp_in_nI (by omega) (by omega)⟩ | (simp only [true_and]; exact vp_in_nI (by omega) (by omega)) | assumption) ?_)
        refine zW_if (fun h => absurd h (by decide)) (fun _ => ?_)
        iterate 5 (first | refine zW_s rfl ?_ | refine zW_p rfl (by simp (disch := omega) only [zh, zh_st, ↓reduceIte, Nat.add_left_cancel_iff, Nat.reduceEqDiff, Nat.add_sub_cancel, Nat.reduceAdd, Nat.reduceSub, Nat.reduceMul, ← nI_0, zu_same, zu_ne, zoi, zoi_m1, nI_add, pk_mul, pk_sub, zcl, nI_leI, nI_ltI, nI_eq, zTa_k, zTa_ly, zTa_hd, zTa_sz, zTa_mk, zTa_r, k0, k3, q3, n3]; first | done | exact vp_in_nI (by omega) (by omega) | exact ⟨rfl, vp_in_nI (by omega) (by omega)⟩ | exact ⟨trivial, vp_in_nI (by omega) (by omega)⟩ | (simp only [true_and]; exact vp_in_nI (by omega) (by omega)) | assumption) ?_)
        simp (disch := omega) only [zcl, zTa_k, zTa_ly, zTa_hd, zTa_sz, zTa_mk, zTa_r, q3, sp]
        cases hA : P p with
        | nil =>
          refine zW_if (fun _ => ?_) (fun h => absurd (by decide) h)
          iterate 2 (first | refine zW_s rfl ?_ | refine zW_p rfl (by simp (disch := omega) only [zh, zh_st, ↓reduceIte, Nat.add_left_cancel_iff, Nat.reduceEqDiff, Nat.add_sub_cancel, Nat.reduceAdd, Nat.reduceSub, Nat.reduceMul, ← nI_0, zu_same, zu_ne, zoi, zoi_m1, nI_add, pk_mul, pk_sub, zcl, nI_leI, nI_ltI, nI_eq, ]; first | done | exact vp_in_nI (by omega) (by omega) | exact ⟨rfl, vp_in_nI (by omega) (by omega)⟩ | exact ⟨trivial, vp_in_nI (by omega) (by omega)⟩ | (simp only [true_and]; exact vp_in_nI (by omega) (by omega)) | assumption) ?_)
          exact takeQ b B [] hB (by rw [hA, hB, zfa])
        | cons a A =>
          refine zW_if (fun h => absurd h (nI_nle (by simp) (by rw [← hA]; omega))) (fun _ => ?_)
          iterate 3 (first | refine zW_s rfl ?_ | refine zW_p rfl (by simp (disch := omega) only [zh, zh_st, ↓reduceIte, Nat.add_left_cancel_iff, Nat.reduceEqDiff, Nat.add_sub_cancel, Nat.reduceAdd, Nat.reduceSub, Nat.reduceMul, ← nI_0, zu_same, zu_ne, zoi, zoi_m1, nI_add, pk_mul, pk_sub, zcl, nI_leI, nI_ltI, nI_eq, ]; first | done | exact vp_in_nI (by omega) (by omega) | exact ⟨rfl, vp_in_nI (by omega) (by omega)⟩ | exact ⟨trivial, vp_in_nI (by omega) (by omega)⟩ | (simp only [true_and]; exact vp_in_nI (by omega) (by omega)) | assumption) ?_)
          exact takeP a A [] hA (by rw [hA, hB, zfa]; rfl)
