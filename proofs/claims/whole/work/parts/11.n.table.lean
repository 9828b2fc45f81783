theorem zbn_p : ∀ a, a < 10 → ∀ b, b < 10 → a + b ≤ 7 → zbn (a + 1) (b + 1) = zbn a (b + 1) + zbn (a + 1) b := by decide +kernel
theorem zbn_0 : ∀ b, b < 10 → zbn 0 b = 1 ∧ zbn b 0 = 1 := by decide +kernel
theorem zbn_le : ∀ a, a < 10 → ∀ b, b < 10 → zbn a b ≤ 126 := by decide +kernel
/-- the riffle number w of A and B -/
def zrf : Nat → Nat → List Nat → List Nat → List Nat
  | 0, _, _, _ => []
  | m + 1, w, A, B => match A, B with
    | [], [] => []
    | [], b :: B => b :: zrf m w [] B
    | a :: A, [] => a :: zrf m w A []
    | a :: A, b :: B => if w < zbn A.length (B.length + 1) then a :: zrf m w A (b :: B) else b :: zrf m (w - zbn A.length (B.length + 1)) (a :: A) B
abbrev zrc (t s p q tot i : Nat) (w0 : Int32) (w x : Int32) : zC := [(0, .ref t), (1, .ref s), (2, .int w0), (3, .int (nI p)), (4, .int (nI q)), (5, .int (nI tot)), (6, .int w), (7, .int x)]
set_option maxHeartbeats 4000000 in
theorem l_riffle {d t s p q tot : Nat} {σ : zH} (hT : zTb σ t) {mk w0 : Int32} (hp : p < 4) (hq : q < 4) (hpq : p ≠ q) (ht9 : tot ≤ 9) {Q : Option Value → zH → Prop} : ∀ (m i : Nat), i + m = tot → ∀ (x : Int32), x = nI i → ∀ (w : Nat) (ly hd sz : Nat → Int32) (P : Nat → List Nat) (h : List Nat) (lx : zC), zHD hd h → h.length = i → zTR ly sz P → (P p).length + (P q).length = m → w < zbn (P p).length (P q).length → (∀ ly' hd' sz' h', zHD hd' h' → h' = h ++ zrf m w (P p) (P q) → zTR ly' sz' (zu (zu P p []) q []) → zW (d + 1) 79 115 [(0, .ref t), (1, .ref s), (5, .int (nI tot))] [] (zTa σ t ly' hd' sz' mk) Q) → zW (d + 1) 79 33 (zrc t s p q tot i w0 (nI w) x ++ lx) [] (zTa σ t ly hd sz mk) Q := by
  have ⟨k0, k1, k2, k3, n1, n2, n3, q0, q1, q2, q3⟩ := hT
  intro m
  induction m with
  | zero =>
    intro i hi x hx w ly hd sz P h lx hh hl hR hm hw hQ
    subst hx
    refine zW_k [0, 1, 2, 3, 4, 5, 6, 7] rfl ?_
    iterate 3 (first | refine zW_s rfl ?_ | refine zW_p rfl (by simp (disch := omega) only [zh, zh_st, ↓reduceIte, Nat.add_left_cancel_iff, Nat.reduceEqDiff, Nat.add_sub_cancel, Nat.reduceAdd, Nat.reduceSub, Nat.reduceMul, ← nI_0, zu_same, zu_ne, zoi, zoi_m1, nI_add, pk_mul, pk_sub, zcl, nI_leI, nI_ltI, nI_eq, ]; first | done | exact vp_in_nI (by omega) (by omega) | exact ⟨rfl, vp_in_nI (by omega) (by omega)⟩ | exact ⟨trivial, vp_in_nI (by omega) (by omega)⟩ | (simp only [true_and]; exact vp_in_nI (by omega) (by omega)) | assumption) ?_)
    refine zW_if (fun _ => ?_) (fun h => ?_)
    · refine zW_k [0, 1, 5] rfl ?_
      have e1 : P p = [] := List.length_eq_zero_iff.mp (by omega)
      have e2 : P q = [] := List.length_eq_zero_iff.mp (by omega)
      refine hQ _ _ _ h hh (by rw [zrf, List.append_nil]) ?_
      rw [zu_id (f := P) e1, zu_id (f := P) e2]
      exact hR
    · exfalso
      simp (disch := omega) only [zh, zh_st, ↓reduceIte, Nat.add_left_cancel_iff, Nat.reduceEqDiff, Nat.add_sub_cancel, Nat.reduceAdd, Nat.reduceSub, Nat.reduceMul, ← nI_0, zu_same, zu_ne, zoi, zoi_m1, nI_add, pk_mul, pk_sub, zcl, nI_leI, nI_ltI, nI_eq, ] at h
      omega
  | succ m ih =>
    intro i hi x hx w ly hd sz P h lx hh hl hR hm hw hQ
    subst hx
    refine zW_k [0, 1, 2, 3, 4, 5, 6, 7] rfl ?_
    iterate 3 (first | refine zW_s rfl ?_ | refine zW_p rfl (by simp (disch := omega) only [zh, zh_st, ↓reduceIte, Nat.add_left_cancel_iff, Nat.reduceEqDiff, Nat.add_sub_cancel, Nat.reduceAdd, Nat.reduceSub, Nat.reduceMul, ← nI_0, zu_same, zu_ne, zoi, zoi_m1, nI_add, pk_mul, pk_sub, zcl, nI_leI, nI_ltI, nI_eq, ]; first | done | exact vp_in_nI (by omega) (by omega) | exact ⟨rfl, vp_in_nI (by omega) (by omega)⟩ | exact ⟨trivial, vp_in_nI (by omega) (by omega)⟩ | (simp only [true_and]; exact vp_in_nI (by omega) (by omega)) | assumption) ?_)
    refine zW_if (fun h => ?_) (fun _ => ?_)
    · exfalso
      simp (disch := omega) only [zh, zh_st, ↓reduceIte, Nat.add_left_cancel_iff, Nat.reduceEqDiff, Nat.add_sub_cancel, Nat.reduceAdd, Nat.reduceSub, Nat.reduceMul, ← nI_0, zu_same, zu_ne, zoi, zoi_m1, nI_add, pk_mul, pk_sub, zcl, nI_leI, nI_ltI, nI_eq, ] at h
      omega
    · iterate 3 (first | refine zW_s rfl ?_ | refine zW_p rfl (by simp (disch := omega) only [zh, zh_st, ↓reduceIte, Nat.add_left_cancel_iff, Nat.reduceEqDiff, Nat.add_sub_cancel, Nat.reduceAdd, Nat.reduceSub, Nat.reduceMul, ← nI_0, zu_same, zu_ne, zoi, zoi_m1, nI_add, pk_mul, pk_sub, zcl, nI_leI, nI_ltI, nI_eq, ]; first | done | exact vp_in_nI (by omega) (by omega) | exact ⟨rfl, vp_in_nI (by omega) (by omega)⟩ | exact ⟨trivial, vp_in_nI (by omega) (by omega)⟩ | (simp only [true_and]; exact vp_in_nI (by omega) (by omega)) | assumption) ?_)
      refine zW_if (fun h => ?_) (fun _ => ?_)
      · exfalso
        simp (disch := omega) only [zh, zh_st, ↓reduceIte, Nat.add_left_cancel_iff, Nat.reduceEqDiff, Nat.add_sub_cancel, Nat.reduceAdd, Nat.reduceSub, Nat.reduceMul, ← nI_0, zu_same, zu_ne, zoi, zoi_m1, nI_add, pk_mul, pk_sub, zcl, nI_leI, nI_ltI, nI_eq, ] at h
        omega
      · have sp := (hR p hp).1
        have sq := (hR q hq).1
        iterate 10 (first | refine zW_s rfl ?_ | refine zW_p rfl (by simp (disch := omega) only [zh, zh_st, ↓reduceIte, Nat.add_left_cancel_iff, Nat.reduceEqDiff, Nat.add_sub_cancel, Nat.reduceAdd, Nat.reduceSub, Nat.reduceMul, ← nI_0, zu_same, zu_ne, zoi, zoi_m1, nI_add, pk_mul, pk_sub, zcl, nI_leI, nI_ltI, nI_eq, zTa_k, zTa_ly, zTa_hd, zTa_sz, zTa_mk, zTa_r, k0, k3, q3, n3]; first | done | exact vp_in_nI (by omega) (by omega) | exact ⟨rfl, vp_in_nI (by omega) (by omega)⟩ | exact ⟨trivial, vp_in_nI (by omega) (by omega)⟩ | (simp only [true_and]; exact vp_in_nI (by omega) (by omega)) | assumption) ?_)
        simp (disch := omega) only [zoi, zcl, zTa_k, zTa_ly, zTa_hd, zTa_sz, zTa_mk, zTa_r, q3, sp, sq]
        have hlcs : ∀ (v8 : Value), zp1 8 v8 (lv_pick (zrc t s p q tot i w0 (nI w) (nI i) ++ lx) [0, 1, 2, 3, 4, 5, 6, 7]) = zrc t s p q tot i w0 (nI w) (nI i) ++ [(8, v8)] := fun _ => rfl
        have takeP : ∀ (a : Nat) (A : List Nat) (lx' : zC), P p = a :: A → w < zbn A.length (P q).length → zrf (m + 1) w (P p) (P q) = a :: zrf m w A (P q) → zW (d + 1) 79 74 (zrc t s p q tot i w0 (nI w) (nI i) ++ lx') [] (zTa σ t ly hd sz mk) Q := by
          intro a A lx' hA hw' hz
          have hAl : (P p).length = A.length + 1 := by rw [hA]; rfl
          refine zW_k [0, 1, 2, 3, 4, 5, 6, 7] rfl ?_
          iterate 5 (first | refine zW_s rfl ?_ | refine zW_p rfl (by simp (disch := omega) only [zh, zh_st, ↓reduceIte, Nat.add_left_cancel_iff, Nat.reduceEqDiff, Nat.add_sub_cancel, Nat.reduceAdd, Nat.reduceSub, Nat.reduceMul, ← nI_0, zu_same, zu_ne, zoi, zoi_m1, nI_add, pk_mul, pk_sub, zcl, nI_leI, nI_ltI, nI_eq, zTa_k, zTa_ly, zTa_hd, zTa_sz, zTa_mk, zTa_r, k0]; first | done | exact vp_in_nI (by omega) (by omega) | exact ⟨rfl, vp_in_nI (by omega) (by omega)⟩ | exact ⟨trivial, vp_in_nI (by omega) (by omega)⟩ | (simp only [true_and]; exact vp_in_nI (by omega) (by omega)) | assumption) ?_)
          refine zW_c rfl (by simp only [zTa_k]; exact hT.1) ?_
          refine s_pop hT hR hp hA (fun sz' hR' => ?_)
          iterate 1 (first | refine zW_s rfl ?_ | refine zW_p rfl (by simp (disch := omega) only [zh, zh_st, ↓reduceIte, Nat.add_left_cancel_iff, Nat.reduceEqDiff, Nat.add_sub_cancel, Nat.reduceAdd, Nat.reduceSub, Nat.reduceMul, ← nI_0, zu_same, zu_ne, zoi, zoi_m1, nI_add, pk_mul, pk_sub, zcl, nI_leI, nI_ltI, nI_eq, zTa_k, zTa_ly, zTa_hd, zTa_sz, zTa_mk, zTa_r, q2, k2, n2]; first | done | exact vp_in_nI (by omega) (by omega) | exact ⟨rfl, vp_in_nI (by omega) (by omega)⟩ | exact ⟨trivial, vp_in_nI (by omega) (by omega)⟩ | (simp only [true_and]; exact vp_in_nI (by omega) (by omega)) | assumption) ?_)
          refine zW_e (τ := zTa σ t ly (zu hd i (nI a)) sz' mk) (by simp (disch := omega) only [zh, zh_st, ↓reduceIte, Nat.add_left_cancel_iff, Nat.reduceEqDiff, Nat.add_sub_cancel, Nat.reduceAdd, Nat.reduceSub, Nat.reduceMul, ← nI_0, zu_same, zu_ne, zoi, zoi_m1, nI_add, pk_mul, pk_sub, zcl, nI_leI, nI_ltI, nI_eq, zTa_k, zTa_ly, zTa_hd, zTa_sz, zTa_mk, zTa_r, q2]) ?_
          iterate 3 (first | refine zW_s rfl ?_ | refine zW_p rfl (by simp (disch := omega) only [zh, zh_st, ↓reduceIte, Nat.add_left_cancel_iff, Nat.reduceEqDiff, Nat.add_sub_cancel, Nat.reduceAdd, Nat.reduceSub, Nat.reduceMul, ← nI_0, zu_same, zu_ne, zoi, zoi_m1, nI_add, pk_mul, pk_sub, zcl, nI_leI, nI_ltI, nI_eq, ]; first | done | exact vp_in_nI (by omega) (by omega) | exact ⟨rfl, vp_in_nI (by omega) (by omega)⟩ | exact ⟨trivial, vp_in_nI (by omega) (by omega)⟩ | (simp only [true_and]; exact vp_in_nI (by omega) (by omega)) | assumption) ?_)
          have hh' := zHD_u hh a
          rw [hl] at hh'
          refine ih (i + 1) (by omega) (nI i + Int32.ofInt 1) (by simp (disch := omega) only [zh, zh_st, ↓reduceIte, Nat.add_left_cancel_iff, Nat.reduceEqDiff, Nat.add_sub_cancel, Nat.reduceAdd, Nat.reduceSub, Nat.reduceMul, ← nI_0, zu_same, zu_ne, zoi, zoi_m1, nI_add, pk_mul, pk_sub, zcl, nI_leI, nI_ltI, nI_eq, ]) w _ _ _ _ (h ++ [a]) [] hh' (by simp [hl]) hR' ?_ ?_ (fun ly2 hd2 sz2 h2 g1 g2 g3 => hQ _ _ _ h2 g1 ?_ ?_)
          · rw [zu_same, zu_ne _ _ (fun h => hpq h.symm)]; omega
          · rw [zu_same, zu_ne _ _ (fun h => hpq h.symm)]; exact hw'
          · rw [zu_same, zu_ne _ _ (fun h => hpq h.symm)] at g2
            rw [g2, hz, List.append_assoc]
            rfl
          · rw [zu_zu] at g3
            exact g3
        have takeQ : ∀ (b w' : Nat) (B : List Nat) (lx' : zC), P q = b :: B → w' < zbn (P p).length B.length → zrf (m + 1) w (P p) (P q) = b :: zrf m w' (P p) B → zW (d + 1) 79 96 (zrc t s p q tot i w0 (nI w') (nI i) ++ lx') [] (zTa σ t ly hd sz mk) Q := by
          intro b w' B lx' hB hw' hz
          have hBl : (P q).length = B.length + 1 := by rw [hB]; rfl
          refine zW_k [0, 1, 2, 3, 4, 5, 6, 7] rfl ?_
          iterate 5 (first | refine zW_s rfl ?_ | refine zW_p rfl (by simp (disch := omega) only [zh, zh_st, ↓reduceIte, Nat.add_left_cancel_iff, Nat.reduceEqDiff, Nat.add_sub_cancel, Nat.reduceAdd, Nat.reduceSub, Nat.reduceMul, ← nI_0, zu_same, zu_ne, zoi, zoi_m1, nI_add, pk_mul, pk_sub, zcl, nI_leI, nI_ltI, nI_eq, zTa_k, zTa_ly, zTa_hd, zTa_sz, zTa_mk, zTa_r, k0]; first | done | exact vp_in_nI (by omega) (by omega) | exact ⟨rfl, vp_in_nI (by omega) (by omega)⟩ | exact ⟨trivial, vp_in_nI (by omega) (by omega)⟩ | (simp only [true_and]; exact vp_in_nI (by omega) (by omega)) | assumption) ?_)
          refine zW_c rfl (by simp only [zTa_k]; exact hT.1) ?_
          refine s_pop hT hR hq hB (fun sz' hR' => ?_)
          iterate 1 (first | refine zW_s rfl ?_ | refine zW_p rfl (by simp (disch := omega) only [zh, zh_st, ↓reduceIte, Nat.add_left_cancel_iff, Nat.reduceEqDiff, Nat.add_sub_cancel, Nat.reduceAdd, Nat.reduceSub, Nat.reduceMul, ← nI_0, zu_same, zu_ne, zoi, zoi_m1, nI_add, pk_mul, pk_sub, zcl, nI_leI, nI_ltI, nI_eq, zTa_k, zTa_ly, zTa_hd, zTa_sz, zTa_mk, zTa_r, q2, k2, n2]; first | done | exact vp_in_nI (by omega) (by omega) | exact ⟨rfl, vp_in_nI (by omega) (by omega)⟩ | exact ⟨trivial, vp_in_nI (by omega) (by omega)⟩ | (simp only [true_and]; exact vp_in_nI (by omega) (by omega)) | assumption) ?_)
          refine zW_e (τ := zTa σ t ly (zu hd i (nI b)) sz' mk) (by simp (disch := omega) only [zh, zh_st, ↓reduceIte, Nat.add_left_cancel_iff, Nat.reduceEqDiff, Nat.add_sub_cancel, Nat.reduceAdd, Nat.reduceSub, Nat.reduceMul, ← nI_0, zu_same, zu_ne, zoi, zoi_m1, nI_add, pk_mul, pk_sub, zcl, nI_leI, nI_ltI, nI_eq, zTa_k, zTa_ly, zTa_hd, zTa_sz, zTa_mk, zTa_r, q2]) ?_
          iterate 2 (first | refine zW_s rfl ?_ | refine zW_p rfl (by simp (disch := omega) only [zh, zh_st, ↓reduceIte, Nat.add_left_cancel_iff, Nat.reduceEqDiff, Nat.add_sub_cancel, Nat.reduceAdd, Nat.reduceSub, Nat.reduceMul, ← nI_0, zu_same, zu_ne, zoi, zoi_m1, nI_add, pk_mul, pk_sub, zcl, nI_leI, nI_ltI, nI_eq, ]; first | done | exact vp_in_nI (by omega) (by omega) | exact ⟨rfl, vp_in_nI (by omega) (by omega)⟩ | exact ⟨trivial, vp_in_nI (by omega) (by omega)⟩ | (simp only [true_and]; exact vp_in_nI (by omega) (by omega)) | assumption) ?_)
          have hh' := zHD_u hh b
          rw [hl] at hh'
          refine ih (i + 1) (by omega) (nI i + Int32.ofInt 1) (by simp (disch := omega) only [zh, zh_st, ↓reduceIte, Nat.add_left_cancel_iff, Nat.reduceEqDiff, Nat.add_sub_cancel, Nat.reduceAdd, Nat.reduceSub, Nat.reduceMul, ← nI_0, zu_same, zu_ne, zoi, zoi_m1, nI_add, pk_mul, pk_sub, zcl, nI_leI, nI_ltI, nI_eq, ]) w' _ _ _ _ (h ++ [b]) [] hh' (by simp [hl]) hR' ?_ ?_ (fun ly2 hd2 sz2 h2 g1 g2 g3 => hQ _ _ _ h2 g1 ?_ ?_)
          · rw [zu_same, zu_ne _ _ hpq]; omega
          · rw [zu_same, zu_ne _ _ hpq]; exact hw'
          · rw [zu_same, zu_ne _ _ hpq] at g2
            rw [g2, hz, List.append_assoc]
            rfl
          · have e9 : zu (zu (zu P q B) p []) q [] = zu (zu P p []) q [] := by
              funext j
              unfold zu
              by_cases hj : j = q
              · rw [if_pos hj, if_pos hj]
              · rw [if_neg hj, if_neg hj, if_neg hj]
            rw [e9] at g3
            exact g3
        refine zW_c rfl trivial ?_
        cases hA : P p with
        | nil =>
          cases hB : P q with
          | nil => rw [hA, hB] at hm; simp at hm
          | cons b B =>
            have hBl : (P q).length = B.length + 1 := by rw [hB]; rfl
            have hw1 := (zbn_0 (B.length + 1) (by have := (hR q hq).2.1; omega)).1
            rw [hA, hB] at hw
            simp only [List.length_nil, List.length_cons] at hw
            have hw0 : w = 0 := by omega
            refine e_wtr0 (by decide) ?_
            iterate 4 (first | refine zW_s rfl ?_ | refine zW_p rfl (by simp (disch := omega) only [zh, zh_st, ↓reduceIte, Nat.add_left_cancel_iff, Nat.reduceEqDiff, Nat.add_sub_cancel, Nat.reduceAdd, Nat.reduceSub, Nat.reduceMul, ← nI_0, zu_same, zu_ne, zoi, zoi_m1, nI_add, pk_mul, pk_sub, zcl, nI_leI, nI_ltI, nI_eq, ]; first | done | exact vp_in_nI (by omega) (by omega) | exact ⟨rfl, vp_in_nI (by omega) (by omega)⟩ | exact ⟨trivial, vp_in_nI (by omega) (by omega)⟩ | (simp only [true_and]; exact vp_in_nI (by omega) (by omega)) | assumption) ?_)
            refine zW_if (fun _ => ?_) (fun h => absurd (nI_le (by omega) (by omega)) h)
            iterate 4 (first | refine zW_s rfl ?_ | refine zW_p rfl (by simp (disch := omega) only [zh, zh_st, ↓reduceIte, Nat.add_left_cancel_iff, Nat.reduceEqDiff, Nat.add_sub_cancel, Nat.reduceAdd, Nat.reduceSub, Nat.reduceMul, ← nI_0, zu_same, zu_ne, zoi, zoi_m1, nI_add, pk_mul, pk_sub, zcl, nI_leI, nI_ltI, nI_eq, ]; first | done | exact vp_in_nI (by omega) (by omega) | exact ⟨rfl, vp_in_nI (by omega) (by omega)⟩ | exact ⟨trivial, vp_in_nI (by omega) (by omega)⟩ | (simp only [true_and]; exact vp_in_nI (by omega) (by omega)) | assumption) ?_)
            rw [show nI w - nI 0 = nI w by rw [nI_0]; simp]
            refine takeQ b w B [(8, .int (nI 0))] hB ?_ ?_
            · rw [hA]
              show w < zbn 0 B.length
              rw [(zbn_0 B.length (by have := (hR q hq).2.1; omega)).1]
              omega
            · rw [hA, hB, zrf]
        | cons a A =>
          have hAl : (P p).length = A.length + 1 := by rw [hA]; rfl
          have b1 := (hR q hq).2.1
          have b2 := zbn_le A.length (by omega) (P q).length (by omega)
          have b3 := zbn_le (P p).length (by omega) (P q).length (by omega)
          rw [show nI (a :: A).length - nI 1 = nI A.length from by rw [List.length_cons, pk_sub (by omega)]; rfl]
          refine e_wtr (by omega) ?_
          iterate 4 (first | refine zW_s rfl ?_ | refine zW_p rfl (by simp (disch := omega) only [zh, zh_st, ↓reduceIte, Nat.add_left_cancel_iff, Nat.reduceEqDiff, Nat.add_sub_cancel, Nat.reduceAdd, Nat.reduceSub, Nat.reduceMul, ← nI_0, zu_same, zu_ne, zoi, zoi_m1, nI_add, pk_mul, pk_sub, zcl, nI_leI, nI_ltI, nI_eq, ]; first | done | exact vp_in_nI (by omega) (by omega) | exact ⟨rfl, vp_in_nI (by omega) (by omega)⟩ | exact ⟨trivial, vp_in_nI (by omega) (by omega)⟩ | (simp only [true_and]; exact vp_in_nI (by omega) (by omega)) | assumption) ?_)
          refine zW_if (fun h => ?_) (fun h => ?_)
          · have h' : zbn A.length (P q).length ≤ w := (nI_leI (by omega) (by omega)).mp h
            cases hB : P q with
            | nil =>
              exfalso
              rw [hAl] at hw
              rw [hB] at h' hw
              have c1 := (zbn_0 A.length (by omega)).2
              have c2 := (zbn_0 (A.length + 1) (by omega)).2
              simp only [List.length_nil] at h' hw
              omega
            | cons b B =>
              have hBl : (P q).length = B.length + 1 := by rw [hB]; rfl
              iterate 4 (first | refine zW_s rfl ?_ | refine zW_p rfl (by simp (disch := omega) only [zh, zh_st, ↓reduceIte, Nat.add_left_cancel_iff, Nat.reduceEqDiff, Nat.add_sub_cancel, Nat.reduceAdd, Nat.reduceSub, Nat.reduceMul, ← nI_0, zu_same, zu_ne, zoi, zoi_m1, nI_add, pk_mul, pk_sub, zcl, nI_leI, nI_ltI, nI_eq, ]; first | done | exact vp_in_nI (by omega) (by omega) | exact ⟨rfl, vp_in_nI (by omega) (by omega)⟩ | exact ⟨trivial, vp_in_nI (by omega) (by omega)⟩ | (simp only [true_and]; exact vp_in_nI (by omega) (by omega)) | assumption) ?_)
              rw [← hB, pk_sub h']
              have ps := zbn_p A.length (by omega) B.length (by omega) (by omega)
              refine takeQ b (w - zbn A.length (P q).length) B [(8, .int (nI (zbn A.length (P q).length)))] hB ?_ ?_
              · rw [hAl, hBl] at hw
                rw [hAl, hBl]
                rw [hBl] at h'
                omega
              · rw [hBl] at h'
                rw [hBl, hA, hB, zrf, if_neg (by omega)]
          · have h' : w < zbn A.length (P q).length := Nat.not_le.mp (fun q => h ((nI_leI (by omega) (by omega)).mpr q))
            refine takeP a A [(8, .int (nI (zbn A.length (P q).length)))] hA h' ?_
            rw [hA]
            cases hB : P q with
            | nil => rw [zrf]
            | cons b B =>
              rw [hB] at h'
              rw [zrf]
              exact if_pos h'
