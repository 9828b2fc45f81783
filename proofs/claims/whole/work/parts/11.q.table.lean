theorem zfa_len : ∀ (m : Nat) (ft : Bool) (A B : List Nat), A.length + B.length = m → (zfa m ft A B).length = m
  | 0, _, _, _, _ => rfl
  | m + 1, ft, [], [], h => by simp at h
  | m + 1, ft, [], b :: B, h => by rw [zfa, List.length_cons, zfa_len m _ [] B (by simp at h ⊢; omega)]
  | m + 1, ft, a :: A, [], h => by rw [zfa, List.length_cons, zfa_len m _ A [] (by simp at h ⊢; omega)]
  | m + 1, ft, a :: A, b :: B, h => by
    simp only [List.length_cons] at h
    rw [zfa]
    cases ft with
    | true => rw [if_pos rfl, List.length_cons, zfa_len m _ A (b :: B) (by simp only [List.length_cons]; omega)]
    | false => rw [if_neg (by decide), List.length_cons, zfa_len m _ (a :: A) B (by simp only [List.length_cons]; omega)]
set_option maxHeartbeats 2000000 in
theorem e_faro {d t s p q g : Nat} {σ : zH} (hT : zTb σ t) (ks : zK σ s = 6) (hst : s ≠ t) (f1 : zI σ s 1 = nI p) (f2 : zI σ s 2 = nI q) (f3 : zI σ s 3 = nI g) {ly hd sz : Nat → Int32} {mk : Int32} {P : Nat → List Nat} (hR : zTR ly sz P) (hp : p < 4) (hq : q < 4) (hg : g < 4) (hpq : p ≠ q) (ht : zTot P ≤ 9) {Q : Option Value → zH → Prop} (hQ : ∀ ly' hd' sz', zTR ly' sz' (zu (zu (zu P p []) q []) g (zfa ((P p).length + (P q).length) true (P p) (P q) ++ zu (zu P p []) q [] g)) → Q none (zTa σ t ly' hd' sz' mk)) : zM (d + 2) 80 [.ref t, .ref s] (zTa σ t ly hd sz mk) Q := by
  have ⟨k0, k1, k2, k3, n1, n2, n3, q0, q1, q2, q3⟩ := hT
  have hf : ∀ j, zI (zTa σ t ly hd sz mk) s j = zI σ s j := fun j => zTa_oI ly hd sz mk hst
  have sp := (hR p hp).1
  have sq := (hR q hq).1
  have h2 := zTot_le2 (P := P) hp hq hpq
  unfold zM
  iterate 20 (first | refine zW_s rfl ?_ | refine zW_p rfl (by simp (disch := omega) only [zh, zh_st, ↓reduceIte, Nat.add_left_cancel_iff, Nat.reduceEqDiff, Nat.add_sub_cancel, Nat.reduceAdd, Nat.reduceSub, Nat.reduceMul, ← nI_0, zu_same, zu_ne, zoi, zoi_m1, nI_add, pk_mul, pk_sub, zcl, nI_leI, nI_ltI, nI_eq, zTa_k, zTa_ly, zTa_hd, zTa_sz, zTa_mk, zTa_r, k0, k3, q3, n3, ks, hf, f1, f2]; first | done | exact vp_in_nI (by omega) (by omega) | exact ⟨rfl, vp_in_nI (by omega) (by omega)⟩ | exact ⟨trivial, vp_in_nI (by omega) (by omega)⟩ | (simp only [true_and]; exact vp_in_nI (by omega) (by omega)) | assumption) ?_)
  simp (disch := omega) only [zoi, zcl, nI_add, zTa_k, zTa_ly, zTa_hd, zTa_sz, zTa_mk, zTa_r, q3, hf, f1, f2, sp, sq]
  refine l_faro (d := d + 1) hT hp hq hpq (tot := (P p).length + (P q).length) (by omega) ((P p).length + (P q).length) 0 (by omega) (nI 0) rfl true ly hd sz P [] [] (fun i hi => absurd hi (Nat.not_lt_zero i)) rfl hR rfl (fun ly' hd' sz' h' g1 g2 g3 => ?_)
  have hf' : ∀ j, zI (zTa σ t ly' hd' sz' mk) s j = zI σ s j := fun j => zTa_oI ly' hd' sz' mk hst
  iterate 4 (first | refine zW_s rfl ?_ | refine zW_p rfl (by simp (disch := omega) only [zh, zh_st, ↓reduceIte, Nat.add_left_cancel_iff, Nat.reduceEqDiff, Nat.add_sub_cancel, Nat.reduceAdd, Nat.reduceSub, Nat.reduceMul, ← nI_0, zu_same, zu_ne, zoi, zoi_m1, nI_add, pk_mul, pk_sub, zcl, nI_leI, nI_ltI, nI_eq, zTa_k, ks]; first | done | exact vp_in_nI (by omega) (by omega) | exact ⟨rfl, vp_in_nI (by omega) (by omega)⟩ | exact ⟨trivial, vp_in_nI (by omega) (by omega)⟩ | (simp only [true_and]; exact vp_in_nI (by omega) (by omega)) | assumption) ?_)
  simp only [hf', f3]
  refine zW_c rfl (by simp only [zTa_k]; exact hT.1) ?_
  rw [List.nil_append] at g2
  have hl := zfa_len _ true (P p) (P q) rfl
  have ht2 : ((zu (zu P p []) q []) g).length + ((P p).length + (P q).length) ≤ 9 := by
    have a1 := zTot_u (P := P) hp []
    have a2 := zTot_u (P := zu P p []) hq []
    rw [zu_ne (f := P) _ (fun h => hpq h.symm)] at a2
    have a3 := zTot_le (P := zu (zu P p []) q []) hg
    simp only [List.length_nil] at a1 a2
    omega
  refine e_put hT g1 g3 hg (by rw [g2]; exact hl) ht2 (fun ly2 sz2 hR2 => ?_)
  refine zW_r rfl trivial ?_
  rw [g2] at hR2
  exact hQ _ _ _ hR2
