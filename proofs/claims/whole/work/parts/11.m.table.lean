/-- how many ways there are to riffle a cards and b cards together -/
def zbn (a b : Nat) : Nat := zwtl.getD ((a + b) * 10 + a) 0
set_option maxHeartbeats 1000000 in
theorem e_wtr {d a b : Nat} {σ : zH} (h9 : a + b ≤ 9) {Q : Option Value → zH → Prop} (hQ : Q (some (.int (nI (zbn a b)))) σ) : zM d 68 [.int (nI a), .int (nI b)] σ Q := by
  unfold zM
  iterate 2 (first | refine zW_s rfl ?_ | refine zW_p rfl (by simp (disch := omega) only [zh, zh_st, ↓reduceIte, Nat.add_left_cancel_iff, Nat.reduceEqDiff, Nat.add_sub_cancel, Nat.reduceAdd, Nat.reduceSub, Nat.reduceMul, ← nI_0, zu_same, zu_ne, zoi, zoi_m1, nI_add, pk_mul, pk_sub, zcl, nI_leI, nI_ltI, nI_eq, ]; first | done | exact vp_in_nI (by omega) (by omega) | exact ⟨rfl, vp_in_nI (by omega) (by omega)⟩ | exact ⟨trivial, vp_in_nI (by omega) (by omega)⟩ | (simp only [true_and]; exact vp_in_nI (by omega) (by omega)) | assumption) ?_)
  refine zW_if (fun h => absurd h (nI_pos (by omega))) (fun _ => ?_)
  iterate 2 (first | refine zW_s rfl ?_ | refine zW_p rfl (by simp (disch := omega) only [zh, zh_st, ↓reduceIte, Nat.add_left_cancel_iff, Nat.reduceEqDiff, Nat.add_sub_cancel, Nat.reduceAdd, Nat.reduceSub, Nat.reduceMul, ← nI_0, zu_same, zu_ne, zoi, zoi_m1, nI_add, pk_mul, pk_sub, zcl, nI_leI, nI_ltI, nI_eq, ]; first | done | exact vp_in_nI (by omega) (by omega) | exact ⟨rfl, vp_in_nI (by omega) (by omega)⟩ | exact ⟨trivial, vp_in_nI (by omega) (by omega)⟩ | (simp only [true_and]; exact vp_in_nI (by omega) (by omega)) | assumption) ?_)
  refine zW_if (fun h => absurd h (nI_pos (by omega))) (fun _ => ?_)
  iterate 5 (first | refine zW_s rfl ?_ | refine zW_p rfl (by simp (disch := omega) only [zh, zh_st, ↓reduceIte, Nat.add_left_cancel_iff, Nat.reduceEqDiff, Nat.add_sub_cancel, Nat.reduceAdd, Nat.reduceSub, Nat.reduceMul, ← nI_0, zu_same, zu_ne, zoi, zoi_m1, nI_add, pk_mul, pk_sub, zcl, nI_leI, nI_ltI, nI_eq, ]; first | done | exact vp_in_nI (by omega) (by omega) | exact ⟨rfl, vp_in_nI (by omega) (by omega)⟩ | exact ⟨trivial, vp_in_nI (by omega) (by omega)⟩ | (simp only [true_and]; exact vp_in_nI (by omega) (by omega)) | assumption) ?_)
  refine zW_if (fun _ => ?_) (fun h => ?_)
  · iterate 9 (first | refine zW_s rfl ?_ | refine zW_p rfl (by simp (disch := omega) only [zh, zh_st, ↓reduceIte, Nat.add_left_cancel_iff, Nat.reduceEqDiff, Nat.add_sub_cancel, Nat.reduceAdd, Nat.reduceSub, Nat.reduceMul, ← nI_0, zu_same, zu_ne, zoi, zoi_m1, nI_add, pk_mul, pk_sub, zcl, nI_leI, nI_ltI, nI_eq, ]; first | done | exact vp_in_nI (by omega) (by omega) | exact ⟨rfl, vp_in_nI (by omega) (by omega)⟩ | exact ⟨trivial, vp_in_nI (by omega) (by omega)⟩ | (simp only [true_and]; exact vp_in_nI (by omega) (by omega)) | assumption) ?_)
    simp (disch := omega) only [zoi, zcl, pk_mul, nI_add]
    refine zW_r rfl trivial ?_
    exact hQ
  · exfalso
    simp (disch := omega) only [zh, zh_st, ↓reduceIte, Nat.add_left_cancel_iff, Nat.reduceEqDiff, Nat.add_sub_cancel, Nat.reduceAdd, Nat.reduceSub, Nat.reduceMul, ← nI_0, zu_same, zu_ne, zoi, zoi_m1, nI_add, pk_mul, pk_sub, zcl, nI_leI, nI_ltI, nI_eq, ] at h
    omega
theorem e_wtr0 {d : Nat} {x y : Int32} {σ : zH} (hx : x < 0) {Q : Option Value → zH → Prop} (hQ : Q (some (.int (nI 0))) σ) : zM d 68 [.int x, .int y] σ Q := by
  unfold zM
  iterate 2 (first | refine zW_s rfl ?_ | refine zW_p rfl (by simp (disch := omega) only [zh, zh_st, ↓reduceIte, Nat.add_left_cancel_iff, Nat.reduceEqDiff, Nat.add_sub_cancel, Nat.reduceAdd, Nat.reduceSub, Nat.reduceMul, ← nI_0, zu_same, zu_ne, zoi, zoi_m1, nI_add, pk_mul, pk_sub, zcl, nI_leI, nI_ltI, nI_eq, ]; first | done | exact vp_in_nI (by omega) (by omega) | exact ⟨rfl, vp_in_nI (by omega) (by omega)⟩ | exact ⟨trivial, vp_in_nI (by omega) (by omega)⟩ | (simp only [true_and]; exact vp_in_nI (by omega) (by omega)) | assumption) ?_)
  refine zW_if (fun _ => ?_) (fun h => absurd hx h)
  iterate 1 (first | refine zW_s rfl ?_ | refine zW_p rfl (by simp (disch := omega) only [zh, zh_st, ↓reduceIte, Nat.add_left_cancel_iff, Nat.reduceEqDiff, Nat.add_sub_cancel, Nat.reduceAdd, Nat.reduceSub, Nat.reduceMul, ← nI_0, zu_same, zu_ne, zoi, zoi_m1, nI_add, pk_mul, pk_sub, zcl, nI_leI, nI_ltI, nI_eq, ]; first | done | exact vp_in_nI (by omega) (by omega) | exact ⟨rfl, vp_in_nI (by omega) (by omega)⟩ | exact ⟨trivial, vp_in_nI (by omega) (by omega)⟩ | (simp only [true_and]; exact vp_in_nI (by omega) (by omega)) | assumption) ?_)
  refine zW_r rfl trivial ?_
  exact hQ
