set_option maxHeartbeats 4000000 in
theorem b136 {d : Nat} {r0 : Nat} {r1 : Nat} {σ : zH} {Q : Option Value → zH → Prop} (h : zW (d) 136 2 [(0, .ref r0), (1, .ref r1), (2, .int (nI 0))] [] σ Q) : zM (d) 136 [.ref r0, .ref r1] σ Q := by
  unfold zM
  refine zW_s rfl ?_
  refine zW_s rfl ?_
  exact h
set_option maxHeartbeats 4000000 in
theorem b136_2 {d : Nat} {r0 : Nat} {r1 : Nat} {x2 : Int32} {σ : zH} {Q : Option Value → zH → Prop} (h : (if (nI 4) ≤ x2 then (zK σ r0 = 13) ∧ (zK σ (zQ σ r0 11) = 20) ∧ (vp_in (nI 0) (zN σ (zQ σ r0 11))) ∧ zW (d) 136 32 [(0, .ref r0), (1, .ref r1), (2, .int (nI 0))] [] (zsA σ (zQ σ r0 11) (nI 0).toNatClampNeg (zI σ r0 5)) Q else (zK σ r0 = 13) ∧ (zK σ (zQ σ r0 11) = 20) ∧ (vp_in x2 (zN σ (zQ σ r0 11))) ∧ zW (d) 136 2 [(0, .ref r0), (1, .ref r1), (2, .int (x2 + nI 1))] [] (zsA σ (zQ σ r0 11) x2.toNatClampNeg (nI 0)) Q)) : zW (d) 136 2 [(0, .ref r0), (1, .ref r1), (2, .int x2)] [] σ Q := by
  refine zW_s rfl ?_
  refine zW_s rfl ?_
  refine zW_s rfl ?_
  refine zW_if (fun (c101 : (nI 4) ≤ x2) => ?_) (fun (c101 : ¬ ((nI 4) ≤ x2)) => ?_)
  · rw [if_pos c101] at h
    refine zW_s rfl ?_
    have hp102 := h.1; replace h := h.2
    refine zW_p rfl hp102 ?_
    refine zW_s rfl ?_
    refine zW_s rfl ?_
    refine zW_p rfl hp102 ?_
    have hp103 := h.1; replace h := h.2
    have hp104 := h.1; replace h := h.2
    refine zW_p rfl ⟨hp103, hp104⟩ ?_
    refine zW_s rfl ?_
    refine zW_s rfl ?_
    exact h
  · rw [if_neg c101] at h
    refine zW_s rfl ?_
    have hp105 := h.1; replace h := h.2
    refine zW_p rfl hp105 ?_
    refine zW_s rfl ?_
    refine zW_s rfl ?_
    have hp106 := h.1; replace h := h.2
    have hp107 := h.1; replace h := h.2
    refine zW_p rfl ⟨hp106, hp107⟩ ?_
    refine zW_s rfl ?_
    refine zW_s rfl ?_
    exact h
set_option maxHeartbeats 4000000 in
theorem b136_32 {d : Nat} {r0 : Nat} {r1 : Nat} {x2 : Int32} {σ : zH} {Q : Option Value → zH → Prop} (h : (zK σ r0 = 13) ∧ (if (zI σ r0 5) ≤ x2 then Q none (zsI σ r0 12 (nI 0)) else (zK σ r1 = 20) ∧ (vp_in x2 (zN σ r1)) ∧ (zK σ (zQ σ r0 10) = 20) ∧ (vp_in x2 (zN σ (zQ σ r0 10))) ∧ zW (d) 136 32 [(0, .ref r0), (1, .ref r1), (2, .int (x2 + nI 1))] [] (zsA σ (zQ σ r0 10) x2.toNatClampNeg (((zA σ r1 x2.toNatClampNeg) &&& (nI 15)) ||| (((zA σ r1 x2.toNatClampNeg) &&& (nI 128)) >>> ((nI 3) &&& 31)))) Q)) : zW (d) 136 32 [(0, .ref r0), (1, .ref r1), (2, .int x2)] [] σ Q := by
  refine zW_s rfl ?_
  refine zW_s rfl ?_
  have hp101 := h.1; replace h := h.2
  refine zW_p rfl hp101 ?_
  refine zW_s rfl ?_
  refine zW_if (fun (c102 : (zI σ r0 5) ≤ x2) => ?_) (fun (c102 : ¬ ((zI σ r0 5) ≤ x2)) => ?_)
  · rw [if_pos c102] at h
    refine zW_s rfl ?_
    refine zW_s rfl ?_
    refine zW_p rfl hp101 ?_
    refine zW_r rfl trivial ?_
    exact h
  · rw [if_neg c102] at h
    refine zW_s rfl ?_
    refine zW_p rfl hp101 ?_
    refine zW_s rfl ?_
    refine zW_s rfl ?_
    refine zW_s rfl ?_
    have hp103 := h.1; replace h := h.2
    have hp104 := h.1; replace h := h.2
    refine zW_p rfl ⟨hp103, hp104⟩ ?_
    refine zW_s rfl ?_
    refine zW_s rfl ?_
    refine zW_s rfl ?_
    refine zW_s rfl ?_
    refine zW_p rfl ⟨hp103, hp104⟩ ?_
    refine zW_s rfl ?_
    refine zW_s rfl ?_
    refine zW_s rfl ?_
    refine zW_s rfl ?_
    refine zW_s rfl ?_
    have hp105 := h.1; replace h := h.2
    have hp106 := h.1; replace h := h.2
    refine zW_p rfl ⟨hp105, hp106⟩ ?_
    refine zW_s rfl ?_
    refine zW_s rfl ?_
    exact h
set_option maxHeartbeats 4000000 in
theorem b137 {d : Nat} {r0 : Nat} {σ : zH} {Q : Option Value → zH → Prop} (h : (zK σ r0 = 13) ∧ (zK σ (zQ σ r0 11) = 20) ∧ (vp_in (nI 0) (zN σ (zQ σ r0 11))) ∧ (vp_in (nI 1) (zN σ (zQ σ r0 11))) ∧ (vp_in (nI 2) (zN σ (zQ σ r0 11))) ∧ zW (d) 137 44 [(0, .ref r0), (1, .long ((((((((zI σ r0 12).toInt64) * (lN 16)) + ((zA σ (zQ σ r0 11) (nI 0).toNatClampNeg).toInt64)) * (lN 16)) + ((zA σ (zQ σ r0 11) (nI 1).toNatClampNeg).toInt64)) * (lN 16)) + ((zA σ (zQ σ r0 11) (nI 2).toNatClampNeg).toInt64))), (3, .int (nI 0))] [] σ Q) : zM (d) 137 [.ref r0] σ Q := by
  unfold zM
  refine zW_s rfl ?_
  have hp101 := h.1; replace h := h.2
  refine zW_p rfl hp101 ?_
  refine zW_s rfl ?_
  refine zW_s rfl ?_
  refine zW_s rfl ?_
  refine zW_s rfl ?_
  refine zW_p rfl hp101 ?_
  refine zW_s rfl ?_
  have hp102 := h.1; replace h := h.2
  have hp103 := h.1; replace h := h.2
  refine zW_p rfl ⟨hp102, hp103⟩ ?_
  refine zW_s rfl ?_
  refine zW_s rfl ?_
  refine zW_s rfl ?_
  refine zW_s rfl ?_
  refine zW_s rfl ?_
  refine zW_p rfl hp101 ?_
  refine zW_s rfl ?_
  have hp104 := h.1; replace h := h.2
  refine zW_p rfl ⟨hp102, hp104⟩ ?_
  refine zW_s rfl ?_
  refine zW_s rfl ?_
  refine zW_s rfl ?_
  refine zW_s rfl ?_
  refine zW_s rfl ?_
  refine zW_p rfl hp101 ?_
  refine zW_s rfl ?_
  have hp105 := h.1; replace h := h.2
  refine zW_p rfl ⟨hp102, hp105⟩ ?_
  refine zW_s rfl ?_
  refine zW_s rfl ?_
  refine zW_s rfl ?_
  refine zW_s rfl ?_
  refine zW_s rfl ?_
  exact h
set_option maxHeartbeats 4000000 in
theorem b137_44 {d : Nat} {r0 : Nat} {y1 : Int64} {x3 : Int32} {σ : zH} {Q : Option Value → zH → Prop} (h : (if (nI 4) ≤ x3 then Q (some (.long y1)) σ else zW (d) 137 52 [(0, .ref r0), (1, .long y1), (3, .int x3), (4, .int (nI 0))] [] σ Q)) : zW (d) 137 44 [(0, .ref r0), (1, .long y1), (3, .int x3)] [] σ Q := by
  refine zW_s rfl ?_
  refine zW_s rfl ?_
  refine zW_s rfl ?_
  refine zW_if (fun (c101 : (nI 4) ≤ x3) => ?_) (fun (c101 : ¬ ((nI 4) ≤ x3)) => ?_)
  · rw [if_pos c101] at h
    refine zW_s rfl ?_
    refine zW_r rfl trivial ?_
    exact h
  · rw [if_neg c101] at h
    refine zW_s rfl ?_
    refine zW_s rfl ?_
    exact h
set_option maxHeartbeats 4000000 in
theorem b137_52 {d : Nat} {r0 : Nat} {y1 : Int64} {x3 : Int32} {x4 : Int32} {σ : zH} {Q : Option Value → zH → Prop} (h : (zK σ r0 = 13) ∧ (zK σ (zQ σ r0 11) = 20) ∧ (vp_in x3 (zN σ (zQ σ r0 11))) ∧ (if (zA σ (zQ σ r0 11) x3.toNatClampNeg) ≤ x4 then zW (d) 137 44 [(0, .ref r0), (1, .long y1), (3, .int (x3 + nI 1))] [] σ Q else (zK σ (zQ σ r0 10) = 20) ∧ (vp_in (((nI 10) * x3) + x4) (zN σ (zQ σ r0 10))) ∧ zW (d) 137 52 [(0, .ref r0), (1, .long ((zlsl y1 (nI 5)) ||| ((zA σ (zQ σ r0 10) (((nI 10) * x3) + x4).toNatClampNeg).toInt64))), (3, .int x3), (4, .int (x4 + nI 1))] [] σ Q)) : zW (d) 137 52 [(0, .ref r0), (1, .long y1), (3, .int x3), (4, .int x4)] [] σ Q := by
  refine zW_s rfl ?_
  refine zW_s rfl ?_
  have hp101 := h.1; replace h := h.2
  refine zW_p rfl hp101 ?_
  refine zW_s rfl ?_
  have hp102 := h.1; replace h := h.2
  have hp103 := h.1; replace h := h.2
  refine zW_p rfl ⟨hp102, hp103⟩ ?_
  refine zW_s rfl ?_
  refine zW_if (fun (c104 : (zA σ (zQ σ r0 11) x3.toNatClampNeg) ≤ x4) => ?_) (fun (c104 : ¬ ((zA σ (zQ σ r0 11) x3.toNatClampNeg) ≤ x4)) => ?_)
  · rw [if_pos c104] at h
    refine zW_s rfl ?_
    refine zW_s rfl ?_
    refine zW_k [0, 1, 2] rfl ?_
    exact h
  · rw [if_neg c104] at h
    refine zW_s rfl ?_
    refine zW_s rfl ?_
    refine zW_s rfl ?_
    refine zW_s rfl ?_
    refine zW_p rfl hp101 ?_
    refine zW_s rfl ?_
    refine zW_s rfl ?_
    refine zW_s rfl ?_
    refine zW_s rfl ?_
    refine zW_s rfl ?_
    have hp105 := h.1; replace h := h.2
    have hp106 := h.1; replace h := h.2
    refine zW_p rfl ⟨hp105, hp106⟩ ?_
    refine zW_s rfl ?_
    refine zW_s rfl ?_
    refine zW_s rfl ?_
    refine zW_s rfl ?_
    refine zW_s rfl ?_
    exact h
set_option maxHeartbeats 4000000 in
theorem b138 {d : Nat} {r0 : Nat} {y1 : Int64} {σ : zH} {Q : Option Value → zH → Prop} (h : (zK σ r0 = 13) ∧ (zK σ (zQ σ r0 11) = 20) ∧ (vp_in (nI 0) (zN σ (zQ σ r0 11))) ∧ (vp_in (nI 1) (zN σ (zQ σ r0 11))) ∧ (vp_in (nI 2) (zN σ (zQ σ r0 11))) ∧ (vp_in (nI 3) (zN σ (zQ σ r0 11))) ∧ zW (d) 138 101 [(0, .ref r0), (1, .long y1), (5, .int ((nI 5) * (zI (zsI σ r0 12 ((zlsr (zlsr y1 ((nI 5) * (zI σ r0 5))) (nI 12)).toInt32)) r0 5))), (6, .int (nI 0))] [] (zsA (zsA (zsA (zsA (zsI σ r0 12 ((zlsr (zlsr y1 ((nI 5) * (zI σ r0 5))) (nI 12)).toInt32)) (zQ σ r0 11) (nI 0).toNatClampNeg (((zlsr (zlsr y1 ((nI 5) * (zI σ r0 5))) (nI 8)) &&& (lN 15)).toInt32)) (zQ σ r0 11) (nI 1).toNatClampNeg (((zlsr (zlsr y1 ((nI 5) * (zI σ r0 5))) (nI 4)) &&& (lN 15)).toInt32)) (zQ σ r0 11) (nI 2).toNatClampNeg (((zlsr y1 ((nI 5) * (zI σ r0 5))) &&& (lN 15)).toInt32)) (zQ σ r0 11) (nI 3).toNatClampNeg ((((zI (zsI σ r0 12 ((zlsr (zlsr y1 ((nI 5) * (zI σ r0 5))) (nI 12)).toInt32)) r0 5) - (zA (zsA (zsA (zsA σ (zQ σ r0 11) (nI 0).toNatClampNeg (((zlsr (zlsr y1 ((nI 5) * (zI σ r0 5))) (nI 8)) &&& (lN 15)).toInt32)) (zQ σ r0 11) (nI 1).toNatClampNeg (((zlsr (zlsr y1 ((nI 5) * (zI σ r0 5))) (nI 4)) &&& (lN 15)).toInt32)) (zQ σ r0 11) (nI 2).toNatClampNeg (((zlsr y1 ((nI 5) * (zI σ r0 5))) &&& (lN 15)).toInt32)) (zQ σ r0 11) (nI 0).toNatClampNeg)) - (zA (zsA (zsA (zsA σ (zQ σ r0 11) (nI 0).toNatClampNeg (((zlsr (zlsr y1 ((nI 5) * (zI σ r0 5))) (nI 8)) &&& (lN 15)).toInt32)) (zQ σ r0 11) (nI 1).toNatClampNeg (((zlsr (zlsr y1 ((nI 5) * (zI σ r0 5))) (nI 4)) &&& (lN 15)).toInt32)) (zQ σ r0 11) (nI 2).toNatClampNeg (((zlsr y1 ((nI 5) * (zI σ r0 5))) &&& (lN 15)).toInt32)) (zQ σ r0 11) (nI 1).toNatClampNeg)) - (zA (zsA (zsA (zsA σ (zQ σ r0 11) (nI 0).toNatClampNeg (((zlsr (zlsr y1 ((nI 5) * (zI σ r0 5))) (nI 8)) &&& (lN 15)).toInt32)) (zQ σ r0 11) (nI 1).toNatClampNeg (((zlsr (zlsr y1 ((nI 5) * (zI σ r0 5))) (nI 4)) &&& (lN 15)).toInt32)) (zQ σ r0 11) (nI 2).toNatClampNeg (((zlsr y1 ((nI 5) * (zI σ r0 5))) &&& (lN 15)).toInt32)) (zQ σ r0 11) (nI 2).toNatClampNeg))) Q) : zM (d) 138 [.ref r0, .long y1] σ Q := by
  unfold zM
  refine zW_s rfl ?_
  refine zW_s rfl ?_
  refine zW_s rfl ?_
  have hp101 := h.1; replace h := h.2
  refine zW_p rfl hp101 ?_
  refine zW_s rfl ?_
  refine zW_s rfl ?_
  refine zW_s rfl ?_
  refine zW_s rfl ?_
  refine zW_s rfl ?_
  refine zW_s rfl ?_
  refine zW_s rfl ?_
  refine zW_s rfl ?_
  refine zW_p rfl hp101 ?_
  refine zW_s rfl ?_
  refine zW_p rfl hp101 ?_
  refine zW_s rfl ?_
  refine zW_s rfl ?_
  refine zW_s rfl ?_
  refine zW_s rfl ?_
  refine zW_s rfl ?_
  refine zW_s rfl ?_
  refine zW_s rfl ?_
  have hp102 := h.1; replace h := h.2
  have hp103 := h.1; replace h := h.2
  refine zW_p rfl ⟨hp102, hp103⟩ ?_
  refine zW_s rfl ?_
  refine zW_p rfl hp101 ?_
  refine zW_s rfl ?_
  refine zW_s rfl ?_
  refine zW_s rfl ?_
  refine zW_s rfl ?_
  refine zW_s rfl ?_
  refine zW_s rfl ?_
  refine zW_s rfl ?_
  have hp104 := h.1; replace h := h.2
  refine zW_p rfl ⟨hp102, hp104⟩ ?_
  refine zW_s rfl ?_
  refine zW_p rfl hp101 ?_
  refine zW_s rfl ?_
  refine zW_s rfl ?_
  refine zW_s rfl ?_
  refine zW_s rfl ?_
  refine zW_s rfl ?_
  have hp105 := h.1; replace h := h.2
  refine zW_p rfl ⟨hp102, hp105⟩ ?_
  refine zW_s rfl ?_
  refine zW_p rfl hp101 ?_
  refine zW_s rfl ?_
  refine zW_s rfl ?_
  refine zW_p rfl hp101 ?_
  refine zW_s rfl ?_
  refine zW_p rfl hp101 ?_
  refine zW_s rfl ?_
  refine zW_p rfl ⟨hp102, hp103⟩ ?_
  refine zW_s rfl ?_
  refine zW_s rfl ?_
  refine zW_p rfl hp101 ?_
  refine zW_s rfl ?_
  refine zW_p rfl ⟨hp102, hp104⟩ ?_
  refine zW_s rfl ?_
  refine zW_s rfl ?_
  refine zW_p rfl hp101 ?_
  refine zW_s rfl ?_
  refine zW_p rfl ⟨hp102, hp105⟩ ?_
  refine zW_s rfl ?_
  have hp106 := h.1; replace h := h.2
  refine zW_p rfl ⟨hp102, hp106⟩ ?_
  refine zW_s rfl ?_
  refine zW_s rfl ?_
  refine zW_p rfl hp101 ?_
  refine zW_s rfl ?_
  refine zW_s rfl ?_
  refine zW_s rfl ?_
  refine zW_s rfl ?_
  refine zW_k [0, 1, 3, 4] rfl ?_
  exact h
set_option maxHeartbeats 4000000 in
theorem b138_101 {d : Nat} {r0 : Nat} {y1 : Int64} {x5 : Int32} {x6 : Int32} {σ : zH} {Q : Option Value → zH → Prop} (h : (if (nI 4) ≤ x6 then Q none σ else zW (d) 138 110 [(0, .ref r0), (1, .long y1), (5, .int x5), (6, .int x6), (7, .int (nI 0))] [] σ Q)) : zW (d) 138 101 [(0, .ref r0), (1, .long y1), (5, .int x5), (6, .int x6)] [] σ Q := by
  refine zW_s rfl ?_
  refine zW_s rfl ?_
  refine zW_s rfl ?_
  refine zW_if (fun (c101 : (nI 4) ≤ x6) => ?_) (fun (c101 : ¬ ((nI 4) ≤ x6)) => ?_)
  · rw [if_pos c101] at h
    refine zW_r rfl trivial ?_
    exact h
  · rw [if_neg c101] at h
    refine zW_s rfl ?_
    refine zW_s rfl ?_
    exact h
set_option maxHeartbeats 4000000 in
theorem b138_110 {d : Nat} {r0 : Nat} {y1 : Int64} {x5 : Int32} {x6 : Int32} {x7 : Int32} {σ : zH} {Q : Option Value → zH → Prop} (h : (zK σ r0 = 13) ∧ (zK σ (zQ σ r0 11) = 20) ∧ (vp_in x6 (zN σ (zQ σ r0 11))) ∧ (if (zA σ (zQ σ r0 11) x6.toNatClampNeg) ≤ x7 then zW (d) 138 101 [(0, .ref r0), (1, .long y1), (5, .int x5), (6, .int (x6 + nI 1))] [] σ Q else (zK σ (zQ σ r0 10) = 20) ∧ (vp_in (((nI 10) * x6) + x7) (zN σ (zQ σ r0 10))) ∧ zW (d) 138 110 [(0, .ref r0), (1, .long y1), (5, .int (x5 + (-5))), (6, .int x6), (7, .int (x7 + nI 1))] [] (zsA σ (zQ σ r0 10) (((nI 10) * x6) + x7).toNatClampNeg (((zlsr y1 (x5 + (-5))) &&& (lN 31)).toInt32)) Q)) : zW (d) 138 110 [(0, .ref r0), (1, .long y1), (5, .int x5), (6, .int x6), (7, .int x7)] [] σ Q := by
  refine zW_s rfl ?_
  refine zW_s rfl ?_
  have hp101 := h.1; replace h := h.2
  refine zW_p rfl hp101 ?_
  refine zW_s rfl ?_
  have hp102 := h.1; replace h := h.2
  have hp103 := h.1; replace h := h.2
  refine zW_p rfl ⟨hp102, hp103⟩ ?_
  refine zW_s rfl ?_
  refine zW_if (fun (c104 : (zA σ (zQ σ r0 11) x6.toNatClampNeg) ≤ x7) => ?_) (fun (c104 : ¬ ((zA σ (zQ σ r0 11) x6.toNatClampNeg) ≤ x7)) => ?_)
  · rw [if_pos c104] at h
    refine zW_s rfl ?_
    refine zW_s rfl ?_
    refine zW_k [0, 1, 2, 3] rfl ?_
    exact h
  · rw [if_neg c104] at h
    refine zW_s rfl ?_
    refine zW_s rfl ?_
    refine zW_p rfl hp101 ?_
    refine zW_s rfl ?_
    refine zW_s rfl ?_
    refine zW_s rfl ?_
    refine zW_s rfl ?_
    refine zW_s rfl ?_
    refine zW_s rfl ?_
    refine zW_s rfl ?_
    refine zW_s rfl ?_
    refine zW_s rfl ?_
    refine zW_s rfl ?_
    refine zW_s rfl ?_
    have hp105 := h.1; replace h := h.2
    have hp106 := h.1; replace h := h.2
    refine zW_p rfl ⟨hp105, hp106⟩ ?_
    refine zW_s rfl ?_
    refine zW_s rfl ?_
    exact h
set_option maxHeartbeats 4000000 in
theorem b139 {d : Nat} {r0 : Nat} {σ : zH} {Q : Option Value → zH → Prop} (h : (zK σ r0 = 13) ∧ (if (zI σ r0 3) ≤ (zI σ r0 4) then Q (some (.int (-1))) σ else (zK σ (zQ σ r0 1) = 22) ∧ (vp_in (zI σ r0 4) (zN σ (zQ σ r0 1))) ∧ Q (some (.int ((zA σ (zQ σ r0 1) (zI σ r0 4).toNatClampNeg) &&& (nI 255)))) σ)) : zM (d) 139 [.ref r0] σ Q := by
  unfold zM
  refine zW_s rfl ?_
  have hp101 := h.1; replace h := h.2
  refine zW_p rfl hp101 ?_
  refine zW_s rfl ?_
  refine zW_p rfl hp101 ?_
  refine zW_s rfl ?_
  refine zW_if (fun (c102 : (zI σ r0 3) ≤ (zI σ r0 4)) => ?_) (fun (c102 : ¬ ((zI σ r0 3) ≤ (zI σ r0 4))) => ?_)
  · rw [if_pos c102] at h
    refine zW_s rfl ?_
    refine zW_r rfl trivial ?_
    exact h
  · rw [if_neg c102] at h
    refine zW_s rfl ?_
    refine zW_p rfl hp101 ?_
    refine zW_s rfl ?_
    refine zW_p rfl hp101 ?_
    have hp103 := h.1; replace h := h.2
    have hp104 := h.1; replace h := h.2
    refine zW_p rfl ⟨hp103, hp104⟩ ?_
    refine zW_s rfl ?_
    refine zW_s rfl ?_
    refine zW_s rfl ?_
    refine zW_r rfl trivial ?_
    exact h
set_option maxHeartbeats 4000000 in
theorem b140 {d : Nat} {x0 : Int32} {σ : zH} {Q : Option Value → zH → Prop} (h : (if x0 < (nI 97) then Q (some (.int (nI 0))) σ else Q (some (.int (if (nI 122) < x0 then nI 0 else nI 1))) σ)) : zM (d) 140 [.int x0] σ Q := by
  unfold zM
  refine zW_s rfl ?_
  refine zW_s rfl ?_
  refine zW_s rfl ?_
  refine zW_if (fun (c101 : x0 < (nI 97)) => ?_) (fun (c101 : ¬ (x0 < (nI 97))) => ?_)
  · rw [if_pos c101] at h
    refine zW_s rfl ?_
    refine zW_r rfl (by decide) ?_
    exact h
  · rw [if_neg c101] at h
    refine zW_s rfl ?_
    refine zW_s rfl ?_
    refine zW_s rfl ?_
    have k : ∀ v : Int32, v = (if (nI 122) < x0 then nI 0 else nI 1) → zW (d) 140 17 [(0, .int x0)] [.int v] σ Q := by
      intro v hv
      subst hv
      refine zW_r rfl zb01 ?_
      exact h
    refine zW_if (fun (c102 : (nI 122) < x0) => ?_) (fun (c102 : ¬ ((nI 122) < x0)) => ?_)
    · replace k := k _ (if_pos c102).symm
      refine zW_s rfl ?_
      exact k
    · replace k := k _ (if_neg c102).symm
      refine zW_s rfl ?_
      refine zW_s rfl ?_
      exact k
set_option maxHeartbeats 4000000 in
theorem b141 {d : Nat} {x0 : Int32} {σ : zH} {Q : Option Value → zH → Prop} (h : (if x0 < (nI 48) then Q (some (.int (nI 0))) σ else Q (some (.int (if (nI 57) < x0 then nI 0 else nI 1))) σ)) : zM (d) 141 [.int x0] σ Q := by
  unfold zM
  refine zW_s rfl ?_
  refine zW_s rfl ?_
  refine zW_s rfl ?_
  refine zW_if (fun (c101 : x0 < (nI 48)) => ?_) (fun (c101 : ¬ (x0 < (nI 48))) => ?_)
  · rw [if_pos c101] at h
    refine zW_s rfl ?_
    refine zW_r rfl (by decide) ?_
    exact h
  · rw [if_neg c101] at h
    refine zW_s rfl ?_
    refine zW_s rfl ?_
    refine zW_s rfl ?_
    have k : ∀ v : Int32, v = (if (nI 57) < x0 then nI 0 else nI 1) → zW (d) 141 17 [(0, .int x0)] [.int v] σ Q := by
      intro v hv
      subst hv
      refine zW_r rfl zb01 ?_
      exact h
    refine zW_if (fun (c102 : (nI 57) < x0) => ?_) (fun (c102 : ¬ ((nI 57) < x0)) => ?_)
    · replace k := k _ (if_pos c102).symm
      refine zW_s rfl ?_
      exact k
    · replace k := k _ (if_neg c102).symm
      refine zW_s rfl ?_
      refine zW_s rfl ?_
      exact k
set_option maxHeartbeats 4000000 in
theorem b142 {d : Nat} {r0 : Nat} {σ : zH} {Q : Option Value → zH → Prop} (h : zW (d + 1) 142 0 [(0, .ref r0)] [] σ Q) : zM (d + 1) 142 [.ref r0] σ Q := by
  unfold zM
  exact h
set_option maxHeartbeats 4000000 in
theorem b142_0 {d : Nat} {r0 : Nat} {σ : zH} {Q : Option Value → zH → Prop} (h : (zK σ r0 = 13) ∧ zM d 139 [.ref r0] σ (fun r σ102 => zqi r (fun x103 => (if x103 = (nI 32) then (zK σ102 r0 = 13) ∧ zW (d + 1) 142 0 [(0, .ref r0)] [] (zsI σ102 r0 4 ((zI σ102 r0 4) + (nI 1))) Q else (zK σ102 r0 = 13) ∧ zM d 139 [.ref r0] σ102 (fun r σ107 => zqi r (fun x108 => (if ¬ x108 = (nI 10) then (zK σ107 r0 = 13) ∧ zM d 139 [.ref r0] (zsI σ107 r0 14 (zI σ107 r0 4)) (fun r σ111 => zqi r (fun x112 => (if 0 ≤ x112 then zM d 140 [.int x112] σ111 (fun r σ114 => zqi r (fun x115 => (if ¬ x115 = 0 then zW (d + 1) 142 70 [(0, .ref r0), (1, .int x112)] [] σ114 Q else zM d 141 [.int x112] σ114 (fun r σ117 => zqi r (fun x118 => (if x118 = 0 then (zK σ117 r0 = 13) ∧ (if x112 = (nI 33) then zW (d + 1) 142 109 [(0, .ref r0), (1, .int x112)] [] (zsI σ117 r0 4 ((zI σ117 r0 4) + (nI 1))) Q else (if x112 = (nI 60) then zW (d + 1) 142 109 [(0, .ref r0), (1, .int x112)] [] (zsI σ117 r0 4 ((zI σ117 r0 4) + (nI 1))) Q else (if ¬ x112 = (nI 62) then zW (d + 1) 142 122 [(0, .ref r0), (1, .int x112)] [] (zsI σ117 r0 4 ((zI σ117 r0 4) + (nI 1))) Q else zW (d + 1) 142 109 [(0, .ref r0), (1, .int x112)] [] (zsI σ117 r0 4 ((zI σ117 r0 4) + (nI 1))) Q))) else zW (d + 1) 142 70 [(0, .ref r0), (1, .int x112)] [] σ117 Q)))))) else (zK σ111 r0 = 13) ∧ Q none (zsI σ111 r0 13 (nI 0))))) else (zK σ107 r0 = 13) ∧ zW (d + 1) 142 0 [(0, .ref r0)] [] (zsI σ107 r0 4 ((zI σ107 r0 4) + (nI 1))) Q))))))) : zW (d + 1) 142 0 [(0, .ref r0)] [] σ Q := by
  refine zW_s rfl ?_
  have hp101 := h.1; replace h := h.2
  refine zW_c rfl hp101 (zM_m h ?_)
  intro r σ102 h
  replace h := zqi_e h
  obtain ⟨x103, rfl, h⟩ := h
  refine zW_s rfl ?_
  refine zW_s rfl ?_
  refine zW_if (fun (c104 : x103 = (nI 32)) => ?_) (fun (c104 : ¬ (x103 = (nI 32))) => ?_)
  · rw [if_pos c104] at h
    refine zW_s rfl ?_
    refine zW_s rfl ?_
    have hp105 := h.1; replace h := h.2
    refine zW_p rfl hp105 ?_
    refine zW_s rfl ?_
    refine zW_s rfl ?_
    refine zW_p rfl hp105 ?_
    refine zW_s rfl ?_
    exact h
  · rw [if_neg c104] at h
    refine zW_s rfl ?_
    have hp106 := h.1; replace h := h.2
    refine zW_c rfl hp106 (zM_m h ?_)
    intro r σ107 h
    replace h := zqi_e h
    obtain ⟨x108, rfl, h⟩ := h
    refine zW_s rfl ?_
    refine zW_s rfl ?_
    refine zW_if (fun (c109 : ¬ x108 = (nI 10)) => ?_) (fun (c109 : ¬ (¬ x108 = (nI 10))) => ?_)
    · rw [if_pos c109] at h
      refine zW_s rfl ?_
      refine zW_s rfl ?_
      have hp110 := h.1; replace h := h.2
      refine zW_p rfl hp110 ?_
      refine zW_p rfl hp110 ?_
      refine zW_s rfl ?_
      refine zW_c rfl hp110 (zM_m h ?_)
      intro r σ111 h
      replace h := zqi_e h
      obtain ⟨x112, rfl, h⟩ := h
      refine zW_s rfl ?_
      refine zW_s rfl ?_
      refine zW_s rfl ?_
      refine zW_if (fun (c113 : 0 ≤ x112) => ?_) (fun (c113 : ¬ (0 ≤ x112)) => ?_)
      · rw [if_pos c113] at h
        refine zW_s rfl ?_
        refine zW_c rfl trivial (zM_m h ?_)
        intro r σ114 h
        replace h := zqi_e h
        obtain ⟨x115, rfl, h⟩ := h
        refine zW_s rfl ?_
        refine zW_if (fun (c116 : ¬ x115 = 0) => ?_) (fun (c116 : ¬ (¬ x115 = 0)) => ?_)
        · rw [if_pos c116] at h
          exact h
        · rw [if_neg c116] at h
          refine zW_s rfl ?_
          refine zW_c rfl trivial (zM_m h ?_)
          intro r σ117 h
          replace h := zqi_e h
          obtain ⟨x118, rfl, h⟩ := h
          refine zW_s rfl ?_
          refine zW_if (fun (c119 : x118 = 0) => ?_) (fun (c119 : ¬ (x118 = 0)) => ?_)
          · rw [if_pos c119] at h
            refine zW_s rfl ?_
            refine zW_s rfl ?_
            have hp120 := h.1; replace h := h.2
            refine zW_p rfl hp120 ?_
            refine zW_s rfl ?_
            refine zW_s rfl ?_
            refine zW_p rfl hp120 ?_
            refine zW_s rfl ?_
            refine zW_s rfl ?_
            refine zW_s rfl ?_
            refine zW_if (fun (c121 : x112 = (nI 33)) => ?_) (fun (c121 : ¬ (x112 = (nI 33))) => ?_)
            · rw [if_pos c121] at h
              exact h
            · rw [if_neg c121] at h
              refine zW_s rfl ?_
              refine zW_s rfl ?_
              refine zW_s rfl ?_
              refine zW_if (fun (c122 : x112 = (nI 60)) => ?_) (fun (c122 : ¬ (x112 = (nI 60))) => ?_)
              · rw [if_pos c122] at h
                exact h
              · rw [if_neg c122] at h
                refine zW_s rfl ?_
                refine zW_s rfl ?_
                refine zW_s rfl ?_
                refine zW_if (fun (c123 : ¬ x112 = (nI 62)) => ?_) (fun (c123 : ¬ (¬ x112 = (nI 62))) => ?_)
                · rw [if_pos c123] at h
                  exact h
                · rw [if_neg c123] at h
                  exact h
          · rw [if_neg c119] at h
            exact h
      · rw [if_neg c113] at h
        refine zW_s rfl ?_
        refine zW_s rfl ?_
        have hp124 := h.1; replace h := h.2
        refine zW_p rfl hp124 ?_
        refine zW_s rfl ?_
        refine zW_r rfl trivial ?_
        exact h
    · rw [if_neg c109] at h
      refine zW_s rfl ?_
      refine zW_s rfl ?_
      have hp125 := h.1; replace h := h.2
      refine zW_p rfl hp125 ?_
      refine zW_s rfl ?_
      refine zW_s rfl ?_
      refine zW_p rfl hp125 ?_
      refine zW_s rfl ?_
      exact h
set_option maxHeartbeats 4000000 in
theorem b142_70 {d : Nat} {r0 : Nat} {x1 : Int32} {σ : zH} {Q : Option Value → zH → Prop} (h : zM d 140 [.int x1] σ (fun r σ101 => zqi r (fun x102 => (zK σ101 r0 = 13) ∧ zM d 143 [.ref r0, .int x102] σ101 (fun r σ104 => zqv r (Q none σ104))))) : zW (d + 1) 142 70 [(0, .ref r0), (1, .int x1)] [] σ Q := by
  refine zW_s rfl ?_
  refine zW_s rfl ?_
  refine zW_c rfl trivial (zM_m h ?_)
  intro r σ101 h
  replace h := zqi_e h
  obtain ⟨x102, rfl, h⟩ := h
  have hp103 := h.1; replace h := h.2
  refine zW_c rfl hp103 (zM_m h ?_)
  intro r σ104 h
  replace h := zqv_e h
  obtain ⟨rfl, h⟩ := h
  refine zW_s rfl ?_
  refine zW_r rfl trivial ?_
  exact h
set_option maxHeartbeats 4000000 in
theorem b142_109 {d : Nat} {r0 : Nat} {x1 : Int32} {σ : zH} {Q : Option Value → zH → Prop} (h : (zK σ r0 = 13) ∧ zM d 139 [.ref r0] σ (fun r σ102 => zqi r (fun x103 => (if (if ¬ x103 = (nI 61) then nI 0 else nI 1) = 0 then zW (d + 1) 142 138 [(0, .ref r0), (1, .int x1), (2, .int (if ¬ x103 = (nI 61) then nI 0 else nI 1))] [] σ102 Q else (zK σ102 r0 = 13) ∧ zW (d + 1) 142 138 [(0, .ref r0), (1, .int x1), (2, .int (if ¬ x103 = (nI 61) then nI 0 else nI 1))] [] (zsI σ102 r0 4 ((zI σ102 r0 4) + (nI 1))) Q)))) : zW (d + 1) 142 109 [(0, .ref r0), (1, .int x1)] [] σ Q := by
  refine zW_s rfl ?_
  have hp101 := h.1; replace h := h.2
  refine zW_c rfl hp101 (zM_m h ?_)
  intro r σ102 h
  replace h := zqi_e h
  obtain ⟨x103, rfl, h⟩ := h
  refine zW_s rfl ?_
  refine zW_s rfl ?_
  have k : ∀ v : Int32, v = (if ¬ x103 = (nI 61) then nI 0 else nI 1) → zW (d + 1) 142 123 [(0, .ref r0), (1, .int x1)] [.int v] σ102 Q := by
    intro v hv
    subst hv
    refine zW_s rfl ?_
    refine zW_s rfl ?_
    refine zW_s rfl ?_
    refine zW_if (fun (c105 : (if ¬ x103 = (nI 61) then nI 0 else nI 1) = 0) => ?_) (fun (c105 : ¬ ((if ¬ x103 = (nI 61) then nI 0 else nI 1) = 0)) => ?_)
    · rw [if_pos c105] at h
      exact h
    · rw [if_neg c105] at h
      refine zW_s rfl ?_
      refine zW_s rfl ?_
      have hp106 := h.1; replace h := h.2
      refine zW_p rfl hp106 ?_
      refine zW_s rfl ?_
      refine zW_s rfl ?_
      refine zW_p rfl hp106 ?_
      exact h
  refine zW_if (fun (c104 : ¬ x103 = (nI 61)) => ?_) (fun (c104 : ¬ (¬ x103 = (nI 61))) => ?_)
  · replace k := k _ (if_pos c104).symm
    refine zW_s rfl ?_
    exact k
  · replace k := k _ (if_neg c104).symm
    refine zW_s rfl ?_
    refine zW_s rfl ?_
    exact k
set_option maxHeartbeats 4000000 in
theorem b142_122 {d : Nat} {r0 : Nat} {x1 : Int32} {σ : zH} {Q : Option Value → zH → Prop} (h : (if (nI 0) = 0 then zW (d + 1) 142 138 [(0, .ref r0), (1, .int x1), (2, .int (nI 0))] [] σ Q else (zK σ r0 = 13) ∧ zW (d + 1) 142 138 [(0, .ref r0), (1, .int x1), (2, .int (nI 0))] [] (zsI σ r0 4 ((zI σ r0 4) + (nI 1))) Q)) : zW (d + 1) 142 122 [(0, .ref r0), (1, .int x1)] [] σ Q := by
  refine zW_s rfl ?_
  refine zW_s rfl ?_
  refine zW_s rfl ?_
  refine zW_s rfl ?_
  refine zW_if (fun (c101 : (nI 0) = 0) => ?_) (fun (c101 : ¬ ((nI 0) = 0)) => ?_)
  · rw [if_pos c101] at h
    exact h
  · rw [if_neg c101] at h
    refine zW_s rfl ?_
    refine zW_s rfl ?_
    have hp102 := h.1; replace h := h.2
    refine zW_p rfl hp102 ?_
    refine zW_s rfl ?_
    refine zW_s rfl ?_
    refine zW_p rfl hp102 ?_
    exact h
set_option maxHeartbeats 4000000 in
theorem b142_138 {d : Nat} {r0 : Nat} {x1 : Int32} {x2 : Int32} {σ : zH} {Q : Option Value → zH → Prop} (h : (if x1 = (nI 123) then zW (d + 1) 142 186 [(0, .ref r0), (1, .int x1), (2, .int x2)] [] σ Q else (if x1 = (nI 125) then zW (d + 1) 142 186 [(0, .ref r0), (1, .int x1), (2, .int x2)] [] σ Q else (if x1 = (nI 40) then zW (d + 1) 142 186 [(0, .ref r0), (1, .int x1), (2, .int x2)] [] σ Q else (if x1 = (nI 41) then zW (d + 1) 142 186 [(0, .ref r0), (1, .int x1), (2, .int x2)] [] σ Q else (if x1 = (nI 59) then zW (d + 1) 142 186 [(0, .ref r0), (1, .int x1), (2, .int x2)] [] σ Q else (if x1 = (nI 61) then zW (d + 1) 142 186 [(0, .ref r0), (1, .int x1), (2, .int x2)] [] σ Q else (if x1 = (nI 60) then zW (d + 1) 142 186 [(0, .ref r0), (1, .int x1), (2, .int x2)] [] σ Q else (if ¬ x2 = 0 then zW (d + 1) 142 206 [(0, .ref r0), (1, .int x1), (2, .int x2)] [.int (nI 3), .ref r0] σ Q else (zK σ r0 = 13) ∧ Q none (zsI (zsI σ r0 13 (if (if ¬ x1 = (nI 62) then nI 0 else nI 1) = 0 then nI 4 else nI 3)) r0 15 (if x2 = 0 then x1 else (nI 256) + x1))))))))))) : zW (d + 1) 142 138 [(0, .ref r0), (1, .int x1), (2, .int x2)] [] σ Q := by
  refine zW_s rfl ?_
  refine zW_s rfl ?_
  refine zW_s rfl ?_
  refine zW_if (fun (c101 : x1 = (nI 123)) => ?_) (fun (c101 : ¬ (x1 = (nI 123))) => ?_)
  · rw [if_pos c101] at h
    exact h
  · rw [if_neg c101] at h
    refine zW_s rfl ?_
    refine zW_s rfl ?_
    refine zW_s rfl ?_
    refine zW_if (fun (c102 : x1 = (nI 125)) => ?_) (fun (c102 : ¬ (x1 = (nI 125))) => ?_)
    · rw [if_pos c102] at h
      exact h
    · rw [if_neg c102] at h
      refine zW_s rfl ?_
      refine zW_s rfl ?_
      refine zW_s rfl ?_
      refine zW_if (fun (c103 : x1 = (nI 40)) => ?_) (fun (c103 : ¬ (x1 = (nI 40))) => ?_)
      · rw [if_pos c103] at h
        exact h
      · rw [if_neg c103] at h
        refine zW_s rfl ?_
        refine zW_s rfl ?_
        refine zW_s rfl ?_
        refine zW_if (fun (c104 : x1 = (nI 41)) => ?_) (fun (c104 : ¬ (x1 = (nI 41))) => ?_)
        · rw [if_pos c104] at h
          exact h
        · rw [if_neg c104] at h
          refine zW_s rfl ?_
          refine zW_s rfl ?_
          refine zW_s rfl ?_
          refine zW_if (fun (c105 : x1 = (nI 59)) => ?_) (fun (c105 : ¬ (x1 = (nI 59))) => ?_)
          · rw [if_pos c105] at h
            exact h
          · rw [if_neg c105] at h
            refine zW_s rfl ?_
            refine zW_s rfl ?_
            refine zW_s rfl ?_
            refine zW_if (fun (c106 : x1 = (nI 61)) => ?_) (fun (c106 : ¬ (x1 = (nI 61))) => ?_)
            · rw [if_pos c106] at h
              exact h
            · rw [if_neg c106] at h
              refine zW_s rfl ?_
              refine zW_s rfl ?_
              refine zW_s rfl ?_
              refine zW_if (fun (c107 : x1 = (nI 60)) => ?_) (fun (c107 : ¬ (x1 = (nI 60))) => ?_)
              · rw [if_pos c107] at h
                exact h
              · rw [if_neg c107] at h
                refine zW_s rfl ?_
                refine zW_s rfl ?_
                refine zW_s rfl ?_
                have k : ∀ v : Int32, v = (if ¬ x1 = (nI 62) then nI 0 else nI 1) → zW (d + 1) 142 191 [(0, .ref r0), (1, .int x1), (2, .int x2)] [.int v] σ Q := by
                  intro v hv
                  subst hv
                  refine zW_s rfl ?_
                  refine zW_s rfl ?_
                  refine zW_s rfl ?_
                  refine zW_s rfl ?_
                  refine zW_if (fun (c109 : ¬ x2 = 0) => ?_) (fun (c109 : ¬ (¬ x2 = 0)) => ?_)
                  · rw [if_pos c109] at h
                    refine zW_s rfl ?_
                    refine zW_s rfl ?_
                    refine zW_k [0, 1, 2] rfl ?_
                    exact h
                  · rw [if_neg c109] at h
                    refine zW_s rfl ?_
                    refine zW_s rfl ?_
                    have k : ∀ v : Int32, v = (if (if ¬ x1 = (nI 62) then nI 0 else nI 1) = 0 then nI 4 else nI 3) → zW (d + 1) 142 206 [(0, .ref r0), (1, .int x1), (2, .int x2), (3, .int (if ¬ x1 = (nI 62) then nI 0 else nI 1))] [.int v, .ref r0] σ Q := by
                      intro v hv
                      subst hv
                      have hp111 := h.1; replace h := h.2
                      refine zW_p rfl hp111 ?_
                      refine zW_s rfl ?_
                      refine zW_s rfl ?_
                      refine zW_s rfl ?_
                      have k : ∀ v : Int32, v = (if x2 = 0 then x1 else (nI 256) + x1) → zW (d + 1) 142 223 [(0, .ref r0), (1, .int x1), (2, .int x2), (3, .int (if ¬ x1 = (nI 62) then nI 0 else nI 1))] [.int v, .ref r0] (zsI σ r0 13 (if (if ¬ x1 = (nI 62) then nI 0 else nI 1) = 0 then nI 4 else nI 3)) Q := by
                        intro v hv
                        subst hv
                        refine zW_p rfl hp111 ?_
                        refine zW_r rfl trivial ?_
                        exact h
                      refine zW_if (fun (c112 : x2 = 0) => ?_) (fun (c112 : ¬ (x2 = 0)) => ?_)
                      · replace k := k _ (if_pos c112).symm
                        refine zW_s rfl ?_
                        exact k
                      · replace k := k _ (if_neg c112).symm
                        refine zW_s rfl ?_
                        refine zW_s rfl ?_
                        refine zW_s rfl ?_
                        refine zW_s rfl ?_
                        exact k
                    refine zW_if (fun (c110 : (if ¬ x1 = (nI 62) then nI 0 else nI 1) = 0) => ?_) (fun (c110 : ¬ ((if ¬ x1 = (nI 62) then nI 0 else nI 1) = 0)) => ?_)
                    · replace k := k _ (if_pos c110).symm
                      refine zW_s rfl ?_
                      exact k
                    · replace k := k _ (if_neg c110).symm
                      refine zW_s rfl ?_
                      refine zW_s rfl ?_
                      exact k
                refine zW_if (fun (c108 : ¬ x1 = (nI 62)) => ?_) (fun (c108 : ¬ (¬ x1 = (nI 62))) => ?_)
                · replace k := k _ (if_pos c108).symm
                  refine zW_s rfl ?_
                  exact k
                · replace k := k _ (if_neg c108).symm
                  refine zW_s rfl ?_
                  refine zW_s rfl ?_
                  exact k
set_option maxHeartbeats 4000000 in
theorem b142_186 {d : Nat} {r0 : Nat} {x1 : Int32} {x2 : Int32} {σ : zH} {Q : Option Value → zH → Prop} (h : (if ¬ x2 = 0 then (zK σ r0 = 13) ∧ Q none (zsI (zsI σ r0 13 (nI 3)) r0 15 (if x2 = 0 then x1 else (nI 256) + x1)) else (zK σ r0 = 13) ∧ Q none (zsI (zsI σ r0 13 (if (nI 1) = 0 then nI 4 else nI 3)) r0 15 (if x2 = 0 then x1 else (nI 256) + x1)))) : zW (d + 1) 142 186 [(0, .ref r0), (1, .int x1), (2, .int x2)] [] σ Q := by
  refine zW_s rfl ?_
  refine zW_s rfl ?_
  refine zW_s rfl ?_
  refine zW_s rfl ?_
  refine zW_s rfl ?_
  refine zW_s rfl ?_
  refine zW_if (fun (c101 : ¬ x2 = 0) => ?_) (fun (c101 : ¬ (¬ x2 = 0)) => ?_)
  · rw [if_pos c101] at h
    refine zW_s rfl ?_
    refine zW_s rfl ?_
    have hp102 := h.1; replace h := h.2
    refine zW_p rfl hp102 ?_
    refine zW_s rfl ?_
    refine zW_s rfl ?_
    refine zW_s rfl ?_
    have k : ∀ v : Int32, v = (if x2 = 0 then x1 else (nI 256) + x1) → zW (d + 1) 142 223 [(0, .ref r0), (1, .int x1), (2, .int x2), (3, .int (nI 1))] [.int v, .ref r0] (zsI σ r0 13 (nI 3)) Q := by
      intro v hv
      subst hv
      refine zW_p rfl hp102 ?_
      refine zW_r rfl trivial ?_
      exact h
    refine zW_if (fun (c103 : x2 = 0) => ?_) (fun (c103 : ¬ (x2 = 0)) => ?_)
    · replace k := k _ (if_pos c103).symm
      refine zW_s rfl ?_
      exact k
    · replace k := k _ (if_neg c103).symm
      refine zW_s rfl ?_
      refine zW_s rfl ?_
      refine zW_s rfl ?_
      refine zW_s rfl ?_
      exact k
  · rw [if_neg c101] at h
    refine zW_s rfl ?_
    refine zW_s rfl ?_
    have k : ∀ v : Int32, v = (if (nI 1) = 0 then nI 4 else nI 3) → zW (d + 1) 142 206 [(0, .ref r0), (1, .int x1), (2, .int x2), (3, .int (nI 1))] [.int v, .ref r0] σ Q := by
      intro v hv
      subst hv
      have hp105 := h.1; replace h := h.2
      refine zW_p rfl hp105 ?_
      refine zW_s rfl ?_
      refine zW_s rfl ?_
      refine zW_s rfl ?_
      have k : ∀ v : Int32, v = (if x2 = 0 then x1 else (nI 256) + x1) → zW (d + 1) 142 223 [(0, .ref r0), (1, .int x1), (2, .int x2), (3, .int (nI 1))] [.int v, .ref r0] (zsI σ r0 13 (if (nI 1) = 0 then nI 4 else nI 3)) Q := by
        intro v hv
        subst hv
        refine zW_p rfl hp105 ?_
        refine zW_r rfl trivial ?_
        exact h
      refine zW_if (fun (c106 : x2 = 0) => ?_) (fun (c106 : ¬ (x2 = 0)) => ?_)
      · replace k := k _ (if_pos c106).symm
        refine zW_s rfl ?_
        exact k
      · replace k := k _ (if_neg c106).symm
        refine zW_s rfl ?_
        refine zW_s rfl ?_
        refine zW_s rfl ?_
        refine zW_s rfl ?_
        exact k
    refine zW_if (fun (c104 : (nI 1) = 0) => ?_) (fun (c104 : ¬ ((nI 1) = 0)) => ?_)
    · replace k := k _ (if_pos c104).symm
      refine zW_s rfl ?_
      exact k
    · replace k := k _ (if_neg c104).symm
      refine zW_s rfl ?_
      refine zW_s rfl ?_
      exact k
set_option maxHeartbeats 4000000 in
theorem b142_206 {d : Nat} {r0 : Nat} {x1 : Int32} {x2 : Int32} {v0 : Int32} {v1 : Nat} {σ : zH} {Q : Option Value → zH → Prop} (h : (zK σ v1 = 13) ∧ (zK σ r0 = 13) ∧ Q none (zsI (zsI σ v1 13 v0) r0 15 (if x2 = 0 then x1 else (nI 256) + x1))) : zW (d + 1) 142 206 [(0, .ref r0), (1, .int x1), (2, .int x2)] [.int v0, .ref v1] σ Q := by
  have hp101 := h.1; replace h := h.2
  refine zW_p rfl hp101 ?_
  refine zW_s rfl ?_
  refine zW_s rfl ?_
  refine zW_s rfl ?_
  have k : ∀ v : Int32, v = (if x2 = 0 then x1 else (nI 256) + x1) → zW (d + 1) 142 223 [(0, .ref r0), (1, .int x1), (2, .int x2)] [.int v, .ref r0] (zsI σ v1 13 v0) Q := by
    intro v hv
    subst hv
    have hp103 := h.1; replace h := h.2
    refine zW_p rfl hp103 ?_
    refine zW_r rfl trivial ?_
    exact h
  refine zW_if (fun (c102 : x2 = 0) => ?_) (fun (c102 : ¬ (x2 = 0)) => ?_)
  · replace k := k _ (if_pos c102).symm
    refine zW_s rfl ?_
    exact k
  · replace k := k _ (if_neg c102).symm
    refine zW_s rfl ?_
    refine zW_s rfl ?_
    refine zW_s rfl ?_
    refine zW_s rfl ?_
    exact k
set_option maxHeartbeats 4000000 in
theorem b143 {d : Nat} {r0 : Nat} {x1 : Int32} {σ : zH} {Q : Option Value → zH → Prop} (h : (zK σ r0 = 13) ∧ zW (d + 1) 143 14 [(0, .ref r0), (1, .int x1), (2, .int (nI 1)), (3, .int (nI 0))] [] (zsI (zsJ σ r0 18 (lN 0)) r0 15 (nI 0)) Q) : zM (d + 1) 143 [.ref r0, .int x1] σ Q := by
  unfold zM
  refine zW_s rfl ?_
  refine zW_s rfl ?_
  refine zW_s rfl ?_
  refine zW_s rfl ?_
  refine zW_s rfl ?_
  refine zW_s rfl ?_
  have hp101 := h.1; replace h := h.2
  refine zW_p rfl hp101 ?_
  refine zW_s rfl ?_
  refine zW_s rfl ?_
  refine zW_p rfl hp101 ?_
  exact h
set_option maxHeartbeats 4000000 in
theorem b143_14 {d : Nat} {r0 : Nat} {x1 : Int32} {x2 : Int32} {x3 : Int32} {σ : zH} {Q : Option Value → zH → Prop} (h : (zK σ r0 = 13) ∧ zM d 139 [.ref r0] σ (fun r σ102 => zqi r (fun x103 => zM d 140 [.int x103] σ102 (fun r σ104 => zqi r (fun x105 => (if ¬ x105 = 0 then zW (d + 1) 143 34 [(0, .ref r0), (1, .int x1), (2, .int x2), (3, .int x3)] [] σ104 Q else (zK σ104 r0 = 13) ∧ zM d 139 [.ref r0] σ104 (fun r σ108 => zqi r (fun x109 => zM d 141 [.int x109] σ108 (fun r σ110 => zqi r (fun x111 => (if x111 = 0 then (if x2 = 0 then (zK σ110 r0 = 13) ∧ Q none (zsI σ110 r0 13 (nI 4)) else (if (if x1 = 0 then nI 2 else nI 8) < x3 then (zK σ110 r0 = 13) ∧ Q none (zsI σ110 r0 13 (nI 4)) else (zK σ110 r0 = 13) ∧ Q none (zsI σ110 r0 13 (if x1 = 0 then nI 2 else nI 1)))) else zW (d + 1) 143 34 [(0, .ref r0), (1, .int x1), (2, .int x2), (3, .int x3)] [] σ110 Q))))))))))) : zW (d + 1) 143 14 [(0, .ref r0), (1, .int x1), (2, .int x2), (3, .int x3)] [] σ Q := by
  refine zW_s rfl ?_
  have hp101 := h.1; replace h := h.2
  refine zW_c rfl hp101 (zM_m h ?_)
  intro r σ102 h
  replace h := zqi_e h
  obtain ⟨x103, rfl, h⟩ := h
  refine zW_c rfl trivial (zM_m h ?_)
  intro r σ104 h
  replace h := zqi_e h
  obtain ⟨x105, rfl, h⟩ := h
  refine zW_s rfl ?_
  refine zW_if (fun (c106 : ¬ x105 = 0) => ?_) (fun (c106 : ¬ (¬ x105 = 0)) => ?_)
  · rw [if_pos c106] at h
    exact h
  · rw [if_neg c106] at h
    refine zW_s rfl ?_
    have hp107 := h.1; replace h := h.2
    refine zW_c rfl hp107 (zM_m h ?_)
    intro r σ108 h
    replace h := zqi_e h
    obtain ⟨x109, rfl, h⟩ := h
    refine zW_c rfl trivial (zM_m h ?_)
    intro r σ110 h
    replace h := zqi_e h
    obtain ⟨x111, rfl, h⟩ := h
    refine zW_s rfl ?_
    refine zW_if (fun (c112 : x111 = 0) => ?_) (fun (c112 : ¬ (x111 = 0)) => ?_)
    · rw [if_pos c112] at h
      refine zW_s rfl ?_
      refine zW_s rfl ?_
      refine zW_s rfl ?_
      refine zW_if (fun (c113 : x2 = 0) => ?_) (fun (c113 : ¬ (x2 = 0)) => ?_)
      · rw [if_pos c113] at h
        refine zW_s rfl ?_
        have hp114 := h.1; replace h := h.2
        refine zW_p rfl hp114 ?_
        refine zW_r rfl trivial ?_
        exact h
      · rw [if_neg c113] at h
        refine zW_s rfl ?_
        refine zW_s rfl ?_
        refine zW_s rfl ?_
        have k : ∀ v : Int32, v = (if x1 = 0 then nI 2 else nI 8) → zW (d + 1) 143 138 [(0, .ref r0), (1, .int x1), (2, .int x2), (3, .int x3)] [.int v, .int x3, .ref r0] σ110 Q := by
          intro v hv
          subst hv
          refine zW_s rfl ?_
          refine zW_if (fun (c116 : (if x1 = 0 then nI 2 else nI 8) < x3) => ?_) (fun (c116 : ¬ ((if x1 = 0 then nI 2 else nI 8) < x3)) => ?_)
          · rw [if_pos c116] at h
            refine zW_s rfl ?_
            have hp117 := h.1; replace h := h.2
            refine zW_p rfl hp117 ?_
            refine zW_r rfl trivial ?_
            exact h
          · rw [if_neg c116] at h
            refine zW_s rfl ?_
            refine zW_s rfl ?_
            have k : ∀ v : Int32, v = (if x1 = 0 then nI 2 else nI 1) → zW (d + 1) 143 154 [(0, .ref r0), (1, .int x1), (2, .int x2), (3, .int x3)] [.int v, .ref r0] σ110 Q := by
              intro v hv
              subst hv
              have hp119 := h.1; replace h := h.2
              refine zW_p rfl hp119 ?_
              refine zW_r rfl trivial ?_
              exact h
            refine zW_if (fun (c118 : x1 = 0) => ?_) (fun (c118 : ¬ (x1 = 0)) => ?_)
            · replace k := k _ (if_pos c118).symm
              refine zW_s rfl ?_
              refine zW_s rfl ?_
              exact k
            · replace k := k _ (if_neg c118).symm
              refine zW_s rfl ?_
              refine zW_s rfl ?_
              exact k
        refine zW_if (fun (c115 : x1 = 0) => ?_) (fun (c115 : ¬ (x1 = 0)) => ?_)
        · replace k := k _ (if_pos c115).symm
          refine zW_s rfl ?_
          exact k
        · replace k := k _ (if_neg c115).symm
          refine zW_s rfl ?_
          refine zW_s rfl ?_
          exact k
    · rw [if_neg c112] at h
      exact h
set_option maxHeartbeats 4000000 in
theorem b143_34 {d : Nat} {r0 : Nat} {x1 : Int32} {x2 : Int32} {x3 : Int32} {σ : zH} {Q : Option Value → zH → Prop} (h : (if x2 = 0 then zW (d + 1) 143 54 [(0, .ref r0), (1, .int x1), (3, .int x3)] [.int (nI 0)] σ Q else (zK σ r0 = 13) ∧ zM d 139 [.ref r0] σ (fun r σ103 => zqi r (fun x104 => zM d 140 [.int x104] σ103 (fun r σ105 => zqi r (fun x106 => (if (nI 8) ≤ x3 then zW (d + 1) 143 78 [(0, .ref r0), (1, .int x1), (2, .int (if ¬ x106 = x1 then nI 0 else nI 1)), (3, .int x3)] [] σ105 Q else (zK σ105 r0 = 13) ∧ zM d 139 [.ref r0] σ105 (fun r σ110 => zqi r (fun x111 => (zK σ110 r0 = 13) ∧ zW (d + 1) 143 78 [(0, .ref r0), (1, .int x1), (2, .int (if ¬ x106 = x1 then nI 0 else nI 1)), (3, .int x3)] [] (zsJ σ110 r0 18 ((zlsl (zJ σ105 r0 18) (nI 8)) ||| (x111.toInt64))) Q))))))))) : zW (d + 1) 143 34 [(0, .ref r0), (1, .int x1), (2, .int x2), (3, .int x3)] [] σ Q := by
  refine zW_s rfl ?_
  refine zW_s rfl ?_
  refine zW_if (fun (c101 : x2 = 0) => ?_) (fun (c101 : ¬ (x2 = 0)) => ?_)
  · rw [if_pos c101] at h
    refine zW_s rfl ?_
    refine zW_k [0, 1, 3] rfl ?_
    exact h
  · rw [if_neg c101] at h
    refine zW_s rfl ?_
    have hp102 := h.1; replace h := h.2
    refine zW_c rfl hp102 (zM_m h ?_)
    intro r σ103 h
    replace h := zqi_e h
    obtain ⟨x104, rfl, h⟩ := h
    refine zW_c rfl trivial (zM_m h ?_)
    intro r σ105 h
    replace h := zqi_e h
    obtain ⟨x106, rfl, h⟩ := h
    refine zW_s rfl ?_
    refine zW_s rfl ?_
    have k : ∀ v : Int32, v = (if ¬ x106 = x1 then nI 0 else nI 1) → zW (d + 1) 143 54 [(0, .ref r0), (1, .int x1), (2, .int x2), (3, .int x3)] [.int v] σ105 Q := by
      intro v hv
      subst hv
      refine zW_s rfl ?_
      refine zW_s rfl ?_
      refine zW_s rfl ?_
      refine zW_s rfl ?_
      refine zW_if (fun (c108 : (nI 8) ≤ x3) => ?_) (fun (c108 : ¬ ((nI 8) ≤ x3)) => ?_)
      · rw [if_pos c108] at h
        exact h
      · rw [if_neg c108] at h
        refine zW_s rfl ?_
        refine zW_s rfl ?_
        have hp109 := h.1; replace h := h.2
        refine zW_p rfl hp109 ?_
        refine zW_s rfl ?_
        refine zW_s rfl ?_
        refine zW_s rfl ?_
        refine zW_c rfl hp109 (zM_m h ?_)
        intro r σ110 h
        replace h := zqi_e h
        obtain ⟨x111, rfl, h⟩ := h
        refine zW_s rfl ?_
        refine zW_s rfl ?_
        have hp112 := h.1; replace h := h.2
        refine zW_p rfl hp112 ?_
        exact h
    refine zW_if (fun (c107 : ¬ x106 = x1) => ?_) (fun (c107 : ¬ (¬ x106 = x1)) => ?_)
    · replace k := k _ (if_pos c107).symm
      refine zW_s rfl ?_
      exact k
    · replace k := k _ (if_neg c107).symm
      refine zW_s rfl ?_
      refine zW_s rfl ?_
      exact k
set_option maxHeartbeats 4000000 in
theorem b143_54 {d : Nat} {r0 : Nat} {x1 : Int32} {x3 : Int32} {v0 : Int32} {σ : zH} {Q : Option Value → zH → Prop} (h : (if (nI 8) ≤ x3 then zW (d + 1) 143 78 [(0, .ref r0), (1, .int x1), (2, .int v0), (3, .int x3)] [] σ Q else (zK σ r0 = 13) ∧ zM d 139 [.ref r0] σ (fun r σ103 => zqi r (fun x104 => (zK σ103 r0 = 13) ∧ zW (d + 1) 143 78 [(0, .ref r0), (1, .int x1), (2, .int v0), (3, .int x3)] [] (zsJ σ103 r0 18 ((zlsl (zJ σ r0 18) (nI 8)) ||| (x104.toInt64))) Q)))) : zW (d + 1) 143 54 [(0, .ref r0), (1, .int x1), (3, .int x3)] [.int v0] σ Q := by
  refine zW_s rfl ?_
  refine zW_s rfl ?_
  refine zW_s rfl ?_
  refine zW_s rfl ?_
  refine zW_if (fun (c101 : (nI 8) ≤ x3) => ?_) (fun (c101 : ¬ ((nI 8) ≤ x3)) => ?_)
  · rw [if_pos c101] at h
    refine zW_k [0, 1, 3, 2] rfl ?_
    exact h
  · rw [if_neg c101] at h
    refine zW_s rfl ?_
    refine zW_s rfl ?_
    have hp102 := h.1; replace h := h.2
    refine zW_p rfl hp102 ?_
    refine zW_s rfl ?_
    refine zW_s rfl ?_
    refine zW_s rfl ?_
    refine zW_c rfl hp102 (zM_m h ?_)
    intro r σ103 h
    replace h := zqi_e h
    obtain ⟨x104, rfl, h⟩ := h
    refine zW_s rfl ?_
    refine zW_s rfl ?_
    have hp105 := h.1; replace h := h.2
    refine zW_p rfl hp105 ?_
    refine zW_k [0, 1, 3, 2] rfl ?_
    exact h
set_option maxHeartbeats 4000000 in
theorem b143_78 {d : Nat} {r0 : Nat} {x1 : Int32} {x2 : Int32} {x3 : Int32} {σ : zH} {Q : Option Value → zH → Prop} (h : (if (nI 2) ≤ x3 then (zK σ r0 = 13) ∧ zW (d + 1) 143 14 [(0, .ref r0), (1, .int x1), (2, .int x2), (3, .int (x3 + nI 1))] [] (zsI σ r0 4 ((zI σ r0 4) + (nI 1))) Q else (if ¬ x1 = 0 then (zK σ r0 = 13) ∧ zW (d + 1) 143 14 [(0, .ref r0), (1, .int x1), (2, .int x2), (3, .int (x3 + nI 1))] [] (zsI σ r0 4 ((zI σ r0 4) + (nI 1))) Q else (zK σ r0 = 13) ∧ zM d 139 [.ref r0] σ (fun r σ106 => zqi r (fun x107 => (zK σ106 r0 = 13) ∧ zW (d + 1) 143 14 [(0, .ref r0), (1, .int x1), (2, .int x2), (3, .int (x3 + nI 1))] [] (zsI (zsI σ106 r0 15 ((((nI 10) * (zI σ r0 15)) + x107) - (nI 48))) r0 4 ((zI (zsI σ106 r0 15 ((((nI 10) * (zI σ r0 15)) + x107) - (nI 48))) r0 4) + (nI 1))) Q))))) : zW (d + 1) 143 78 [(0, .ref r0), (1, .int x1), (2, .int x2), (3, .int x3)] [] σ Q := by
  refine zW_s rfl ?_
  refine zW_s rfl ?_
  refine zW_s rfl ?_
  refine zW_if (fun (c101 : (nI 2) ≤ x3) => ?_) (fun (c101 : ¬ ((nI 2) ≤ x3)) => ?_)
  · rw [if_pos c101] at h
    refine zW_s rfl ?_
    refine zW_s rfl ?_
    refine zW_s rfl ?_
    have hp102 := h.1; replace h := h.2
    refine zW_p rfl hp102 ?_
    refine zW_s rfl ?_
    refine zW_s rfl ?_
    refine zW_p rfl hp102 ?_
    refine zW_s rfl ?_
    exact h
  · rw [if_neg c101] at h
    refine zW_s rfl ?_
    refine zW_s rfl ?_
    refine zW_if (fun (c103 : ¬ x1 = 0) => ?_) (fun (c103 : ¬ (¬ x1 = 0)) => ?_)
    · rw [if_pos c103] at h
      refine zW_s rfl ?_
      refine zW_s rfl ?_
      refine zW_s rfl ?_
      have hp104 := h.1; replace h := h.2
      refine zW_p rfl hp104 ?_
      refine zW_s rfl ?_
      refine zW_s rfl ?_
      refine zW_p rfl hp104 ?_
      refine zW_s rfl ?_
      exact h
    · rw [if_neg c103] at h
      refine zW_s rfl ?_
      refine zW_s rfl ?_
      refine zW_s rfl ?_
      have hp105 := h.1; replace h := h.2
      refine zW_p rfl hp105 ?_
      refine zW_s rfl ?_
      refine zW_s rfl ?_
      refine zW_c rfl hp105 (zM_m h ?_)
      intro r σ106 h
      replace h := zqi_e h
      obtain ⟨x107, rfl, h⟩ := h
      refine zW_s rfl ?_
      refine zW_s rfl ?_
      refine zW_s rfl ?_
      have hp108 := h.1; replace h := h.2
      refine zW_p rfl hp108 ?_
      refine zW_s rfl ?_
      refine zW_s rfl ?_
      refine zW_s rfl ?_
      refine zW_p rfl hp108 ?_
      refine zW_s rfl ?_
      refine zW_s rfl ?_
      refine zW_p rfl hp108 ?_
      refine zW_s rfl ?_
      exact h
set_option maxHeartbeats 4000000 in
theorem b144 {d : Nat} {r0 : Nat} {x1 : Int32} {x2 : Int32} {σ : zH} {Q : Option Value → zH → Prop} (h : (zK σ r0 = 13) ∧ Q (some (.int (nI 0))) (zsI (zsI σ r0 16 x1) r0 17 x2)) : zM (d) 144 [.ref r0, .int x1, .int x2] σ Q := by
  unfold zM
  refine zW_s rfl ?_
  refine zW_s rfl ?_
  have hp101 := h.1; replace h := h.2
  refine zW_p rfl hp101 ?_
  refine zW_s rfl ?_
  refine zW_s rfl ?_
  refine zW_p rfl hp101 ?_
  refine zW_s rfl ?_
  refine zW_r rfl (by decide) ?_
  exact h
set_option maxHeartbeats 4000000 in
theorem b145 {d : Nat} {r0 : Nat} {σ : zH} {Q : Option Value → zH → Prop} (h : (zK σ r0 = 13) ∧ zM d 144 [.ref r0, .int (if ¬ (zI σ r0 13) = (nI 4) then nI 2 else nI 1), .int (zI σ r0 14)] σ (fun r σ103 => zqi r (fun x104 => (x104 = 0 ∨ x104 = 1) ∧ Q (some (.int x104)) σ103))) : zM (d + 1) 145 [.ref r0] σ Q := by
  unfold zM
  refine zW_s rfl ?_
  refine zW_s rfl ?_
  have hp101 := h.1; replace h := h.2
  refine zW_p rfl hp101 ?_
  refine zW_s rfl ?_
  refine zW_s rfl ?_
  have k : ∀ v : Int32, v = (if ¬ (zI σ r0 13) = (nI 4) then nI 2 else nI 1) → zW (d + 1) 145 14 [(0, .ref r0)] [.int v, .ref r0] σ Q := by
    intro v hv
    subst hv
    refine zW_s rfl ?_
    refine zW_p rfl hp101 ?_
    refine zW_c rfl hp101 (zM_m h ?_)
    intro r σ103 h
    replace h := zqi_e h
    obtain ⟨x104, rfl, h⟩ := h
    have hp105 := h.1; replace h := h.2
    refine zW_r rfl hp105 ?_
    exact h
  refine zW_if (fun (c102 : ¬ (zI σ r0 13) = (nI 4)) => ?_) (fun (c102 : ¬ (¬ (zI σ r0 13) = (nI 4))) => ?_)
  · replace k := k _ (if_pos c102).symm
    refine zW_s rfl ?_
    exact k
  · replace k := k _ (if_neg c102).symm
    refine zW_s rfl ?_
    refine zW_s rfl ?_
    exact k
set_option maxHeartbeats 4000000 in
theorem b146 {d : Nat} {r0 : Nat} {x1 : Int32} {σ : zH} {Q : Option Value → zH → Prop} (h : (zK σ r0 = 13) ∧ (if ¬ (zI σ r0 13) = (nI 3) then Q (some (.int (nI 0))) σ else Q (some (.int (if ¬ (zI σ r0 15) = x1 then nI 0 else nI 1))) σ)) : zM (d) 146 [.ref r0, .int x1] σ Q := by
  unfold zM
  refine zW_s rfl ?_
  have hp101 := h.1; replace h := h.2
  refine zW_p rfl hp101 ?_
  refine zW_s rfl ?_
  refine zW_s rfl ?_
  refine zW_if (fun (c102 : ¬ (zI σ r0 13) = (nI 3)) => ?_) (fun (c102 : ¬ (¬ (zI σ r0 13) = (nI 3))) => ?_)
  · rw [if_pos c102] at h
    refine zW_s rfl ?_
    refine zW_r rfl (by decide) ?_
    exact h
  · rw [if_neg c102] at h
    refine zW_s rfl ?_
    refine zW_p rfl hp101 ?_
    refine zW_s rfl ?_
    refine zW_s rfl ?_
    have k : ∀ v : Int32, v = (if ¬ (zI σ r0 15) = x1 then nI 0 else nI 1) → zW (d) 146 21 [(0, .ref r0), (1, .int x1)] [.int v] σ Q := by
      intro v hv
      subst hv
      refine zW_r rfl zb01 ?_
      exact h
    refine zW_if (fun (c103 : ¬ (zI σ r0 15) = x1) => ?_) (fun (c103 : ¬ (¬ (zI σ r0 15) = x1)) => ?_)
    · replace k := k _ (if_pos c103).symm
      refine zW_s rfl ?_
      exact k
    · replace k := k _ (if_neg c103).symm
      refine zW_s rfl ?_
      refine zW_s rfl ?_
      exact k
set_option maxHeartbeats 4000000 in
theorem b147 {d : Nat} {r0 : Nat} {x1 : Int32} {σ : zH} {Q : Option Value → zH → Prop} (h : (zK σ r0 = 13) ∧ zM d 146 [.ref r0, .int x1] σ (fun r σ102 => zqi r (fun x103 => (if ¬ x103 = 0 then (zK σ102 r0 = 13) ∧ zM d 142 [.ref r0] σ102 (fun r σ106 => zqv r (Q (some (.int (nI 1))) σ106)) else (zK σ102 r0 = 13) ∧ zM d 145 [.ref r0] σ102 (fun r σ108 => zqi r (fun x109 => (x109 = 0 ∨ x109 = 1) ∧ Q (some (.int x109)) σ108)))))) : zM (d + 1) 147 [.ref r0, .int x1] σ Q := by
  unfold zM
  refine zW_s rfl ?_
  refine zW_s rfl ?_
  have hp101 := h.1; replace h := h.2
  refine zW_c rfl hp101 (zM_m h ?_)
  intro r σ102 h
  replace h := zqi_e h
  obtain ⟨x103, rfl, h⟩ := h
  refine zW_s rfl ?_
  refine zW_if (fun (c104 : ¬ x103 = 0) => ?_) (fun (c104 : ¬ (¬ x103 = 0)) => ?_)
  · rw [if_pos c104] at h
    refine zW_s rfl ?_
    have hp105 := h.1; replace h := h.2
    refine zW_c rfl hp105 (zM_m h ?_)
    intro r σ106 h
    replace h := zqv_e h
    obtain ⟨rfl, h⟩ := h
    refine zW_s rfl ?_
    refine zW_r rfl (by decide) ?_
    exact h
  · rw [if_neg c104] at h
    refine zW_s rfl ?_
    have hp107 := h.1; replace h := h.2
    refine zW_c rfl hp107 (zM_m h ?_)
    intro r σ108 h
    replace h := zqi_e h
    obtain ⟨x109, rfl, h⟩ := h
    have hp110 := h.1; replace h := h.2
    refine zW_r rfl hp110 ?_
    exact h
set_option maxHeartbeats 4000000 in
theorem b148 {d : Nat} {r0 : Nat} {y1 : Int64} {σ : zH} {Q : Option Value → zH → Prop} (h : (zK σ r0 = 13) ∧ (if ¬ (zI σ r0 13) = (nI 1) then Q (some (.int (nI 0))) σ else Q (some (.int (if ¬ (lg_cmp (zJ σ r0 18) y1) = 0 then nI 0 else nI 1))) σ)) : zM (d) 148 [.ref r0, .long y1] σ Q := by
  unfold zM
  refine zW_s rfl ?_
  have hp101 := h.1; replace h := h.2
  refine zW_p rfl hp101 ?_
  refine zW_s rfl ?_
  refine zW_s rfl ?_
  refine zW_if (fun (c102 : ¬ (zI σ r0 13) = (nI 1)) => ?_) (fun (c102 : ¬ (¬ (zI σ r0 13) = (nI 1))) => ?_)
  · rw [if_pos c102] at h
    refine zW_s rfl ?_
    refine zW_r rfl (by decide) ?_
    exact h
  · rw [if_neg c102] at h
    refine zW_s rfl ?_
    refine zW_p rfl hp101 ?_
    refine zW_s rfl ?_
    refine zW_s rfl ?_
    refine zW_s rfl ?_
    have k : ∀ v : Int32, v = (if ¬ (lg_cmp (zJ σ r0 18) y1) = 0 then nI 0 else nI 1) → zW (d) 148 22 [(0, .ref r0), (1, .long y1)] [.int v] σ Q := by
      intro v hv
      subst hv
      refine zW_r rfl zb01 ?_
      exact h
    refine zW_if (fun (c103 : ¬ (lg_cmp (zJ σ r0 18) y1) = 0) => ?_) (fun (c103 : ¬ (¬ (lg_cmp (zJ σ r0 18) y1) = 0)) => ?_)
    · replace k := k _ (if_pos c103).symm
      refine zW_s rfl ?_
      exact k
    · replace k := k _ (if_neg c103).symm
      refine zW_s rfl ?_
      refine zW_s rfl ?_
      exact k
set_option maxHeartbeats 4000000 in
theorem b149 {d : Nat} {r0 : Nat} {y1 : Int64} {σ : zH} {Q : Option Value → zH → Prop} (h : (zK σ r0 = 13) ∧ zM d 148 [.ref r0, .long y1] σ (fun r σ102 => zqi r (fun x103 => (if ¬ x103 = 0 then (zK σ102 r0 = 13) ∧ zM d 142 [.ref r0] σ102 (fun r σ106 => zqv r (Q (some (.int (nI 1))) σ106)) else (zK σ102 r0 = 13) ∧ zM d 145 [.ref r0] σ102 (fun r σ108 => zqi r (fun x109 => (x109 = 0 ∨ x109 = 1) ∧ Q (some (.int x109)) σ108)))))) : zM (d + 1) 149 [.ref r0, .long y1] σ Q := by
  unfold zM
  refine zW_s rfl ?_
  refine zW_s rfl ?_
  have hp101 := h.1; replace h := h.2
  refine zW_c rfl hp101 (zM_m h ?_)
  intro r σ102 h
  replace h := zqi_e h
  obtain ⟨x103, rfl, h⟩ := h
  refine zW_s rfl ?_
  refine zW_if (fun (c104 : ¬ x103 = 0) => ?_) (fun (c104 : ¬ (¬ x103 = 0)) => ?_)
  · rw [if_pos c104] at h
    refine zW_s rfl ?_
    have hp105 := h.1; replace h := h.2
    refine zW_c rfl hp105 (zM_m h ?_)
    intro r σ106 h
    replace h := zqv_e h
    obtain ⟨rfl, h⟩ := h
    refine zW_s rfl ?_
    refine zW_r rfl (by decide) ?_
    exact h
  · rw [if_neg c104] at h
    refine zW_s rfl ?_
    have hp107 := h.1; replace h := h.2
    refine zW_c rfl hp107 (zM_m h ?_)
    intro r σ108 h
    replace h := zqi_e h
    obtain ⟨x109, rfl, h⟩ := h
    have hp110 := h.1; replace h := h.2
    refine zW_r rfl hp110 ?_
    exact h
set_option maxHeartbeats 4000000 in
theorem b150 {d : Nat} {r0 : Nat} {σ : zH} {Q : Option Value → zH → Prop} (h : (zK σ r0 = 13) ∧ (if ¬ (zI σ r0 13) = (nI 1) then zM d 145 [.ref r0] σ (fun r σ103 => zqi r (fun x104 => (x104 = 0 ∨ x104 = 1) ∧ Q (some (.int x104)) σ103)) else (if (lg_cmp (zJ σ r0 18) (lN 97)) < 0 then zM d 145 [.ref r0] σ (fun r σ107 => zqi r (fun x108 => (x108 = 0 ∨ x108 = 1) ∧ Q (some (.int x108)) σ107)) else (if (lg_cmp (zJ σ r0 18) (lN 100)) ≤ 0 then zM d 142 [.ref r0] (zsI σ r0 19 (((zJ σ r0 18).toInt32) - (nI 97))) (fun r σ111 => zqv r (Q (some (.int (nI 1))) σ111)) else zM d 145 [.ref r0] σ (fun r σ112 => zqi r (fun x113 => (x113 = 0 ∨ x113 = 1) ∧ Q (some (.int x113)) σ112)))))) : zM (d + 1) 150 [.ref r0] σ Q := by
  unfold zM
  refine zW_s rfl ?_
  have hp101 := h.1; replace h := h.2
  refine zW_p rfl hp101 ?_
  refine zW_s rfl ?_
  refine zW_s rfl ?_
  refine zW_if (fun (c102 : ¬ (zI σ r0 13) = (nI 1)) => ?_) (fun (c102 : ¬ (¬ (zI σ r0 13) = (nI 1))) => ?_)
  · rw [if_pos c102] at h
    refine zW_s rfl ?_
    refine zW_c rfl hp101 (zM_m h ?_)
    intro r σ103 h
    replace h := zqi_e h
    obtain ⟨x104, rfl, h⟩ := h
    have hp105 := h.1; replace h := h.2
    refine zW_r rfl hp105 ?_
    exact h
  · rw [if_neg c102] at h
    refine zW_s rfl ?_
    refine zW_p rfl hp101 ?_
    refine zW_s rfl ?_
    refine zW_s rfl ?_
    refine zW_s rfl ?_
    refine zW_if (fun (c106 : (lg_cmp (zJ σ r0 18) (lN 97)) < 0) => ?_) (fun (c106 : ¬ ((lg_cmp (zJ σ r0 18) (lN 97)) < 0)) => ?_)
    · rw [if_pos c106] at h
      refine zW_s rfl ?_
      refine zW_c rfl hp101 (zM_m h ?_)
      intro r σ107 h
      replace h := zqi_e h
      obtain ⟨x108, rfl, h⟩ := h
      have hp109 := h.1; replace h := h.2
      refine zW_r rfl hp109 ?_
      exact h
    · rw [if_neg c106] at h
      refine zW_s rfl ?_
      refine zW_p rfl hp101 ?_
      refine zW_s rfl ?_
      refine zW_s rfl ?_
      refine zW_s rfl ?_
      refine zW_if (fun (c110 : (lg_cmp (zJ σ r0 18) (lN 100)) ≤ 0) => ?_) (fun (c110 : ¬ ((lg_cmp (zJ σ r0 18) (lN 100)) ≤ 0)) => ?_)
      · rw [if_pos c110] at h
        refine zW_s rfl ?_
        refine zW_s rfl ?_
        refine zW_p rfl hp101 ?_
        refine zW_s rfl ?_
        refine zW_s rfl ?_
        refine zW_s rfl ?_
        refine zW_p rfl hp101 ?_
        refine zW_s rfl ?_
        refine zW_c rfl hp101 (zM_m h ?_)
        intro r σ111 h
        replace h := zqv_e h
        obtain ⟨rfl, h⟩ := h
        refine zW_s rfl ?_
        refine zW_r rfl (by decide) ?_
        exact h
      · rw [if_neg c110] at h
        refine zW_s rfl ?_
        refine zW_c rfl hp101 (zM_m h ?_)
        intro r σ112 h
        replace h := zqi_e h
        obtain ⟨x113, rfl, h⟩ := h
        have hp114 := h.1; replace h := h.2
        refine zW_r rfl hp114 ?_
        exact h
