set_option maxHeartbeats 4000000 in
theorem b53 {d : Nat} {r0 : Nat} {σ : zH} {Q : Option Value → zH → Prop} (h : (¬ zK σ r0 = 0) ∧ Q none σ) : zM (d + 1) 53 [.ref r0] σ Q := by
  unfold zM
  refine zW_s rfl ?_
  have hp101 := h.1; replace h := h.2
  refine zW_p rfl hp101 ?_
  refine zW_r rfl trivial ?_
  exact h
set_option maxHeartbeats 4000000 in
theorem b54 {d : Nat} {r0 : Nat} {σ : zH} {Q : Option Value → zH → Prop} (h : (zK σ r0 = 6) ∧ (if (zI σ r0 0) = (nI 6) then Q (some (.int (nI 1))) σ else Q (some (.int (if ¬ (zI σ r0 4) = (-1) then nI 0 else nI 1))) σ)) : zM (d) 54 [.ref r0] σ Q := by
  unfold zM
  refine zW_s rfl ?_
  have hp101 := h.1; replace h := h.2
  refine zW_p rfl hp101 ?_
  refine zW_s rfl ?_
  refine zW_s rfl ?_
  refine zW_if (fun (c102 : (zI σ r0 0) = (nI 6)) => ?_) (fun (c102 : ¬ ((zI σ r0 0) = (nI 6))) => ?_)
  · rw [if_pos c102] at h
    refine zW_s rfl ?_
    refine zW_s rfl ?_
    refine zW_r rfl (by decide) ?_
    exact h
  · rw [if_neg c102] at h
    refine zW_s rfl ?_
    refine zW_p rfl hp101 ?_
    refine zW_s rfl ?_
    refine zW_s rfl ?_
    have k : ∀ v : Int32, v = (if ¬ (zI σ r0 4) = (-1) then nI 0 else nI 1) → zW (d) 54 22 [(0, .ref r0)] [.int v] σ Q := by
      intro v hv
      subst hv
      refine zW_r rfl zb01 ?_
      exact h
    refine zW_if (fun (c103 : ¬ (zI σ r0 4) = (-1)) => ?_) (fun (c103 : ¬ (¬ (zI σ r0 4) = (-1))) => ?_)
    · replace k := k _ (if_pos c103).symm
      refine zW_s rfl ?_
      exact k
    · replace k := k _ (if_neg c103).symm
      refine zW_s rfl ?_
      refine zW_s rfl ?_
      exact k
set_option maxHeartbeats 4000000 in
theorem b55 {d : Nat} {r0 : Nat} {σ : zH} {Q : Option Value → zH → Prop} (h : (zK σ r0 = 6) ∧ (if (zI σ r0 0) = (nI 3) then Q (some (.int (nI 1))) σ else (if (zI σ r0 0) = (nI 5) then Q (some (.int (nI 1))) σ else Q (some (.int (if ¬ (zI σ r0 0) = (nI 10) then nI 0 else nI 1))) σ))) : zM (d) 55 [.ref r0] σ Q := by
  unfold zM
  refine zW_s rfl ?_
  have hp101 := h.1; replace h := h.2
  refine zW_p rfl hp101 ?_
  refine zW_s rfl ?_
  refine zW_s rfl ?_
  refine zW_if (fun (c102 : (zI σ r0 0) = (nI 3)) => ?_) (fun (c102 : ¬ ((zI σ r0 0) = (nI 3))) => ?_)
  · rw [if_pos c102] at h
    refine zW_s rfl ?_
    refine zW_s rfl ?_
    refine zW_r rfl (by decide) ?_
    exact h
  · rw [if_neg c102] at h
    refine zW_s rfl ?_
    refine zW_p rfl hp101 ?_
    refine zW_s rfl ?_
    refine zW_s rfl ?_
    refine zW_if (fun (c103 : (zI σ r0 0) = (nI 5)) => ?_) (fun (c103 : ¬ ((zI σ r0 0) = (nI 5))) => ?_)
    · rw [if_pos c103] at h
      refine zW_s rfl ?_
      refine zW_s rfl ?_
      refine zW_r rfl (by decide) ?_
      exact h
    · rw [if_neg c103] at h
      refine zW_s rfl ?_
      refine zW_p rfl hp101 ?_
      refine zW_s rfl ?_
      refine zW_s rfl ?_
      have k : ∀ v : Int32, v = (if ¬ (zI σ r0 0) = (nI 10) then nI 0 else nI 1) → zW (d) 55 30 [(0, .ref r0)] [.int v] σ Q := by
        intro v hv
        subst hv
        refine zW_r rfl zb01 ?_
        exact h
      refine zW_if (fun (c104 : ¬ (zI σ r0 0) = (nI 10)) => ?_) (fun (c104 : ¬ (¬ (zI σ r0 0) = (nI 10))) => ?_)
      · replace k := k _ (if_pos c104).symm
        refine zW_s rfl ?_
        exact k
      · replace k := k _ (if_neg c104).symm
        refine zW_s rfl ?_
        refine zW_s rfl ?_
        exact k
set_option maxHeartbeats 4000000 in
theorem b57 {d : Nat} {r0 : Nat} {r1 : Nat} {σ : zH} {Q : Option Value → zH → Prop} (h : (zK σ r0 = 7) ∧ zM d 58 [.ref r0] σ (fun r σ102 => zqv r ((zK σ102 r0 = 7) ∧ (zK σ102 (zQ σ102 r0 0) = 2) ∧ zW (d + 1) 57 14 [(0, .ref r0), (1, .ref r1), (2, .int ((zI σ102 (zQ σ102 r0 0) 4) - (nI 1)))] [] σ102 Q))) : zM (d + 1) 57 [.ref r0, .ref r1] σ Q := by
  unfold zM
  refine zW_s rfl ?_
  have hp101 := h.1; replace h := h.2
  refine zW_c rfl hp101 (zM_m h ?_)
  intro r σ102 h
  replace h := zqv_e h
  obtain ⟨rfl, h⟩ := h
  refine zW_s rfl ?_
  have hp103 := h.1; replace h := h.2
  refine zW_p rfl hp103 ?_
  have hp104 := h.1; replace h := h.2
  refine zW_p rfl hp104 ?_
  refine zW_s rfl ?_
  refine zW_s rfl ?_
  refine zW_s rfl ?_
  exact h
set_option maxHeartbeats 4000000 in
theorem b57_14 {d : Nat} {r0 : Nat} {r1 : Nat} {x2 : Int32} {σ : zH} {Q : Option Value → zH → Prop} (h : (if x2 < 0 then Q none σ else (zK σ r1 = 20) ∧ (vp_in x2 (zN σ r1)) ∧ (zK σ r0 = 7) ∧ zM d 70 [.ref r0, .int (nI 0), .int (zA σ r1 x2.toNatClampNeg)] σ (fun r σ105 => zqv r (zW (d + 1) 57 14 [(0, .ref r0), (1, .ref r1), (2, .int (x2 + (-1)))] [] σ105 Q)))) : zW (d + 1) 57 14 [(0, .ref r0), (1, .ref r1), (2, .int x2)] [] σ Q := by
  refine zW_s rfl ?_
  refine zW_s rfl ?_
  refine zW_if (fun (c101 : x2 < 0) => ?_) (fun (c101 : ¬ (x2 < 0)) => ?_)
  · rw [if_pos c101] at h
    refine zW_r rfl trivial ?_
    exact h
  · rw [if_neg c101] at h
    refine zW_s rfl ?_
    refine zW_s rfl ?_
    refine zW_s rfl ?_
    refine zW_s rfl ?_
    have hp102 := h.1; replace h := h.2
    have hp103 := h.1; replace h := h.2
    refine zW_p rfl ⟨hp102, hp103⟩ ?_
    have hp104 := h.1; replace h := h.2
    refine zW_c rfl hp104 (zM_m h ?_)
    intro r σ105 h
    replace h := zqv_e h
    obtain ⟨rfl, h⟩ := h
    refine zW_s rfl ?_
    refine zW_s rfl ?_
    exact h
set_option maxHeartbeats 4000000 in
theorem b58 {d : Nat} {r0 : Nat} {σ : zH} {Q : Option Value → zH → Prop} (h : (zK σ r0 = 7) ∧ zW (d) 58 7 [(0, .ref r0), (1, .int (nI 0))] [] (zsI σ r0 4 (nI 0)) Q) : zM (d) 58 [.ref r0] σ Q := by
  unfold zM
  refine zW_s rfl ?_
  refine zW_s rfl ?_
  have hp101 := h.1; replace h := h.2
  refine zW_p rfl hp101 ?_
  refine zW_s rfl ?_
  refine zW_s rfl ?_
  exact h
set_option maxHeartbeats 4000000 in
theorem b58_7 {d : Nat} {r0 : Nat} {x1 : Int32} {σ : zH} {Q : Option Value → zH → Prop} (h : (if (nI 4) ≤ x1 then Q none σ else (zK σ r0 = 7) ∧ (zK σ (zQ σ r0 3) = 20) ∧ (vp_in x1 (zN σ (zQ σ r0 3))) ∧ zW (d) 58 7 [(0, .ref r0), (1, .int (x1 + nI 1))] [] (zsA σ (zQ σ r0 3) x1.toNatClampNeg (nI 0)) Q)) : zW (d) 58 7 [(0, .ref r0), (1, .int x1)] [] σ Q := by
  refine zW_s rfl ?_
  refine zW_s rfl ?_
  refine zW_s rfl ?_
  refine zW_if (fun (c101 : (nI 4) ≤ x1) => ?_) (fun (c101 : ¬ ((nI 4) ≤ x1)) => ?_)
  · rw [if_pos c101] at h
    refine zW_r rfl trivial ?_
    exact h
  · rw [if_neg c101] at h
    refine zW_s rfl ?_
    have hp102 := h.1; replace h := h.2
    refine zW_p rfl hp102 ?_
    refine zW_s rfl ?_
    refine zW_s rfl ?_
    have hp103 := h.1; replace h := h.2
    have hp104 := h.1; replace h := h.2
    refine zW_p rfl ⟨hp103, hp104⟩ ?_
    refine zW_s rfl ?_
    refine zW_s rfl ?_
    exact h
set_option maxHeartbeats 4000000 in
theorem b59 {d : Nat} {r0 : Nat} {y1 : Int64} {σ : zH} {Q : Option Value → zH → Prop} (h : (zK σ r0 = 7) ∧ (zK σ (zQ σ r0 0) = 2) ∧ zW (d) 59 11 [(0, .ref r0), (1, .long y1), (3, .int (zI σ (zQ σ r0 0) 4)), (4, .int (nI 0))] [] σ Q) : zM (d) 59 [.ref r0, .long y1] σ Q := by
  unfold zM
  refine zW_s rfl ?_
  have hp101 := h.1; replace h := h.2
  refine zW_p rfl hp101 ?_
  have hp102 := h.1; replace h := h.2
  refine zW_p rfl hp102 ?_
  refine zW_s rfl ?_
  refine zW_s rfl ?_
  refine zW_s rfl ?_
  exact h
set_option maxHeartbeats 4000000 in
theorem b59_11 {d : Nat} {r0 : Nat} {y1 : Int64} {x3 : Int32} {x4 : Int32} {σ : zH} {Q : Option Value → zH → Prop} (h : (if (nI 3) ≤ x4 then (zK σ r0 = 7) ∧ (zK σ (zQ σ r0 3) = 20) ∧ (vp_in (nI 3) (zN σ (zQ σ r0 3))) ∧ zW (d) 59 78 [(0, .ref r0), (4, .long y1), (6, .int (nI 0))] [] (zsI (zsA σ (zQ σ r0 3) (nI 3).toNatClampNeg x3) r0 4 (((zlus y1 (nI 57)).toInt32) &&& (nI 15))) Q else (zK σ r0 = 7) ∧ (zK σ (zQ σ r0 3) = 20) ∧ (vp_in x4 (zN σ (zQ σ r0 3))) ∧ zW (d) 59 11 [(0, .ref r0), (1, .long y1), (3, .int (x3 - (zA (zsA σ (zQ σ r0 3) x4.toNatClampNeg (((zlus y1 ((nI 45) + ((nI 4) * x4))).toInt32) &&& (nI 15))) (zQ σ r0 3) x4.toNatClampNeg))), (4, .int (x4 + nI 1))] [] (zsA σ (zQ σ r0 3) x4.toNatClampNeg (((zlus y1 ((nI 45) + ((nI 4) * x4))).toInt32) &&& (nI 15))) Q)) : zW (d) 59 11 [(0, .ref r0), (1, .long y1), (3, .int x3), (4, .int x4)] [] σ Q := by
  refine zW_s rfl ?_
  refine zW_s rfl ?_
  refine zW_s rfl ?_
  refine zW_if (fun (c101 : (nI 3) ≤ x4) => ?_) (fun (c101 : ¬ ((nI 3) ≤ x4)) => ?_)
  · rw [if_pos c101] at h
    refine zW_s rfl ?_
    have hp102 := h.1; replace h := h.2
    refine zW_p rfl hp102 ?_
    refine zW_s rfl ?_
    refine zW_s rfl ?_
    have hp103 := h.1; replace h := h.2
    have hp104 := h.1; replace h := h.2
    refine zW_p rfl ⟨hp103, hp104⟩ ?_
    refine zW_s rfl ?_
    refine zW_s rfl ?_
    refine zW_s rfl ?_
    refine zW_s rfl ?_
    refine zW_s rfl ?_
    refine zW_s rfl ?_
    refine zW_s rfl ?_
    refine zW_p rfl hp102 ?_
    refine zW_s rfl ?_
    refine zW_s rfl ?_
    refine zW_s rfl ?_
    refine zW_s rfl ?_
    refine zW_k [0, 3, 4] rfl ?_
    exact h
  · rw [if_neg c101] at h
    refine zW_s rfl ?_
    have hp105 := h.1; replace h := h.2
    refine zW_p rfl hp105 ?_
    refine zW_s rfl ?_
    refine zW_s rfl ?_
    refine zW_s rfl ?_
    refine zW_s rfl ?_
    refine zW_s rfl ?_
    refine zW_s rfl ?_
    refine zW_s rfl ?_
    refine zW_s rfl ?_
    refine zW_s rfl ?_
    refine zW_s rfl ?_
    refine zW_s rfl ?_
    have hp106 := h.1; replace h := h.2
    have hp107 := h.1; replace h := h.2
    refine zW_p rfl ⟨hp106, hp107⟩ ?_
    refine zW_s rfl ?_
    refine zW_s rfl ?_
    refine zW_p rfl hp105 ?_
    refine zW_s rfl ?_
    refine zW_p rfl ⟨hp106, hp107⟩ ?_
    refine zW_s rfl ?_
    refine zW_s rfl ?_
    refine zW_s rfl ?_
    refine zW_s rfl ?_
    exact h
set_option maxHeartbeats 4000000 in
theorem b59_78 {d : Nat} {r0 : Nat} {y4 : Int64} {x6 : Int32} {σ : zH} {Q : Option Value → zH → Prop} (h : (if (nI 4) ≤ x6 then Q none σ else zW (d) 59 87 [(0, .ref r0), (4, .long y4), (6, .int x6), (7, .int (nI 0))] [] σ Q)) : zW (d) 59 78 [(0, .ref r0), (4, .long y4), (6, .int x6)] [] σ Q := by
  refine zW_s rfl ?_
  refine zW_s rfl ?_
  refine zW_s rfl ?_
  refine zW_if (fun (c101 : (nI 4) ≤ x6) => ?_) (fun (c101 : ¬ ((nI 4) ≤ x6)) => ?_)
  · rw [if_pos c101] at h
    refine zW_r rfl trivial ?_
    exact h
  · rw [if_neg c101] at h
    refine zW_s rfl ?_
    refine zW_s rfl ?_
    exact h
set_option maxHeartbeats 4000000 in
theorem b59_87 {d : Nat} {r0 : Nat} {y4 : Int64} {x6 : Int32} {x7 : Int32} {σ : zH} {Q : Option Value → zH → Prop} (h : (zK σ r0 = 7) ∧ (zK σ (zQ σ r0 3) = 20) ∧ (vp_in x6 (zN σ (zQ σ r0 3))) ∧ (if (zA σ (zQ σ r0 3) x6.toNatClampNeg) ≤ x7 then zW (d) 59 78 [(0, .ref r0), (4, .long y4), (6, .int (x6 + nI 1))] [] σ Q else (if (nI 16) ≤ x7 then zW (d) 59 78 [(0, .ref r0), (4, .long y4), (6, .int (x6 + nI 1))] [] σ Q else (zK σ (zQ σ r0 1) = 20) ∧ (vp_in ((x6 * (nI 16)) + x7) (zN σ (zQ σ r0 1))) ∧ zW (d) 59 87 [(0, .ref r0), (4, .long (zlus y4 (nI 5))), (6, .int x6), (7, .int (x7 + nI 1))] [] (zsA σ (zQ σ r0 1) ((x6 * (nI 16)) + x7).toNatClampNeg ((y4.toInt32) &&& (nI 31))) Q))) : zW (d) 59 87 [(0, .ref r0), (4, .long y4), (6, .int x6), (7, .int x7)] [] σ Q := by
  refine zW_s rfl ?_
  refine zW_s rfl ?_
  have hp101 := h.1; replace h := h.2
  refine zW_p rfl hp101 ?_
  refine zW_s rfl ?_
  have hp102 := h.1; replace h := h.2
  have hp103 := h.1; replace h := h.2
  refine zW_p rfl ⟨hp102, hp103⟩ ?_
  refine zW_s rfl ?_
  refine zW_if (fun (c104 : (zA σ (zQ σ r0 3) x6.toNatClampNeg) ≤ x7) => ?_) (fun (c104 : ¬ ((zA σ (zQ σ r0 3) x6.toNatClampNeg) ≤ x7)) => ?_)
  · rw [if_pos c104] at h
    refine zW_s rfl ?_
    refine zW_s rfl ?_
    refine zW_k [0, 1, 2] rfl ?_
    exact h
  · rw [if_neg c104] at h
    refine zW_s rfl ?_
    refine zW_s rfl ?_
    refine zW_s rfl ?_
    refine zW_if (fun (c105 : (nI 16) ≤ x7) => ?_) (fun (c105 : ¬ ((nI 16) ≤ x7)) => ?_)
    · rw [if_pos c105] at h
      refine zW_s rfl ?_
      refine zW_s rfl ?_
      refine zW_k [0, 1, 2] rfl ?_
      exact h
    · rw [if_neg c105] at h
      refine zW_s rfl ?_
      refine zW_p rfl hp101 ?_
      refine zW_s rfl ?_
      refine zW_s rfl ?_
      refine zW_s rfl ?_
      refine zW_s rfl ?_
      refine zW_s rfl ?_
      refine zW_s rfl ?_
      refine zW_s rfl ?_
      refine zW_s rfl ?_
      refine zW_s rfl ?_
      have hp106 := h.1; replace h := h.2
      have hp107 := h.1; replace h := h.2
      refine zW_p rfl ⟨hp106, hp107⟩ ?_
      refine zW_s rfl ?_
      refine zW_s rfl ?_
      refine zW_s rfl ?_
      refine zW_s rfl ?_
      refine zW_s rfl ?_
      refine zW_s rfl ?_
      exact h
set_option maxHeartbeats 4000000 in
theorem b60 {d : Nat} {r0 : Nat} {σ : zH} {Q : Option Value → zH → Prop} (h : (zK σ r0 = 7) ∧ zW (d) 60 14 [(0, .ref r0), (1, .long (zlsl ((zI σ r0 4).toInt64) (nI 57))), (3, .int (nI 0)), (4, .int (nI 0))] [] σ Q) : zM (d) 60 [.ref r0] σ Q := by
  unfold zM
  refine zW_s rfl ?_
  have hp101 := h.1; replace h := h.2
  refine zW_p rfl hp101 ?_
  refine zW_s rfl ?_
  refine zW_s rfl ?_
  refine zW_s rfl ?_
  refine zW_s rfl ?_
  refine zW_s rfl ?_
  refine zW_s rfl ?_
  refine zW_s rfl ?_
  refine zW_s rfl ?_
  exact h
set_option maxHeartbeats 4000000 in
theorem b60_14 {d : Nat} {r0 : Nat} {y1 : Int64} {x3 : Int32} {x4 : Int32} {σ : zH} {Q : Option Value → zH → Prop} (h : (if (nI 4) ≤ x4 then Q (some (.long y1)) σ else (if (nI 3) ≤ x4 then zW (d) 60 48 [(0, .ref r0), (1, .long y1), (3, .int x3), (4, .int x4), (5, .int (nI 0))] [] σ Q else (zK σ r0 = 7) ∧ (zK σ (zQ σ r0 3) = 20) ∧ (vp_in x4 (zN σ (zQ σ r0 3))) ∧ zW (d) 60 48 [(0, .ref r0), (1, .long (y1 ||| (zlsl ((zA σ (zQ σ r0 3) x4.toNatClampNeg).toInt64) ((nI 45) + ((nI 4) * x4))))), (3, .int x3), (4, .int x4), (5, .int (nI 0))] [] σ Q))) : zW (d) 60 14 [(0, .ref r0), (1, .long y1), (3, .int x3), (4, .int x4)] [] σ Q := by
  refine zW_s rfl ?_
  refine zW_s rfl ?_
  refine zW_s rfl ?_
  refine zW_if (fun (c101 : (nI 4) ≤ x4) => ?_) (fun (c101 : ¬ ((nI 4) ≤ x4)) => ?_)
  · rw [if_pos c101] at h
    refine zW_s rfl ?_
    refine zW_r rfl trivial ?_
    exact h
  · rw [if_neg c101] at h
    refine zW_s rfl ?_
    refine zW_s rfl ?_
    refine zW_s rfl ?_
    refine zW_if (fun (c102 : (nI 3) ≤ x4) => ?_) (fun (c102 : ¬ ((nI 3) ≤ x4)) => ?_)
    · rw [if_pos c102] at h
      refine zW_s rfl ?_
      refine zW_s rfl ?_
      exact h
    · rw [if_neg c102] at h
      refine zW_s rfl ?_
      refine zW_s rfl ?_
      have hp103 := h.1; replace h := h.2
      refine zW_p rfl hp103 ?_
      refine zW_s rfl ?_
      have hp104 := h.1; replace h := h.2
      have hp105 := h.1; replace h := h.2
      refine zW_p rfl ⟨hp104, hp105⟩ ?_
      refine zW_s rfl ?_
      refine zW_s rfl ?_
      refine zW_s rfl ?_
      refine zW_s rfl ?_
      refine zW_s rfl ?_
      refine zW_s rfl ?_
      refine zW_s rfl ?_
      refine zW_s rfl ?_
      refine zW_s rfl ?_
      refine zW_s rfl ?_
      refine zW_s rfl ?_
      exact h
set_option maxHeartbeats 4000000 in
theorem b60_48 {d : Nat} {r0 : Nat} {y1 : Int64} {x3 : Int32} {x4 : Int32} {x5 : Int32} {σ : zH} {Q : Option Value → zH → Prop} (h : (zK σ r0 = 7) ∧ (zK σ (zQ σ r0 3) = 20) ∧ (vp_in x4 (zN σ (zQ σ r0 3))) ∧ (if (zA σ (zQ σ r0 3) x4.toNatClampNeg) ≤ x5 then zW (d) 60 14 [(0, .ref r0), (1, .long y1), (3, .int x3), (4, .int (x4 + nI 1))] [] σ Q else (if (nI 16) ≤ x5 then zW (d) 60 14 [(0, .ref r0), (1, .long y1), (3, .int x3), (4, .int (x4 + nI 1))] [] σ Q else (zK σ (zQ σ r0 1) = 20) ∧ (vp_in ((x4 * (nI 16)) + x5) (zN σ (zQ σ r0 1))) ∧ zW (d) 60 48 [(0, .ref r0), (1, .long (y1 ||| (zlsl ((zA σ (zQ σ r0 1) ((x4 * (nI 16)) + x5).toNatClampNeg).toInt64) x3))), (3, .int (x3 + nI 5)), (4, .int x4), (5, .int (x5 + nI 1))] [] σ Q))) : zW (d) 60 48 [(0, .ref r0), (1, .long y1), (3, .int x3), (4, .int x4), (5, .int x5)] [] σ Q := by
  refine zW_s rfl ?_
  refine zW_s rfl ?_
  have hp101 := h.1; replace h := h.2
  refine zW_p rfl hp101 ?_
  refine zW_s rfl ?_
  have hp102 := h.1; replace h := h.2
  have hp103 := h.1; replace h := h.2
  refine zW_p rfl ⟨hp102, hp103⟩ ?_
  refine zW_s rfl ?_
  refine zW_if (fun (c104 : (zA σ (zQ σ r0 3) x4.toNatClampNeg) ≤ x5) => ?_) (fun (c104 : ¬ ((zA σ (zQ σ r0 3) x4.toNatClampNeg) ≤ x5)) => ?_)
  · rw [if_pos c104] at h
    refine zW_s rfl ?_
    refine zW_s rfl ?_
    refine zW_k [0, 1, 2, 3] rfl ?_
    exact h
  · rw [if_neg c104] at h
    refine zW_s rfl ?_
    refine zW_s rfl ?_
    refine zW_s rfl ?_
    refine zW_if (fun (c105 : (nI 16) ≤ x5) => ?_) (fun (c105 : ¬ ((nI 16) ≤ x5)) => ?_)
    · rw [if_pos c105] at h
      refine zW_s rfl ?_
      refine zW_s rfl ?_
      refine zW_k [0, 1, 2, 3] rfl ?_
      exact h
    · rw [if_neg c105] at h
      refine zW_s rfl ?_
      refine zW_s rfl ?_
      refine zW_p rfl hp101 ?_
      refine zW_s rfl ?_
      refine zW_s rfl ?_
      refine zW_s rfl ?_
      refine zW_s rfl ?_
      refine zW_s rfl ?_
      have hp106 := h.1; replace h := h.2
      have hp107 := h.1; replace h := h.2
      refine zW_p rfl ⟨hp106, hp107⟩ ?_
      refine zW_s rfl ?_
      refine zW_s rfl ?_
      refine zW_s rfl ?_
      refine zW_s rfl ?_
      refine zW_s rfl ?_
      refine zW_s rfl ?_
      refine zW_s rfl ?_
      refine zW_s rfl ?_
      exact h
set_option maxHeartbeats 4000000 in
theorem b61 {d : Nat} {r0 : Nat} {x1 : Int32} {x2 : Int32} {σ : zH} {Q : Option Value → zH → Prop} (h : (if x1 < 0 then Q (some (.int (nI 0))) σ else (if (nI 4) ≤ x1 then Q (some (.int (nI 0))) σ else (if x2 < (nI 1) then Q (some (.int (nI 0))) σ else (zK σ r0 = 7) ∧ (zK σ (zQ σ r0 3) = 20) ∧ (vp_in x1 (zN σ (zQ σ r0 3))) ∧ (if x2 ≤ (zA σ (zQ σ r0 3) x1.toNatClampNeg) then (zK σ (zQ σ r0 1) = 20) ∧ (vp_in (((x1 * (nI 16)) + (zA σ (zQ σ r0 3) x1.toNatClampNeg)) - x2) (zN σ (zQ σ r0 1))) ∧ Q (some (.int (zA σ (zQ σ r0 1) (((x1 * (nI 16)) + (zA σ (zQ σ r0 3) x1.toNatClampNeg)) - x2).toNatClampNeg))) σ else Q (some (.int (nI 0))) σ))))) : zM (d) 61 [.ref r0, .int x1, .int x2] σ Q := by
  unfold zM
  refine zW_s rfl ?_
  refine zW_s rfl ?_
  refine zW_if (fun (c101 : x1 < 0) => ?_) (fun (c101 : ¬ (x1 < 0)) => ?_)
  · rw [if_pos c101] at h
    refine zW_s rfl ?_
    refine zW_r rfl trivial ?_
    exact h
  · rw [if_neg c101] at h
    refine zW_s rfl ?_
    refine zW_s rfl ?_
    refine zW_s rfl ?_
    refine zW_if (fun (c102 : (nI 4) ≤ x1) => ?_) (fun (c102 : ¬ ((nI 4) ≤ x1)) => ?_)
    · rw [if_pos c102] at h
      refine zW_s rfl ?_
      refine zW_r rfl trivial ?_
      exact h
    · rw [if_neg c102] at h
      refine zW_s rfl ?_
      refine zW_s rfl ?_
      refine zW_s rfl ?_
      refine zW_if (fun (c103 : x2 < (nI 1)) => ?_) (fun (c103 : ¬ (x2 < (nI 1))) => ?_)
      · rw [if_pos c103] at h
        refine zW_s rfl ?_
        refine zW_r rfl trivial ?_
        exact h
      · rw [if_neg c103] at h
        refine zW_s rfl ?_
        refine zW_s rfl ?_
        have hp104 := h.1; replace h := h.2
        refine zW_p rfl hp104 ?_
        refine zW_s rfl ?_
        have hp105 := h.1; replace h := h.2
        have hp106 := h.1; replace h := h.2
        refine zW_p rfl ⟨hp105, hp106⟩ ?_
        refine zW_s rfl ?_
        refine zW_if (fun (c107 : x2 ≤ (zA σ (zQ σ r0 3) x1.toNatClampNeg)) => ?_) (fun (c107 : ¬ (x2 ≤ (zA σ (zQ σ r0 3) x1.toNatClampNeg))) => ?_)
        · rw [if_pos c107] at h
          refine zW_s rfl ?_
          refine zW_p rfl hp104 ?_
          refine zW_s rfl ?_
          refine zW_s rfl ?_
          refine zW_s rfl ?_
          refine zW_s rfl ?_
          refine zW_p rfl hp104 ?_
          refine zW_s rfl ?_
          refine zW_p rfl ⟨hp105, hp106⟩ ?_
          refine zW_s rfl ?_
          refine zW_s rfl ?_
          refine zW_s rfl ?_
          have hp108 := h.1; replace h := h.2
          have hp109 := h.1; replace h := h.2
          refine zW_p rfl ⟨hp108, hp109⟩ ?_
          refine zW_r rfl trivial ?_
          exact h
        · rw [if_neg c107] at h
          refine zW_s rfl ?_
          refine zW_r rfl trivial ?_
          exact h
set_option maxHeartbeats 4000000 in
theorem b62 {d : Nat} {r0 : Nat} {x1 : Int32} {σ : zH} {Q : Option Value → zH → Prop} (h : zW (d + 1) 62 4 [(0, .ref r0), (1, .int x1), (2, .int (nI 0)), (3, .int (nI 1))] [] σ Q) : zM (d + 1) 62 [.ref r0, .int x1] σ Q := by
  unfold zM
  refine zW_s rfl ?_
  refine zW_s rfl ?_
  refine zW_s rfl ?_
  refine zW_s rfl ?_
  exact h
set_option maxHeartbeats 4000000 in
theorem b62_4 {d : Nat} {r0 : Nat} {x1 : Int32} {x2 : Int32} {x3 : Int32} {σ : zH} {Q : Option Value → zH → Prop} (h : (zK σ r0 = 7) ∧ (zK σ (zQ σ r0 3) = 20) ∧ (vp_in x1 (zN σ (zQ σ r0 3))) ∧ (if (zA σ (zQ σ r0 3) x1.toNatClampNeg) < x3 then Q (some (.int x2)) σ else zM d 61 [.ref r0, .int x1, .int x3] σ (fun r σ105 => zqi r (fun x106 => (zK σ105 (zQ σ r0 0) = 2) ∧ zM d 13 [.ref (zQ σ r0 0), .int (nI 34), .int x106] σ105 (fun r σ108 => zqi r (fun x109 => zW (d + 1) 62 4 [(0, .ref r0), (1, .int x1), (2, .int (x2 + x109)), (3, .int (x3 + nI 1))] [] σ108 Q)))))) : zW (d + 1) 62 4 [(0, .ref r0), (1, .int x1), (2, .int x2), (3, .int x3)] [] σ Q := by
  refine zW_s rfl ?_
  refine zW_s rfl ?_
  have hp101 := h.1; replace h := h.2
  refine zW_p rfl hp101 ?_
  refine zW_s rfl ?_
  have hp102 := h.1; replace h := h.2
  have hp103 := h.1; replace h := h.2
  refine zW_p rfl ⟨hp102, hp103⟩ ?_
  refine zW_s rfl ?_
  refine zW_if (fun (c104 : (zA σ (zQ σ r0 3) x1.toNatClampNeg) < x3) => ?_) (fun (c104 : ¬ ((zA σ (zQ σ r0 3) x1.toNatClampNeg) < x3)) => ?_)
  · rw [if_pos c104] at h
    refine zW_s rfl ?_
    refine zW_r rfl trivial ?_
    exact h
  · rw [if_neg c104] at h
    refine zW_s rfl ?_
    refine zW_s rfl ?_
    refine zW_p rfl hp101 ?_
    refine zW_s rfl ?_
    refine zW_s rfl ?_
    refine zW_s rfl ?_
    refine zW_s rfl ?_
    refine zW_c rfl hp101 (zM_m h ?_)
    intro r σ105 h
    replace h := zqi_e h
    obtain ⟨x106, rfl, h⟩ := h
    have hp107 := h.1; replace h := h.2
    refine zW_c rfl hp107 (zM_m h ?_)
    intro r σ108 h
    replace h := zqi_e h
    obtain ⟨x109, rfl, h⟩ := h
    refine zW_s rfl ?_
    refine zW_s rfl ?_
    refine zW_s rfl ?_
    refine zW_s rfl ?_
    exact h
set_option maxHeartbeats 4000000 in
theorem b63 {d : Nat} {r0 : Nat} {x1 : Int32} {σ : zH} {Q : Option Value → zH → Prop} (h : zW (d + 1) 63 2 [(0, .ref r0), (1, .int x1), (2, .int (nI 1))] [] σ Q) : zM (d + 1) 63 [.ref r0, .int x1] σ Q := by
  unfold zM
  refine zW_s rfl ?_
  refine zW_s rfl ?_
  exact h
set_option maxHeartbeats 4000000 in
theorem b63_2 {d : Nat} {r0 : Nat} {x1 : Int32} {x2 : Int32} {σ : zH} {Q : Option Value → zH → Prop} (h : (zK σ r0 = 7) ∧ (zK σ (zQ σ r0 3) = 20) ∧ (vp_in x1 (zN σ (zQ σ r0 3))) ∧ (if (zA σ (zQ σ r0 3) x1.toNatClampNeg) < x2 then Q (some (.int (nI 0))) σ else zM d 61 [.ref r0, .int x1, .int x2] σ (fun r σ105 => zqi r (fun x106 => (zK σ105 (zQ σ r0 0) = 2) ∧ zM d 13 [.ref (zQ σ r0 0), .int (nI 30), .int x106] σ105 (fun r σ108 => zqi r (fun x109 => (zK σ108 r0 = 7) ∧ (if ¬ x109 = (zI σ108 r0 4) then zW (d + 1) 63 2 [(0, .ref r0), (1, .int x1), (2, .int (x2 + nI 1))] [] σ108 Q else Q (some (.int x2)) σ108))))))) : zW (d + 1) 63 2 [(0, .ref r0), (1, .int x1), (2, .int x2)] [] σ Q := by
  refine zW_s rfl ?_
  refine zW_s rfl ?_
  have hp101 := h.1; replace h := h.2
  refine zW_p rfl hp101 ?_
  refine zW_s rfl ?_
  have hp102 := h.1; replace h := h.2
  have hp103 := h.1; replace h := h.2
  refine zW_p rfl ⟨hp102, hp103⟩ ?_
  refine zW_s rfl ?_
  refine zW_if (fun (c104 : (zA σ (zQ σ r0 3) x1.toNatClampNeg) < x2) => ?_) (fun (c104 : ¬ ((zA σ (zQ σ r0 3) x1.toNatClampNeg) < x2)) => ?_)
  · rw [if_pos c104] at h
    refine zW_s rfl ?_
    refine zW_r rfl trivial ?_
    exact h
  · rw [if_neg c104] at h
    refine zW_s rfl ?_
    refine zW_p rfl hp101 ?_
    refine zW_s rfl ?_
    refine zW_s rfl ?_
    refine zW_s rfl ?_
    refine zW_s rfl ?_
    refine zW_c rfl hp101 (zM_m h ?_)
    intro r σ105 h
    replace h := zqi_e h
    obtain ⟨x106, rfl, h⟩ := h
    have hp107 := h.1; replace h := h.2
    refine zW_c rfl hp107 (zM_m h ?_)
    intro r σ108 h
    replace h := zqi_e h
    obtain ⟨x109, rfl, h⟩ := h
    refine zW_s rfl ?_
    have hp110 := h.1; replace h := h.2
    refine zW_p rfl hp110 ?_
    refine zW_s rfl ?_
    refine zW_if (fun (c111 : ¬ x109 = (zI σ108 r0 4)) => ?_) (fun (c111 : ¬ (¬ x109 = (zI σ108 r0 4))) => ?_)
    · rw [if_pos c111] at h
      refine zW_s rfl ?_
      refine zW_s rfl ?_
      exact h
    · rw [if_neg c111] at h
      refine zW_s rfl ?_
      refine zW_r rfl trivial ?_
      exact h
set_option maxHeartbeats 4000000 in
theorem b64 {d : Nat} {r0 : Nat} {x1 : Int32} {x2 : Int32} {σ : zH} {Q : Option Value → zH → Prop} (h : (zK σ r0 = 7) ∧ zM d 61 [.ref r0, .int x1, .int (nI 1)] σ (fun r σ102 => zqi r (fun x103 => (zK σ102 (zQ σ r0 0) = 2) ∧ zM d 13 [.ref (zQ σ r0 0), .int x2, .int x103] σ102 (fun r σ105 => zqi r (fun x106 => zW (d + 1) 64 18 [(0, .ref r0), (1, .int x1), (2, .int x2), (3, .int x106), (4, .int (nI 2))] [] σ105 Q))))) : zM (d + 1) 64 [.ref r0, .int x1, .int x2] σ Q := by
  unfold zM
  refine zW_s rfl ?_
  have hp101 := h.1; replace h := h.2
  refine zW_p rfl hp101 ?_
  refine zW_s rfl ?_
  refine zW_s rfl ?_
  refine zW_s rfl ?_
  refine zW_s rfl ?_
  refine zW_c rfl hp101 (zM_m h ?_)
  intro r σ102 h
  replace h := zqi_e h
  obtain ⟨x103, rfl, h⟩ := h
  have hp104 := h.1; replace h := h.2
  refine zW_c rfl hp104 (zM_m h ?_)
  intro r σ105 h
  replace h := zqi_e h
  obtain ⟨x106, rfl, h⟩ := h
  refine zW_s rfl ?_
  refine zW_s rfl ?_
  refine zW_s rfl ?_
  exact h
set_option maxHeartbeats 4000000 in
theorem b64_18 {d : Nat} {r0 : Nat} {x1 : Int32} {x2 : Int32} {x3 : Int32} {x4 : Int32} {σ : zH} {Q : Option Value → zH → Prop} (h : (zK σ r0 = 7) ∧ (zK σ (zQ σ r0 3) = 20) ∧ (vp_in x1 (zN σ (zQ σ r0 3))) ∧ (if (zA σ (zQ σ r0 3) x1.toNatClampNeg) < x4 then Q (some (.int (nI 1))) σ else zM d 61 [.ref r0, .int x1, .int x4] σ (fun r σ105 => zqi r (fun x106 => (zK σ105 (zQ σ r0 0) = 2) ∧ zM d 13 [.ref (zQ σ r0 0), .int x2, .int x106] σ105 (fun r σ108 => zqi r (fun x109 => (if x109 = x3 then zW (d + 1) 64 18 [(0, .ref r0), (1, .int x1), (2, .int x2), (3, .int x3), (4, .int (x4 + nI 1))] [] σ108 Q else Q (some (.int (nI 0))) σ108))))))) : zW (d + 1) 64 18 [(0, .ref r0), (1, .int x1), (2, .int x2), (3, .int x3), (4, .int x4)] [] σ Q := by
  refine zW_s rfl ?_
  refine zW_s rfl ?_
  have hp101 := h.1; replace h := h.2
  refine zW_p rfl hp101 ?_
  refine zW_s rfl ?_
  have hp102 := h.1; replace h := h.2
  have hp103 := h.1; replace h := h.2
  refine zW_p rfl ⟨hp102, hp103⟩ ?_
  refine zW_s rfl ?_
  refine zW_if (fun (c104 : (zA σ (zQ σ r0 3) x1.toNatClampNeg) < x4) => ?_) (fun (c104 : ¬ ((zA σ (zQ σ r0 3) x1.toNatClampNeg) < x4)) => ?_)
  · rw [if_pos c104] at h
    refine zW_s rfl ?_
    refine zW_r rfl (by decide) ?_
    exact h
  · rw [if_neg c104] at h
    refine zW_s rfl ?_
    refine zW_p rfl hp101 ?_
    refine zW_s rfl ?_
    refine zW_s rfl ?_
    refine zW_s rfl ?_
    refine zW_s rfl ?_
    refine zW_c rfl hp101 (zM_m h ?_)
    intro r σ105 h
    replace h := zqi_e h
    obtain ⟨x106, rfl, h⟩ := h
    have hp107 := h.1; replace h := h.2
    refine zW_c rfl hp107 (zM_m h ?_)
    intro r σ108 h
    replace h := zqi_e h
    obtain ⟨x109, rfl, h⟩ := h
    refine zW_s rfl ?_
    refine zW_s rfl ?_
    refine zW_if (fun (c110 : x109 = x3) => ?_) (fun (c110 : ¬ (x109 = x3)) => ?_)
    · rw [if_pos c110] at h
      refine zW_s rfl ?_
      refine zW_s rfl ?_
      exact h
    · rw [if_neg c110] at h
      refine zW_s rfl ?_
      refine zW_r rfl (by decide) ?_
      exact h
set_option maxHeartbeats 4000000 in
theorem b65 {d : Nat} {r0 : Nat} {x1 : Int32} {x2 : Int32} {x3 : Int32} {σ : zH} {Q : Option Value → zH → Prop} (h : zW (d + 1) 65 12 [(0, .ref r0), (1, .int x1), (2, .int x2), (3, .int x3), (4, .int (nI 0)), (5, .int (nI 0)), (6, .int (nI 0)), (7, .int (nI 1))] [] σ Q) : zM (d + 1) 65 [.ref r0, .int x1, .int x2, .int x3] σ Q := by
  unfold zM
  refine zW_s rfl ?_
  refine zW_s rfl ?_
  refine zW_s rfl ?_
  refine zW_s rfl ?_
  refine zW_s rfl ?_
  refine zW_s rfl ?_
  refine zW_s rfl ?_
  refine zW_s rfl ?_
  exact h
set_option maxHeartbeats 4000000 in
theorem b65_12 {d : Nat} {r0 : Nat} {x1 : Int32} {x2 : Int32} {x3 : Int32} {x4 : Int32} {x5 : Int32} {x6 : Int32} {x7 : Int32} {σ : zH} {Q : Option Value → zH → Prop} (h : (zK σ r0 = 7) ∧ (zK σ (zQ σ r0 3) = 20) ∧ (vp_in x1 (zN σ (zQ σ r0 3))) ∧ (if (zA σ (zQ σ r0 3) x1.toNatClampNeg) < x7 then Q (some (.int (nI 1))) σ else zM d 61 [.ref r0, .int x1, .int x7] σ (fun r σ105 => zqi r (fun x106 => (zK σ105 (zQ σ r0 0) = 2) ∧ zM d 13 [.ref (zQ σ r0 0), .int x2, .int x106] σ105 (fun r σ108 => zqi r (fun x109 => (if ¬ x6 = 0 then zW (d + 1) 65 60 [(0, .ref r0), (1, .int x1), (2, .int x2), (3, .int x3), (4, .int x4), (5, .int x5), (7, .int x7), (8, .int ((nI 1) <<< (x109 &&& 31)))] [.int (nI 1)] σ108 Q else (if ¬ (x5 + nI 1) = x3 then zW (d + 1) 65 12 [(0, .ref r0), (1, .int x1), (2, .int x2), (3, .int x3), (4, .int (x4 ||| ((nI 1) <<< (x109 &&& 31)))), (5, .int (x5 + nI 1)), (6, .int (if (x4 &&& ((nI 1) <<< (x109 &&& 31))) = 0 then nI 0 else nI 1)), (7, .int (x7 + nI 1))] [] σ108 Q else (if (if (x4 &&& ((nI 1) <<< (x109 &&& 31))) = 0 then nI 0 else nI 1) = 0 then zW (d + 1) 65 12 [(0, .ref r0), (1, .int x1), (2, .int x2), (3, .int x3), (4, .int (nI 0)), (5, .int (nI 0)), (6, .int (if (x4 &&& ((nI 1) <<< (x109 &&& 31))) = 0 then nI 0 else nI 1)), (7, .int (x7 + nI 1))] [] σ108 Q else Q (some (.int (nI 0))) σ108))))))))) : zW (d + 1) 65 12 [(0, .ref r0), (1, .int x1), (2, .int x2), (3, .int x3), (4, .int x4), (5, .int x5), (6, .int x6), (7, .int x7)] [] σ Q := by
  refine zW_s rfl ?_
  refine zW_s rfl ?_
  have hp101 := h.1; replace h := h.2
  refine zW_p rfl hp101 ?_
  refine zW_s rfl ?_
  have hp102 := h.1; replace h := h.2
  have hp103 := h.1; replace h := h.2
  refine zW_p rfl ⟨hp102, hp103⟩ ?_
  refine zW_s rfl ?_
  refine zW_if (fun (c104 : (zA σ (zQ σ r0 3) x1.toNatClampNeg) < x7) => ?_) (fun (c104 : ¬ ((zA σ (zQ σ r0 3) x1.toNatClampNeg) < x7)) => ?_)
  · rw [if_pos c104] at h
    refine zW_s rfl ?_
    refine zW_r rfl (by decide) ?_
    exact h
  · rw [if_neg c104] at h
    refine zW_s rfl ?_
    refine zW_s rfl ?_
    refine zW_p rfl hp101 ?_
    refine zW_s rfl ?_
    refine zW_s rfl ?_
    refine zW_s rfl ?_
    refine zW_s rfl ?_
    refine zW_c rfl hp101 (zM_m h ?_)
    intro r σ105 h
    replace h := zqi_e h
    obtain ⟨x106, rfl, h⟩ := h
    have hp107 := h.1; replace h := h.2
    refine zW_c rfl hp107 (zM_m h ?_)
    intro r σ108 h
    replace h := zqi_e h
    obtain ⟨x109, rfl, h⟩ := h
    refine zW_s rfl ?_
    refine zW_s rfl ?_
    refine zW_s rfl ?_
    refine zW_s rfl ?_
    refine zW_if (fun (c110 : ¬ x6 = 0) => ?_) (fun (c110 : ¬ (¬ x6 = 0)) => ?_)
    · rw [if_pos c110] at h
      refine zW_s rfl ?_
      refine zW_s rfl ?_
      refine zW_k [0, 1, 2, 3, 4, 5, 7, 8] rfl ?_
      exact h
    · rw [if_neg c110] at h
      refine zW_s rfl ?_
      refine zW_s rfl ?_
      refine zW_s rfl ?_
      refine zW_s rfl ?_
      have k : ∀ v : Int32, v = (if (x4 &&& ((nI 1) <<< (x109 &&& 31))) = 0 then nI 0 else nI 1) → zW (d + 1) 65 60 [(0, .ref r0), (1, .int x1), (2, .int x2), (3, .int x3), (4, .int x4), (5, .int x5), (6, .int x6), (7, .int x7), (8, .int ((nI 1) <<< (x109 &&& 31)))] [.int v] σ108 Q := by
        intro v hv
        subst hv
        refine zW_s rfl ?_
        refine zW_s rfl ?_
        refine zW_s rfl ?_
        refine zW_s rfl ?_
        refine zW_s rfl ?_
        refine zW_s rfl ?_
        refine zW_s rfl ?_
        refine zW_s rfl ?_
        refine zW_s rfl ?_
        refine zW_if (fun (c112 : ¬ (x5 + nI 1) = x3) => ?_) (fun (c112 : ¬ (¬ (x5 + nI 1) = x3)) => ?_)
        · rw [if_pos c112] at h
          refine zW_s rfl ?_
          refine zW_s rfl ?_
          refine zW_k [0, 1, 2, 3, 4, 5, 6, 7] rfl ?_
          exact h
        · rw [if_neg c112] at h
          refine zW_s rfl ?_
          refine zW_s rfl ?_
          refine zW_if (fun (c113 : (if (x4 &&& ((nI 1) <<< (x109 &&& 31))) = 0 then nI 0 else nI 1) = 0) => ?_) (fun (c113 : ¬ ((if (x4 &&& ((nI 1) <<< (x109 &&& 31))) = 0 then nI 0 else nI 1) = 0)) => ?_)
          · rw [if_pos c113] at h
            refine zW_s rfl ?_
            refine zW_s rfl ?_
            refine zW_s rfl ?_
            refine zW_s rfl ?_
            refine zW_s rfl ?_
            refine zW_s rfl ?_
            refine zW_k [0, 1, 2, 3, 4, 5, 6, 7] rfl ?_
            exact h
          · rw [if_neg c113] at h
            refine zW_s rfl ?_
            refine zW_r rfl (by decide) ?_
            exact h
      refine zW_if (fun (c111 : (x4 &&& ((nI 1) <<< (x109 &&& 31))) = 0) => ?_) (fun (c111 : ¬ ((x4 &&& ((nI 1) <<< (x109 &&& 31))) = 0)) => ?_)
      · replace k := k _ (if_pos c111).symm
        refine zW_s rfl ?_
        exact k
      · replace k := k _ (if_neg c111).symm
        refine zW_s rfl ?_
        refine zW_s rfl ?_
        exact k
set_option maxHeartbeats 4000000 in
theorem b65_60 {d : Nat} {r0 : Nat} {x1 : Int32} {x2 : Int32} {x3 : Int32} {x4 : Int32} {x5 : Int32} {x7 : Int32} {x8 : Int32} {v0 : Int32} {σ : zH} {Q : Option Value → zH → Prop} (h : (if ¬ (x5 + nI 1) = x3 then zW (d + 1) 65 12 [(0, .ref r0), (1, .int x1), (2, .int x2), (3, .int x3), (4, .int (x4 ||| x8)), (5, .int (x5 + nI 1)), (6, .int v0), (7, .int (x7 + nI 1))] [] σ Q else (if v0 = 0 then zW (d + 1) 65 12 [(0, .ref r0), (1, .int x1), (2, .int x2), (3, .int x3), (4, .int (nI 0)), (5, .int (nI 0)), (6, .int v0), (7, .int (x7 + nI 1))] [] σ Q else Q (some (.int (nI 0))) σ))) : zW (d + 1) 65 60 [(0, .ref r0), (1, .int x1), (2, .int x2), (3, .int x3), (4, .int x4), (5, .int x5), (7, .int x7), (8, .int x8)] [.int v0] σ Q := by
  refine zW_s rfl ?_
  refine zW_s rfl ?_
  refine zW_s rfl ?_
  refine zW_s rfl ?_
  refine zW_s rfl ?_
  refine zW_s rfl ?_
  refine zW_s rfl ?_
  refine zW_s rfl ?_
  refine zW_s rfl ?_
  refine zW_if (fun (c101 : ¬ (x5 + nI 1) = x3) => ?_) (fun (c101 : ¬ (¬ (x5 + nI 1) = x3)) => ?_)
  · rw [if_pos c101] at h
    refine zW_s rfl ?_
    refine zW_s rfl ?_
    refine zW_k [0, 1, 2, 3, 4, 5, 8, 6] rfl ?_
    exact h
  · rw [if_neg c101] at h
    refine zW_s rfl ?_
    refine zW_s rfl ?_
    refine zW_if (fun (c102 : v0 = 0) => ?_) (fun (c102 : ¬ (v0 = 0)) => ?_)
    · rw [if_pos c102] at h
      refine zW_s rfl ?_
      refine zW_s rfl ?_
      refine zW_s rfl ?_
      refine zW_s rfl ?_
      refine zW_s rfl ?_
      refine zW_s rfl ?_
      refine zW_k [0, 1, 2, 3, 4, 5, 8, 6] rfl ?_
      exact h
    · rw [if_neg c102] at h
      refine zW_s rfl ?_
      refine zW_r rfl (by decide) ?_
      exact h
set_option maxHeartbeats 4000000 in
theorem b66 {d : Nat} {r0 : Nat} {x1 : Int32} {σ : zH} {Q : Option Value → zH → Prop} (h : zW (d + 1) 66 2 [(0, .ref r0), (1, .int x1), (2, .int (nI 2))] [] σ Q) : zM (d + 1) 66 [.ref r0, .int x1] σ Q := by
  unfold zM
  refine zW_s rfl ?_
  refine zW_s rfl ?_
  exact h
set_option maxHeartbeats 4000000 in
theorem b66_2 {d : Nat} {r0 : Nat} {x1 : Int32} {x2 : Int32} {σ : zH} {Q : Option Value → zH → Prop} (h : (zK σ r0 = 7) ∧ (zK σ (zQ σ r0 3) = 20) ∧ (vp_in x1 (zN σ (zQ σ r0 3))) ∧ (if (zA σ (zQ σ r0 3) x1.toNatClampNeg) < x2 then Q (some (.int (nI 1))) σ else zM d 61 [.ref r0, .int x1, .int (x2 - (nI 1))] σ (fun r σ105 => zqi r (fun x106 => (zK σ105 (zQ σ r0 0) = 2) ∧ zM d 13 [.ref (zQ σ r0 0), .int (nI 31), .int x106] σ105 (fun r σ108 => zqi r (fun x109 => (zK σ108 r0 = 7) ∧ zM d 61 [.ref r0, .int x1, .int x2] σ108 (fun r σ111 => zqi r (fun x112 => (zK σ111 (zQ σ108 r0 0) = 2) ∧ zM d 13 [.ref (zQ σ108 r0 0), .int (nI 31), .int x112] σ111 (fun r σ114 => zqi r (fun x115 => (if x109 < x115 then zW (d + 1) 66 2 [(0, .ref r0), (1, .int x1), (2, .int (x2 + nI 1))] [] σ114 Q else Q (some (.int (nI 0))) σ114))))))))))) : zW (d + 1) 66 2 [(0, .ref r0), (1, .int x1), (2, .int x2)] [] σ Q := by
  refine zW_s rfl ?_
  refine zW_s rfl ?_
  have hp101 := h.1; replace h := h.2
  refine zW_p rfl hp101 ?_
  refine zW_s rfl ?_
  have hp102 := h.1; replace h := h.2
  have hp103 := h.1; replace h := h.2
  refine zW_p rfl ⟨hp102, hp103⟩ ?_
  refine zW_s rfl ?_
  refine zW_if (fun (c104 : (zA σ (zQ σ r0 3) x1.toNatClampNeg) < x2) => ?_) (fun (c104 : ¬ ((zA σ (zQ σ r0 3) x1.toNatClampNeg) < x2)) => ?_)
  · rw [if_pos c104] at h
    refine zW_s rfl ?_
    refine zW_r rfl (by decide) ?_
    exact h
  · rw [if_neg c104] at h
    refine zW_s rfl ?_
    refine zW_p rfl hp101 ?_
    refine zW_s rfl ?_
    refine zW_s rfl ?_
    refine zW_s rfl ?_
    refine zW_s rfl ?_
    refine zW_s rfl ?_
    refine zW_s rfl ?_
    refine zW_c rfl hp101 (zM_m h ?_)
    intro r σ105 h
    replace h := zqi_e h
    obtain ⟨x106, rfl, h⟩ := h
    have hp107 := h.1; replace h := h.2
    refine zW_c rfl hp107 (zM_m h ?_)
    intro r σ108 h
    replace h := zqi_e h
    obtain ⟨x109, rfl, h⟩ := h
    refine zW_s rfl ?_
    refine zW_s rfl ?_
    have hp110 := h.1; replace h := h.2
    refine zW_p rfl hp110 ?_
    refine zW_s rfl ?_
    refine zW_s rfl ?_
    refine zW_s rfl ?_
    refine zW_s rfl ?_
    refine zW_c rfl hp110 (zM_m h ?_)
    intro r σ111 h
    replace h := zqi_e h
    obtain ⟨x112, rfl, h⟩ := h
    have hp113 := h.1; replace h := h.2
    refine zW_c rfl hp113 (zM_m h ?_)
    intro r σ114 h
    replace h := zqi_e h
    obtain ⟨x115, rfl, h⟩ := h
    refine zW_s rfl ?_
    refine zW_s rfl ?_
    refine zW_if (fun (c116 : x109 < x115) => ?_) (fun (c116 : ¬ (x109 < x115)) => ?_)
    · rw [if_pos c116] at h
      refine zW_s rfl ?_
      refine zW_s rfl ?_
      refine zW_k [0, 1, 2] rfl ?_
      exact h
    · rw [if_neg c116] at h
      refine zW_s rfl ?_
      refine zW_r rfl (by decide) ?_
      exact h
set_option maxHeartbeats 4000000 in
theorem b67 {d : Nat} {r0 : Nat} {r1 : Nat} {σ : zH} {Q : Option Value → zH → Prop} (h : (zK σ r0 = 7) ∧ (zK σ r1 = 6) ∧ (zK σ (zQ σ r0 3) = 20) ∧ (vp_in (zI σ r1 1) (zN σ (zQ σ r0 3))) ∧ (if ¬ (zI σ r1 0) = (nI 6) then (if (zI σ r1 0) = 0 then Q (some (.int (if (zA σ (zQ σ r0 3) (zI σ r1 1).toNatClampNeg) < (nI 1) then (nI 1) else (zA σ (zQ σ r0 3) (zI σ r1 1).toNatClampNeg)))) σ else zM d 55 [.ref r1] σ (fun r σ107 => zqi r (fun x108 => (if x108 = 0 then Q (some (.int ((zA σ (zQ σ r0 3) (zI σ r1 1).toNatClampNeg) + (nI 1)))) σ107 else Q (some (.int (if (zA σ (zQ σ r0 3) (zI σ r1 1).toNatClampNeg) < (nI 1) then (nI 1) else (zA σ (zQ σ r0 3) (zI σ r1 1).toNatClampNeg)))) σ107)))) else (vp_in (zI σ r1 2) (zN σ (zQ σ r0 3))) ∧ zM d 68 [.int (zA σ (zQ σ r0 3) (zI σ r1 1).toNatClampNeg), .int (zA σ (zQ σ r0 3) (zI σ r1 2).toNatClampNeg)] σ (fun r σ111 => zqi r (fun x112 => Q (some (.int x112)) σ111)))) : zM (d + 1) 67 [.ref r0, .ref r1] σ Q := by
  unfold zM
  refine zW_s rfl ?_
  have hp101 := h.1; replace h := h.2
  refine zW_p rfl hp101 ?_
  refine zW_s rfl ?_
  have hp102 := h.1; replace h := h.2
  refine zW_p rfl hp102 ?_
  have hp103 := h.1; replace h := h.2
  have hp104 := h.1; replace h := h.2
  refine zW_p rfl ⟨hp103, hp104⟩ ?_
  refine zW_s rfl ?_
  refine zW_s rfl ?_
  refine zW_p rfl hp102 ?_
  refine zW_s rfl ?_
  refine zW_s rfl ?_
  refine zW_if (fun (c105 : ¬ (zI σ r1 0) = (nI 6)) => ?_) (fun (c105 : ¬ (¬ (zI σ r1 0) = (nI 6))) => ?_)
  · rw [if_pos c105] at h
    refine zW_s rfl ?_
    refine zW_p rfl hp102 ?_
    refine zW_s rfl ?_
    refine zW_if (fun (c106 : (zI σ r1 0) = 0) => ?_) (fun (c106 : ¬ ((zI σ r1 0) = 0)) => ?_)
    · rw [if_pos c106] at h
      refine zW_s rfl ?_
      refine zW_s rfl ?_
      refine zW_s rfl ?_
      refine zW_r rfl trivial ?_
      exact h
    · rw [if_neg c106] at h
      refine zW_s rfl ?_
      refine zW_c rfl hp102 (zM_m h ?_)
      intro r σ107 h
      replace h := zqi_e h
      obtain ⟨x108, rfl, h⟩ := h
      refine zW_s rfl ?_
      refine zW_if (fun (c109 : x108 = 0) => ?_) (fun (c109 : ¬ (x108 = 0)) => ?_)
      · rw [if_pos c109] at h
        refine zW_s rfl ?_
        refine zW_s rfl ?_
        refine zW_s rfl ?_
        refine zW_r rfl trivial ?_
        exact h
      · rw [if_neg c109] at h
        refine zW_s rfl ?_
        refine zW_s rfl ?_
        refine zW_s rfl ?_
        refine zW_r rfl trivial ?_
        exact h
  · rw [if_neg c105] at h
    refine zW_s rfl ?_
    refine zW_s rfl ?_
    refine zW_p rfl hp101 ?_
    refine zW_s rfl ?_
    refine zW_p rfl hp102 ?_
    have hp110 := h.1; replace h := h.2
    refine zW_p rfl ⟨hp103, hp110⟩ ?_
    refine zW_c rfl trivial (zM_m h ?_)
    intro r σ111 h
    replace h := zqi_e h
    obtain ⟨x112, rfl, h⟩ := h
    refine zW_r rfl trivial ?_
    exact h
set_option maxHeartbeats 4000000 in
theorem b68 {d : Nat} {x0 : Int32} {x1 : Int32} {σ : zH} {Q : Option Value → zH → Prop} (h : (if x0 < 0 then Q (some (.int (nI 0))) σ else (if x1 < 0 then Q (some (.int (nI 0))) σ else (if (x0 + x1) ≤ (nI 9) then (vp_in (((x0 + x1) * (nI 10)) + x0) 100) ∧ Q (some (.int (zwtc (((x0 + x1) * (nI 10)) + x0).toNatClampNeg))) σ else Q (some (.int (nI 0))) σ)))) : zM (d) 68 [.int x0, .int x1] σ Q := by
  unfold zM
  refine zW_s rfl ?_
  refine zW_s rfl ?_
  refine zW_if (fun (c101 : x0 < 0) => ?_) (fun (c101 : ¬ (x0 < 0)) => ?_)
  · rw [if_pos c101] at h
    refine zW_s rfl ?_
    refine zW_r rfl trivial ?_
    exact h
  · rw [if_neg c101] at h
    refine zW_s rfl ?_
    refine zW_s rfl ?_
    refine zW_if (fun (c102 : x1 < 0) => ?_) (fun (c102 : ¬ (x1 < 0)) => ?_)
    · rw [if_pos c102] at h
      refine zW_s rfl ?_
      refine zW_r rfl trivial ?_
      exact h
    · rw [if_neg c102] at h
      refine zW_s rfl ?_
      refine zW_s rfl ?_
      refine zW_s rfl ?_
      refine zW_s rfl ?_
      refine zW_s rfl ?_
      refine zW_if (fun (c103 : (x0 + x1) ≤ (nI 9)) => ?_) (fun (c103 : ¬ ((x0 + x1) ≤ (nI 9))) => ?_)
      · rw [if_pos c103] at h
        refine zW_s rfl ?_
        refine zW_s rfl ?_
        refine zW_s rfl ?_
        refine zW_s rfl ?_
        refine zW_s rfl ?_
        refine zW_s rfl ?_
        refine zW_s rfl ?_
        refine zW_s rfl ?_
        have hp104 := h.1; replace h := h.2
        refine zW_p rfl hp104 ?_
        refine zW_r rfl trivial ?_
        exact h
      · rw [if_neg c103] at h
        refine zW_s rfl ?_
        refine zW_r rfl trivial ?_
        exact h
set_option maxHeartbeats 4000000 in
theorem b69 {d : Nat} {r0 : Nat} {r1 : Nat} {x2 : Int32} {σ : zH} {Q : Option Value → zH → Prop} (h : (zK σ r1 = 6) ∧ (zK σ r0 = 7) ∧ (zK σ (zQ σ r0 3) = 20) ∧ (vp_in (zI σ r1 1) (zN σ (zQ σ r0 3))) ∧ (if (zI σ r1 0) = nI 0 then zM d 72 [.ref r0, .int (zI σ r1 1), .int (if (zA σ (zQ σ r0 3) (zI σ r1 1).toNatClampNeg) < (if ¬ (zI σ r1 4) = (-1) then zI σ r1 4 else x2) then (zA σ (zQ σ r0 3) (zI σ r1 1).toNatClampNeg) else (if ¬ (zI σ r1 4) = (-1) then zI σ r1 4 else x2))] σ (fun r σ108 => zqv r (Q none σ108)) else (if (zI σ r1 0) = nI 1 then zM d 73 [.ref r0, .int (zI σ r1 1), .int (if (zA σ (zQ σ r0 3) (zI σ r1 1).toNatClampNeg) < (if ¬ (zI σ r1 4) = (-1) then zI σ r1 4 else x2) then (zA σ (zQ σ r0 3) (zI σ r1 1).toNatClampNeg) else (if ¬ (zI σ r1 4) = (-1) then zI σ r1 4 else x2)), .int (zI σ r1 3)] σ (fun r σ110 => zqv r (Q none σ110)) else (if (zI σ r1 0) = nI 2 then zM d 74 [.ref r0, .int (zI σ r1 1), .int (if (zA σ (zQ σ r0 3) (zI σ r1 1).toNatClampNeg) < (if ¬ (zI σ r1 4) = (-1) then zI σ r1 4 else x2) then (zA σ (zQ σ r0 3) (zI σ r1 1).toNatClampNeg) else (if ¬ (zI σ r1 4) = (-1) then zI σ r1 4 else x2)), .int (zI σ r1 3)] σ (fun r σ112 => zqv r (Q none σ112)) else (if (zI σ r1 0) = nI 3 then zM d 76 [.ref r0, .int (zI σ r1 1), .int (if ¬ (zI σ r1 4) = (-1) then zI σ r1 4 else x2 + (nI 1)), .int (zI σ r1 3)] σ (fun r σ114 => zqv r (Q none σ114)) else (if (zI σ r1 0) = nI 4 then zM d 77 [.ref r0, .int (zI σ r1 1), .int (if (zA σ (zQ σ r0 3) (zI σ r1 1).toNatClampNeg) < (if ¬ (zI σ r1 4) = (-1) then zI σ r1 4 else x2) then (zA σ (zQ σ r0 3) (zI σ r1 1).toNatClampNeg) else (if ¬ (zI σ r1 4) = (-1) then zI σ r1 4 else x2))] σ (fun r σ116 => zqv r (Q none σ116)) else (if (zI σ r1 0) = nI 5 then zM d 78 [.ref r0, .int (zI σ r1 1), .int (if ¬ (zI σ r1 4) = (-1) then zI σ r1 4 else x2 + (nI 1))] σ (fun r σ118 => zqv r (Q none σ118)) else (if (zI σ r1 0) = nI 6 then zM d 79 [.ref r0, .ref r1, .int x2] σ (fun r σ120 => zqv r (Q none σ120)) else (if (zI σ r1 0) = nI 7 then zM d 80 [.ref r0, .ref r1] σ (fun r σ122 => zqv r (Q none σ122)) else (if (zI σ r1 0) = nI 8 then zM d 81 [.ref r0, .int (zI σ r1 1), .int (zI σ r1 3)] σ (fun r σ124 => zqv r (Q none σ124)) else (if (zI σ r1 0) = nI 9 then zM d 82 [.ref r0, .int (zI σ r1 1), .int (zI σ r1 2)] σ (fun r σ126 => zqv r (Q none σ126)) else zM d 83 [.ref r0, .int (zI σ r1 1), .int (if ¬ (zI σ r1 4) = (-1) then zI σ r1 4 else x2 + (nI 1))] σ (fun r σ127 => zqv r (Q none σ127))))))))))))) : zM (d + 1) 69 [.ref r0, .ref r1, .int x2] σ Q := by
  unfold zM
  refine zW_s rfl ?_
  have hp101 := h.1; replace h := h.2
  refine zW_p rfl hp101 ?_
  refine zW_s rfl ?_
  refine zW_s rfl ?_
  refine zW_p rfl hp101 ?_
  refine zW_s rfl ?_
  refine zW_s rfl ?_
  have k : ∀ v : Int32, v = (if ¬ (zI σ r1 4) = (-1) then zI σ r1 4 else x2 + (nI 1)) → zW (d + 1) 69 23 [(0, .ref r0), (1, .ref r1), (2, .int x2), (3, .int (zI σ r1 1))] [.int v] σ Q := by
    intro v hv
    subst hv
    refine zW_s rfl ?_
    refine zW_s rfl ?_
    refine zW_p rfl hp101 ?_
    refine zW_s rfl ?_
    refine zW_s rfl ?_
    have k : ∀ v : Int32, v = (if ¬ (zI σ r1 4) = (-1) then zI σ r1 4 else x2) → zW (d + 1) 69 41 [(0, .ref r0), (1, .ref r1), (2, .int x2), (3, .int (zI σ r1 1)), (4, .int (if ¬ (zI σ r1 4) = (-1) then zI σ r1 4 else x2 + (nI 1)))] [.int v] σ Q := by
      intro v hv
      subst hv
      refine zW_s rfl ?_
      have hp104 := h.1; replace h := h.2
      refine zW_p rfl hp104 ?_
      refine zW_s rfl ?_
      have hp105 := h.1; replace h := h.2
      have hp106 := h.1; replace h := h.2
      refine zW_p rfl ⟨hp105, hp106⟩ ?_
      refine zW_s rfl ?_
      refine zW_s rfl ?_
      refine zW_s rfl ?_
      refine zW_p rfl hp101 ?_
      refine zW_s rfl ?_
      refine zW_sw (fun (c107 : (zI σ r1 0) = nI 0) => ?_) (fun (c107 : ¬ ((zI σ r1 0) = nI 0)) => ?_)
      · rw [if_pos c107] at h
        refine zW_s rfl ?_
        refine zW_s rfl ?_
        refine zW_s rfl ?_
        refine zW_c rfl hp104 (zM_m h ?_)
        intro r σ108 h
        replace h := zqv_e h
        obtain ⟨rfl, h⟩ := h
        refine zW_s rfl ?_
        refine zW_r rfl trivial ?_
        exact h
      · rw [if_neg c107] at h
        refine zW_sw (fun (c109 : (zI σ r1 0) = nI 1) => ?_) (fun (c109 : ¬ ((zI σ r1 0) = nI 1)) => ?_)
        · rw [if_pos c109] at h
          refine zW_s rfl ?_
          refine zW_s rfl ?_
          refine zW_s rfl ?_
          refine zW_s rfl ?_
          refine zW_p rfl hp101 ?_
          refine zW_c rfl hp104 (zM_m h ?_)
          intro r σ110 h
          replace h := zqv_e h
          obtain ⟨rfl, h⟩ := h
          refine zW_s rfl ?_
          refine zW_r rfl trivial ?_
          exact h
        · rw [if_neg c109] at h
          refine zW_sw (fun (c111 : (zI σ r1 0) = nI 2) => ?_) (fun (c111 : ¬ ((zI σ r1 0) = nI 2)) => ?_)
          · rw [if_pos c111] at h
            refine zW_s rfl ?_
            refine zW_s rfl ?_
            refine zW_s rfl ?_
            refine zW_s rfl ?_
            refine zW_p rfl hp101 ?_
            refine zW_c rfl hp104 (zM_m h ?_)
            intro r σ112 h
            replace h := zqv_e h
            obtain ⟨rfl, h⟩ := h
            refine zW_s rfl ?_
            refine zW_r rfl trivial ?_
            exact h
          · rw [if_neg c111] at h
            refine zW_sw (fun (c113 : (zI σ r1 0) = nI 3) => ?_) (fun (c113 : ¬ ((zI σ r1 0) = nI 3)) => ?_)
            · rw [if_pos c113] at h
              refine zW_s rfl ?_
              refine zW_s rfl ?_
              refine zW_s rfl ?_
              refine zW_s rfl ?_
              refine zW_p rfl hp101 ?_
              refine zW_c rfl hp104 (zM_m h ?_)
              intro r σ114 h
              replace h := zqv_e h
              obtain ⟨rfl, h⟩ := h
              refine zW_s rfl ?_
              refine zW_r rfl trivial ?_
              exact h
            · rw [if_neg c113] at h
              refine zW_sw (fun (c115 : (zI σ r1 0) = nI 4) => ?_) (fun (c115 : ¬ ((zI σ r1 0) = nI 4)) => ?_)
              · rw [if_pos c115] at h
                refine zW_s rfl ?_
                refine zW_s rfl ?_
                refine zW_s rfl ?_
                refine zW_c rfl hp104 (zM_m h ?_)
                intro r σ116 h
                replace h := zqv_e h
                obtain ⟨rfl, h⟩ := h
                refine zW_s rfl ?_
                refine zW_r rfl trivial ?_
                exact h
              · rw [if_neg c115] at h
                refine zW_sw (fun (c117 : (zI σ r1 0) = nI 5) => ?_) (fun (c117 : ¬ ((zI σ r1 0) = nI 5)) => ?_)
                · rw [if_pos c117] at h
                  refine zW_s rfl ?_
                  refine zW_s rfl ?_
                  refine zW_s rfl ?_
                  refine zW_c rfl hp104 (zM_m h ?_)
                  intro r σ118 h
                  replace h := zqv_e h
                  obtain ⟨rfl, h⟩ := h
                  refine zW_s rfl ?_
                  refine zW_r rfl trivial ?_
                  exact h
                · rw [if_neg c117] at h
                  refine zW_sw (fun (c119 : (zI σ r1 0) = nI 6) => ?_) (fun (c119 : ¬ ((zI σ r1 0) = nI 6)) => ?_)
                  · rw [if_pos c119] at h
                    refine zW_s rfl ?_
                    refine zW_s rfl ?_
                    refine zW_s rfl ?_
                    refine zW_c rfl hp104 (zM_m h ?_)
                    intro r σ120 h
                    replace h := zqv_e h
                    obtain ⟨rfl, h⟩ := h
                    refine zW_s rfl ?_
                    refine zW_r rfl trivial ?_
                    exact h
                  · rw [if_neg c119] at h
                    refine zW_sw (fun (c121 : (zI σ r1 0) = nI 7) => ?_) (fun (c121 : ¬ ((zI σ r1 0) = nI 7)) => ?_)
                    · rw [if_pos c121] at h
                      refine zW_s rfl ?_
                      refine zW_s rfl ?_
                      refine zW_c rfl hp104 (zM_m h ?_)
                      intro r σ122 h
                      replace h := zqv_e h
                      obtain ⟨rfl, h⟩ := h
                      refine zW_s rfl ?_
                      refine zW_r rfl trivial ?_
                      exact h
                    · rw [if_neg c121] at h
                      refine zW_sw (fun (c123 : (zI σ r1 0) = nI 8) => ?_) (fun (c123 : ¬ ((zI σ r1 0) = nI 8)) => ?_)
                      · rw [if_pos c123] at h
                        refine zW_s rfl ?_
                        refine zW_s rfl ?_
                        refine zW_s rfl ?_
                        refine zW_p rfl hp101 ?_
                        refine zW_c rfl hp104 (zM_m h ?_)
                        intro r σ124 h
                        replace h := zqv_e h
                        obtain ⟨rfl, h⟩ := h
                        refine zW_s rfl ?_
                        refine zW_r rfl trivial ?_
                        exact h
                      · rw [if_neg c123] at h
                        refine zW_sw (fun (c125 : (zI σ r1 0) = nI 9) => ?_) (fun (c125 : ¬ ((zI σ r1 0) = nI 9)) => ?_)
                        · rw [if_pos c125] at h
                          refine zW_s rfl ?_
                          refine zW_s rfl ?_
                          refine zW_s rfl ?_
                          refine zW_p rfl hp101 ?_
                          refine zW_c rfl hp104 (zM_m h ?_)
                          intro r σ126 h
                          replace h := zqv_e h
                          obtain ⟨rfl, h⟩ := h
                          refine zW_s rfl ?_
                          refine zW_r rfl trivial ?_
                          exact h
                        · rw [if_neg c125] at h
                          refine zW_s rfl ?_
                          refine zW_s rfl ?_
                          refine zW_s rfl ?_
                          refine zW_c rfl hp104 (zM_m h ?_)
                          intro r σ127 h
                          replace h := zqv_e h
                          obtain ⟨rfl, h⟩ := h
                          refine zW_r rfl trivial ?_
                          exact h
    refine zW_if (fun (c103 : ¬ (zI σ r1 4) = (-1)) => ?_) (fun (c103 : ¬ (¬ (zI σ r1 4) = (-1))) => ?_)
    · replace k := k _ (if_pos c103).symm
      refine zW_s rfl ?_
      refine zW_p rfl hp101 ?_
      exact k
    · replace k := k _ (if_neg c103).symm
      refine zW_s rfl ?_
      refine zW_s rfl ?_
      exact k
  refine zW_if (fun (c102 : ¬ (zI σ r1 4) = (-1)) => ?_) (fun (c102 : ¬ (¬ (zI σ r1 4) = (-1))) => ?_)
  · replace k := k _ (if_pos c102).symm
    refine zW_s rfl ?_
    refine zW_p rfl hp101 ?_
    exact k
  · replace k := k _ (if_neg c102).symm
    refine zW_s rfl ?_
    refine zW_s rfl ?_
    refine zW_s rfl ?_
    refine zW_s rfl ?_
    exact k
set_option maxHeartbeats 4000000 in
theorem b70 {d : Nat} {r0 : Nat} {x1 : Int32} {x2 : Int32} {σ : zH} {Q : Option Value → zH → Prop} (h : (zK σ r0 = 7) ∧ (zK σ (zQ σ r0 3) = 20) ∧ (vp_in x1 (zN σ (zQ σ r0 3))) ∧ (if (nI 9) ≤ (zA σ (zQ σ r0 3) x1.toNatClampNeg) then Q none σ else (zK σ (zQ σ r0 1) = 20) ∧ (vp_in ((x1 * (nI 16)) + (zA σ (zQ σ r0 3) x1.toNatClampNeg)) (zN σ (zQ σ r0 1))) ∧ Q none (zsA (zsA σ (zQ σ r0 1) ((x1 * (nI 16)) + (zA σ (zQ σ r0 3) x1.toNatClampNeg)).toNatClampNeg x2) (zQ σ r0 3) x1.toNatClampNeg ((zA (zsA σ (zQ σ r0 1) ((x1 * (nI 16)) + (zA σ (zQ σ r0 3) x1.toNatClampNeg)).toNatClampNeg x2) (zQ σ r0 3) x1.toNatClampNeg) + (nI 1))))) : zM (d) 70 [.ref r0, .int x1, .int x2] σ Q := by
  unfold zM
  refine zW_s rfl ?_
  have hp101 := h.1; replace h := h.2
  refine zW_p rfl hp101 ?_
  refine zW_s rfl ?_
  have hp102 := h.1; replace h := h.2
  have hp103 := h.1; replace h := h.2
  refine zW_p rfl ⟨hp102, hp103⟩ ?_
  refine zW_s rfl ?_
  refine zW_s rfl ?_
  refine zW_if (fun (c104 : (nI 9) ≤ (zA σ (zQ σ r0 3) x1.toNatClampNeg)) => ?_) (fun (c104 : ¬ ((nI 9) ≤ (zA σ (zQ σ r0 3) x1.toNatClampNeg))) => ?_)
  · rw [if_pos c104] at h
    refine zW_r rfl trivial ?_
    exact h
  · rw [if_neg c104] at h
    refine zW_s rfl ?_
    refine zW_p rfl hp101 ?_
    refine zW_s rfl ?_
    refine zW_s rfl ?_
    refine zW_s rfl ?_
    refine zW_s rfl ?_
    refine zW_p rfl hp101 ?_
    refine zW_s rfl ?_
    refine zW_p rfl ⟨hp102, hp103⟩ ?_
    refine zW_s rfl ?_
    refine zW_s rfl ?_
    have hp105 := h.1; replace h := h.2
    have hp106 := h.1; replace h := h.2
    refine zW_p rfl ⟨hp105, hp106⟩ ?_
    refine zW_s rfl ?_
    refine zW_p rfl hp101 ?_
    refine zW_s rfl ?_
    refine zW_s rfl ?_
    refine zW_p rfl ⟨hp102, hp103⟩ ?_
    refine zW_s rfl ?_
    refine zW_s rfl ?_
    refine zW_p rfl ⟨hp102, hp103⟩ ?_
    refine zW_r rfl trivial ?_
    exact h
set_option maxHeartbeats 4000000 in
theorem b71 {d : Nat} {r0 : Nat} {x1 : Int32} {σ : zH} {Q : Option Value → zH → Prop} (h : (zK σ r0 = 7) ∧ (zK σ (zQ σ r0 3) = 20) ∧ (vp_in x1 (zN σ (zQ σ r0 3))) ∧ (if (nI 1) ≤ (zA σ (zQ σ r0 3) x1.toNatClampNeg) then (zK σ (zQ σ r0 1) = 20) ∧ (vp_in ((x1 * (nI 16)) + (zA (zsA σ (zQ σ r0 3) x1.toNatClampNeg ((zA σ (zQ σ r0 3) x1.toNatClampNeg) - (nI 1))) (zQ σ r0 3) x1.toNatClampNeg)) (zN σ (zQ σ r0 1))) ∧ Q (some (.int (zA (zsA σ (zQ σ r0 3) x1.toNatClampNeg ((zA σ (zQ σ r0 3) x1.toNatClampNeg) - (nI 1))) (zQ σ r0 1) ((x1 * (nI 16)) + (zA (zsA σ (zQ σ r0 3) x1.toNatClampNeg ((zA σ (zQ σ r0 3) x1.toNatClampNeg) - (nI 1))) (zQ σ r0 3) x1.toNatClampNeg)).toNatClampNeg))) (zsA σ (zQ σ r0 3) x1.toNatClampNeg ((zA σ (zQ σ r0 3) x1.toNatClampNeg) - (nI 1))) else Q (some (.int (nI 0))) σ)) : zM (d) 71 [.ref r0, .int x1] σ Q := by
  unfold zM
  refine zW_s rfl ?_
  have hp101 := h.1; replace h := h.2
  refine zW_p rfl hp101 ?_
  refine zW_s rfl ?_
  have hp102 := h.1; replace h := h.2
  have hp103 := h.1; replace h := h.2
  refine zW_p rfl ⟨hp102, hp103⟩ ?_
  refine zW_s rfl ?_
  refine zW_s rfl ?_
  refine zW_if (fun (c104 : (nI 1) ≤ (zA σ (zQ σ r0 3) x1.toNatClampNeg)) => ?_) (fun (c104 : ¬ ((nI 1) ≤ (zA σ (zQ σ r0 3) x1.toNatClampNeg))) => ?_)
  · rw [if_pos c104] at h
    refine zW_s rfl ?_
    refine zW_p rfl hp101 ?_
    refine zW_s rfl ?_
    refine zW_s rfl ?_
    refine zW_p rfl ⟨hp102, hp103⟩ ?_
    refine zW_s rfl ?_
    refine zW_s rfl ?_
    refine zW_p rfl ⟨hp102, hp103⟩ ?_
    refine zW_s rfl ?_
    refine zW_p rfl hp101 ?_
    refine zW_s rfl ?_
    refine zW_s rfl ?_
    refine zW_s rfl ?_
    refine zW_s rfl ?_
    refine zW_p rfl hp101 ?_
    refine zW_s rfl ?_
    refine zW_p rfl ⟨hp102, hp103⟩ ?_
    refine zW_s rfl ?_
    have hp105 := h.1; replace h := h.2
    have hp106 := h.1; replace h := h.2
    refine zW_p rfl ⟨hp105, hp106⟩ ?_
    refine zW_r rfl trivial ?_
    exact h
  · rw [if_neg c104] at h
    refine zW_s rfl ?_
    refine zW_r rfl trivial ?_
    exact h
