set_option maxHeartbeats 4000000 in
theorem b72 {d : Nat} {r0 : Nat} {x1 : Int32} {x2 : Int32} {σ : zH} {Q : Option Value → zH → Prop} (h : (zK σ r0 = 7) ∧ (zK σ (zQ σ r0 3) = 20) ∧ (vp_in x1 (zN σ (zQ σ r0 3))) ∧ zW (d) 72 16 [(0, .ref r0), (2, .int x2), (3, .int (zA σ (zQ σ r0 3) x1.toNatClampNeg)), (4, .int (x1 * (nI 16))), (5, .int (nI 0))] [] σ Q) : zM (d) 72 [.ref r0, .int x1, .int x2] σ Q := by
  unfold zM
  refine zW_s rfl ?_
  have hp101 := h.1; replace h := h.2
  refine zW_p rfl hp101 ?_
  refine zW_s rfl ?_
  have hp102 := h.1; replace h := h.2
  have hp103 := h.1; replace h := h.2
  refine zW_p rfl ⟨hp102, hp103⟩ ?_
  refine zW_s rfl ?_
  refine zW_s rfl ?_
  refine zW_s rfl ?_
  refine zW_s rfl ?_
  refine zW_s rfl ?_
  refine zW_s rfl ?_
  refine zW_s rfl ?_
  refine zW_k [0, 2, 3, 4, 5] rfl ?_
  exact h
set_option maxHeartbeats 4000000 in
theorem b72_16 {d : Nat} {r0 : Nat} {x2 : Int32} {x3 : Int32} {x4 : Int32} {x5 : Int32} {σ : zH} {Q : Option Value → zH → Prop} (h : (if x3 ≤ x5 then zW (d) 72 48 [(0, .ref r0), (2, .int x2), (3, .int x3), (4, .int x4), (5, .int (nI 0))] [] σ Q else (zK σ r0 = 7) ∧ (zK σ (zQ σ r0 1) = 20) ∧ (vp_in (x4 + x5) (zN σ (zQ σ r0 1))) ∧ (zK σ (zQ σ r0 2) = 20) ∧ (vp_in x5 (zN σ (zQ σ r0 2))) ∧ zW (d) 72 16 [(0, .ref r0), (2, .int x2), (3, .int x3), (4, .int x4), (5, .int (x5 + nI 1))] [] (zsA σ (zQ σ r0 2) x5.toNatClampNeg (zA σ (zQ σ r0 1) (x4 + x5).toNatClampNeg)) Q)) : zW (d) 72 16 [(0, .ref r0), (2, .int x2), (3, .int x3), (4, .int x4), (5, .int x5)] [] σ Q := by
  refine zW_s rfl ?_
  refine zW_s rfl ?_
  refine zW_s rfl ?_
  refine zW_if (fun (c101 : x3 ≤ x5) => ?_) (fun (c101 : ¬ (x3 ≤ x5)) => ?_)
  · rw [if_pos c101] at h
    refine zW_s rfl ?_
    refine zW_s rfl ?_
    exact h
  · rw [if_neg c101] at h
    refine zW_s rfl ?_
    have hp102 := h.1; replace h := h.2
    refine zW_p rfl hp102 ?_
    refine zW_s rfl ?_
    refine zW_s rfl ?_
    refine zW_p rfl hp102 ?_
    refine zW_s rfl ?_
    refine zW_s rfl ?_
    refine zW_s rfl ?_
    have hp103 := h.1; replace h := h.2
    have hp104 := h.1; replace h := h.2
    refine zW_p rfl ⟨hp103, hp104⟩ ?_
    have hp105 := h.1; replace h := h.2
    have hp106 := h.1; replace h := h.2
    refine zW_p rfl ⟨hp105, hp106⟩ ?_
    refine zW_s rfl ?_
    refine zW_s rfl ?_
    exact h
set_option maxHeartbeats 4000000 in
theorem b72_48 {d : Nat} {r0 : Nat} {x2 : Int32} {x3 : Int32} {x4 : Int32} {x5 : Int32} {σ : zH} {Q : Option Value → zH → Prop} (h : (if x2 ≤ x5 then zW (d) 72 84 [(0, .ref r0), (2, .int x2), (3, .int x3), (4, .int x4), (5, .int x2)] [] σ Q else (zK σ r0 = 7) ∧ (zK σ (zQ σ r0 2) = 20) ∧ (vp_in ((x3 - x2) + x5) (zN σ (zQ σ r0 2))) ∧ (zK σ (zQ σ r0 1) = 20) ∧ (vp_in (x4 + x5) (zN σ (zQ σ r0 1))) ∧ zW (d) 72 48 [(0, .ref r0), (2, .int x2), (3, .int x3), (4, .int x4), (5, .int (x5 + nI 1))] [] (zsA σ (zQ σ r0 1) (x4 + x5).toNatClampNeg (zA σ (zQ σ r0 2) ((x3 - x2) + x5).toNatClampNeg)) Q)) : zW (d) 72 48 [(0, .ref r0), (2, .int x2), (3, .int x3), (4, .int x4), (5, .int x5)] [] σ Q := by
  refine zW_s rfl ?_
  refine zW_s rfl ?_
  refine zW_s rfl ?_
  refine zW_if (fun (c101 : x2 ≤ x5) => ?_) (fun (c101 : ¬ (x2 ≤ x5)) => ?_)
  · rw [if_pos c101] at h
    refine zW_s rfl ?_
    refine zW_s rfl ?_
    exact h
  · rw [if_neg c101] at h
    refine zW_s rfl ?_
    have hp102 := h.1; replace h := h.2
    refine zW_p rfl hp102 ?_
    refine zW_s rfl ?_
    refine zW_s rfl ?_
    refine zW_s rfl ?_
    refine zW_s rfl ?_
    refine zW_p rfl hp102 ?_
    refine zW_s rfl ?_
    refine zW_s rfl ?_
    refine zW_s rfl ?_
    refine zW_s rfl ?_
    refine zW_s rfl ?_
    have hp103 := h.1; replace h := h.2
    have hp104 := h.1; replace h := h.2
    refine zW_p rfl ⟨hp103, hp104⟩ ?_
    have hp105 := h.1; replace h := h.2
    have hp106 := h.1; replace h := h.2
    refine zW_p rfl ⟨hp105, hp106⟩ ?_
    refine zW_s rfl ?_
    refine zW_s rfl ?_
    exact h
set_option maxHeartbeats 4000000 in
theorem b72_84 {d : Nat} {r0 : Nat} {x2 : Int32} {x3 : Int32} {x4 : Int32} {x5 : Int32} {σ : zH} {Q : Option Value → zH → Prop} (h : (if x3 ≤ x5 then Q none σ else (zK σ r0 = 7) ∧ (zK σ (zQ σ r0 2) = 20) ∧ (vp_in (x5 - x2) (zN σ (zQ σ r0 2))) ∧ (zK σ (zQ σ r0 1) = 20) ∧ (vp_in (x4 + x5) (zN σ (zQ σ r0 1))) ∧ zW (d) 72 84 [(0, .ref r0), (2, .int x2), (3, .int x3), (4, .int x4), (5, .int (x5 + nI 1))] [] (zsA σ (zQ σ r0 1) (x4 + x5).toNatClampNeg (zA σ (zQ σ r0 2) (x5 - x2).toNatClampNeg)) Q)) : zW (d) 72 84 [(0, .ref r0), (2, .int x2), (3, .int x3), (4, .int x4), (5, .int x5)] [] σ Q := by
  refine zW_s rfl ?_
  refine zW_s rfl ?_
  refine zW_s rfl ?_
  refine zW_if (fun (c101 : x3 ≤ x5) => ?_) (fun (c101 : ¬ (x3 ≤ x5)) => ?_)
  · rw [if_pos c101] at h
    refine zW_r rfl trivial ?_
    exact h
  · rw [if_neg c101] at h
    refine zW_s rfl ?_
    have hp102 := h.1; replace h := h.2
    refine zW_p rfl hp102 ?_
    refine zW_s rfl ?_
    refine zW_s rfl ?_
    refine zW_s rfl ?_
    refine zW_s rfl ?_
    refine zW_p rfl hp102 ?_
    refine zW_s rfl ?_
    refine zW_s rfl ?_
    refine zW_s rfl ?_
    have hp103 := h.1; replace h := h.2
    have hp104 := h.1; replace h := h.2
    refine zW_p rfl ⟨hp103, hp104⟩ ?_
    have hp105 := h.1; replace h := h.2
    have hp106 := h.1; replace h := h.2
    refine zW_p rfl ⟨hp105, hp106⟩ ?_
    refine zW_s rfl ?_
    refine zW_s rfl ?_
    exact h
set_option maxHeartbeats 4000000 in
theorem b73 {d : Nat} {r0 : Nat} {x1 : Int32} {x2 : Int32} {x3 : Int32} {σ : zH} {Q : Option Value → zH → Prop} (h : zW (d + 1) 73 3 [(0, .ref r0), (1, .int x1), (2, .int x2), (3, .int x3), (4, .int (nI 0))] [] σ Q) : zM (d + 1) 73 [.ref r0, .int x1, .int x2, .int x3] σ Q := by
  unfold zM
  refine zW_s rfl ?_
  refine zW_s rfl ?_
  exact h
set_option maxHeartbeats 4000000 in
theorem b73_3 {d : Nat} {r0 : Nat} {x1 : Int32} {x2 : Int32} {x3 : Int32} {x4 : Int32} {σ : zH} {Q : Option Value → zH → Prop} (h : (if x2 ≤ x4 then Q none σ else (zK σ r0 = 7) ∧ zM d 71 [.ref r0, .int x1] σ (fun r σ103 => zqi r (fun x104 => (zK σ103 r0 = 7) ∧ zM d 70 [.ref r0, .int x3, .int x104] σ103 (fun r σ106 => zqv r (zW (d + 1) 73 3 [(0, .ref r0), (1, .int x1), (2, .int x2), (3, .int x3), (4, .int (x4 + nI 1))] [] σ106 Q)))))) : zW (d + 1) 73 3 [(0, .ref r0), (1, .int x1), (2, .int x2), (3, .int x3), (4, .int x4)] [] σ Q := by
  refine zW_s rfl ?_
  refine zW_s rfl ?_
  refine zW_s rfl ?_
  refine zW_if (fun (c101 : x2 ≤ x4) => ?_) (fun (c101 : ¬ (x2 ≤ x4)) => ?_)
  · rw [if_pos c101] at h
    refine zW_r rfl trivial ?_
    exact h
  · rw [if_neg c101] at h
    refine zW_s rfl ?_
    refine zW_s rfl ?_
    refine zW_s rfl ?_
    refine zW_s rfl ?_
    have hp102 := h.1; replace h := h.2
    refine zW_c rfl hp102 (zM_m h ?_)
    intro r σ103 h
    replace h := zqi_e h
    obtain ⟨x104, rfl, h⟩ := h
    have hp105 := h.1; replace h := h.2
    refine zW_c rfl hp105 (zM_m h ?_)
    intro r σ106 h
    replace h := zqv_e h
    obtain ⟨rfl, h⟩ := h
    refine zW_s rfl ?_
    refine zW_s rfl ?_
    exact h
set_option maxHeartbeats 4000000 in
theorem b74 {d : Nat} {r0 : Nat} {x1 : Int32} {x2 : Int32} {x3 : Int32} {σ : zH} {Q : Option Value → zH → Prop} (h : zW (d + 1) 74 3 [(0, .ref r0), (1, .int x1), (2, .int x2), (3, .int x3), (4, .int (nI 0))] [] σ Q) : zM (d + 1) 74 [.ref r0, .int x1, .int x2, .int x3] σ Q := by
  unfold zM
  refine zW_s rfl ?_
  refine zW_s rfl ?_
  exact h
set_option maxHeartbeats 4000000 in
theorem b74_3 {d : Nat} {r0 : Nat} {x1 : Int32} {x2 : Int32} {x3 : Int32} {x4 : Int32} {σ : zH} {Q : Option Value → zH → Prop} (h : (if x2 ≤ x4 then (zK σ r0 = 7) ∧ zM d 75 [.ref r0, .int x3, .int x2] σ (fun r σ103 => zqv r (Q none σ103)) else (zK σ r0 = 7) ∧ zM d 71 [.ref r0, .int x1] σ (fun r σ105 => zqi r (fun x106 => (zK σ105 (zQ σ r0 2) = 20) ∧ (vp_in x4 (zN σ105 (zQ σ r0 2))) ∧ zW (d + 1) 74 3 [(0, .ref r0), (1, .int x1), (2, .int x2), (3, .int x3), (4, .int (x4 + nI 1))] [] (zsA σ105 (zQ σ r0 2) x4.toNatClampNeg x106) Q)))) : zW (d + 1) 74 3 [(0, .ref r0), (1, .int x1), (2, .int x2), (3, .int x3), (4, .int x4)] [] σ Q := by
  refine zW_s rfl ?_
  refine zW_s rfl ?_
  refine zW_s rfl ?_
  refine zW_if (fun (c101 : x2 ≤ x4) => ?_) (fun (c101 : ¬ (x2 ≤ x4)) => ?_)
  · rw [if_pos c101] at h
    refine zW_s rfl ?_
    refine zW_s rfl ?_
    refine zW_s rfl ?_
    have hp102 := h.1; replace h := h.2
    refine zW_c rfl hp102 (zM_m h ?_)
    intro r σ103 h
    replace h := zqv_e h
    obtain ⟨rfl, h⟩ := h
    refine zW_r rfl trivial ?_
    exact h
  · rw [if_neg c101] at h
    refine zW_s rfl ?_
    have hp104 := h.1; replace h := h.2
    refine zW_p rfl hp104 ?_
    refine zW_s rfl ?_
    refine zW_s rfl ?_
    refine zW_s rfl ?_
    refine zW_c rfl hp104 (zM_m h ?_)
    intro r σ105 h
    replace h := zqi_e h
    obtain ⟨x106, rfl, h⟩ := h
    have hp107 := h.1; replace h := h.2
    have hp108 := h.1; replace h := h.2
    refine zW_p rfl ⟨hp107, hp108⟩ ?_
    refine zW_s rfl ?_
    refine zW_s rfl ?_
    exact h
set_option maxHeartbeats 4000000 in
theorem b75 {d : Nat} {r0 : Nat} {x1 : Int32} {x2 : Int32} {σ : zH} {Q : Option Value → zH → Prop} (h : zW (d + 1) 75 4 [(0, .ref r0), (1, .int x1), (3, .int (x2 - (nI 1)))] [] σ Q) : zM (d + 1) 75 [.ref r0, .int x1, .int x2] σ Q := by
  unfold zM
  refine zW_s rfl ?_
  refine zW_s rfl ?_
  refine zW_s rfl ?_
  refine zW_s rfl ?_
  refine zW_k [0, 1, 3] rfl ?_
  exact h
set_option maxHeartbeats 4000000 in
theorem b75_4 {d : Nat} {r0 : Nat} {x1 : Int32} {x3 : Int32} {σ : zH} {Q : Option Value → zH → Prop} (h : (if x3 < 0 then Q none σ else (zK σ r0 = 7) ∧ (zK σ (zQ σ r0 2) = 20) ∧ (vp_in x3 (zN σ (zQ σ r0 2))) ∧ zM d 70 [.ref r0, .int x1, .int (zA σ (zQ σ r0 2) x3.toNatClampNeg)] σ (fun r σ105 => zqv r (zW (d + 1) 75 4 [(0, .ref r0), (1, .int x1), (3, .int (x3 + (-1)))] [] σ105 Q)))) : zW (d + 1) 75 4 [(0, .ref r0), (1, .int x1), (3, .int x3)] [] σ Q := by
  refine zW_s rfl ?_
  refine zW_s rfl ?_
  refine zW_if (fun (c101 : x3 < 0) => ?_) (fun (c101 : ¬ (x3 < 0)) => ?_)
  · rw [if_pos c101] at h
    refine zW_r rfl trivial ?_
    exact h
  · rw [if_neg c101] at h
    refine zW_s rfl ?_
    refine zW_s rfl ?_
    refine zW_s rfl ?_
    have hp102 := h.1; replace h := h.2
    refine zW_p rfl hp102 ?_
    refine zW_s rfl ?_
    have hp103 := h.1; replace h := h.2
    have hp104 := h.1; replace h := h.2
    refine zW_p rfl ⟨hp103, hp104⟩ ?_
    refine zW_c rfl hp102 (zM_m h ?_)
    intro r σ105 h
    replace h := zqv_e h
    obtain ⟨rfl, h⟩ := h
    refine zW_s rfl ?_
    refine zW_s rfl ?_
    exact h
set_option maxHeartbeats 4000000 in
theorem b76 {d : Nat} {r0 : Nat} {x1 : Int32} {x2 : Int32} {x3 : Int32} {σ : zH} {Q : Option Value → zH → Prop} (h : (zK σ r0 = 7) ∧ zM d 61 [.ref r0, .int x1, .int x2] σ (fun r σ102 => zqi r (fun x103 => (if ¬ x103 = 0 then (zK σ102 r0 = 7) ∧ (zK σ102 (zQ σ102 r0 3) = 20) ∧ (vp_in x1 (zN σ102 (zQ σ102 r0 3))) ∧ zW (d + 1) 76 24 [(0, .ref r0), (1, .int x1), (3, .int x3), (4, .int x103), (5, .int ((zA σ102 (zQ σ102 r0 3) x1.toNatClampNeg) - x2))] [] σ102 Q else Q none σ102)))) : zM (d + 1) 76 [.ref r0, .int x1, .int x2, .int x3] σ Q := by
  unfold zM
  refine zW_s rfl ?_
  refine zW_s rfl ?_
  refine zW_s rfl ?_
  have hp101 := h.1; replace h := h.2
  refine zW_c rfl hp101 (zM_m h ?_)
  intro r σ102 h
  replace h := zqi_e h
  obtain ⟨x103, rfl, h⟩ := h
  refine zW_s rfl ?_
  refine zW_s rfl ?_
  refine zW_s rfl ?_
  refine zW_if (fun (c104 : ¬ x103 = 0) => ?_) (fun (c104 : ¬ (¬ x103 = 0)) => ?_)
  · rw [if_pos c104] at h
    refine zW_s rfl ?_
    have hp105 := h.1; replace h := h.2
    refine zW_p rfl hp105 ?_
    refine zW_s rfl ?_
    have hp106 := h.1; replace h := h.2
    have hp107 := h.1; replace h := h.2
    refine zW_p rfl ⟨hp106, hp107⟩ ?_
    refine zW_s rfl ?_
    refine zW_s rfl ?_
    refine zW_s rfl ?_
    refine zW_k [0, 1, 3, 4, 5] rfl ?_
    exact h
  · rw [if_neg c104] at h
    refine zW_r rfl trivial ?_
    exact h
set_option maxHeartbeats 4000000 in
theorem b76_24 {d : Nat} {r0 : Nat} {x1 : Int32} {x3 : Int32} {x4 : Int32} {x5 : Int32} {σ : zH} {Q : Option Value → zH → Prop} (h : (zK σ r0 = 7) ∧ (zK σ (zQ σ r0 3) = 20) ∧ (vp_in x1 (zN σ (zQ σ r0 3))) ∧ (if ((zA σ (zQ σ r0 3) x1.toNatClampNeg) - (nI 1)) ≤ x5 then zM d 70 [.ref r0, .int x3, .int x4] (zsA σ (zQ σ r0 3) x1.toNatClampNeg ((zA σ (zQ σ r0 3) x1.toNatClampNeg) - (nI 1))) (fun r σ105 => zqv r (Q none σ105)) else (zK σ (zQ σ r0 1) = 20) ∧ (vp_in (((x1 * (nI 16)) + x5) + (nI 1)) (zN σ (zQ σ r0 1))) ∧ (vp_in ((x1 * (nI 16)) + x5) (zN σ (zQ σ r0 1))) ∧ zW (d + 1) 76 24 [(0, .ref r0), (1, .int x1), (3, .int x3), (4, .int x4), (5, .int (x5 + nI 1))] [] (zsA σ (zQ σ r0 1) ((x1 * (nI 16)) + x5).toNatClampNeg (zA σ (zQ σ r0 1) (((x1 * (nI 16)) + x5) + (nI 1)).toNatClampNeg)) Q)) : zW (d + 1) 76 24 [(0, .ref r0), (1, .int x1), (3, .int x3), (4, .int x4), (5, .int x5)] [] σ Q := by
  refine zW_s rfl ?_
  refine zW_s rfl ?_
  have hp101 := h.1; replace h := h.2
  refine zW_p rfl hp101 ?_
  refine zW_s rfl ?_
  have hp102 := h.1; replace h := h.2
  have hp103 := h.1; replace h := h.2
  refine zW_p rfl ⟨hp102, hp103⟩ ?_
  refine zW_s rfl ?_
  refine zW_s rfl ?_
  refine zW_s rfl ?_
  refine zW_if (fun (c104 : ((zA σ (zQ σ r0 3) x1.toNatClampNeg) - (nI 1)) ≤ x5) => ?_) (fun (c104 : ¬ (((zA σ (zQ σ r0 3) x1.toNatClampNeg) - (nI 1)) ≤ x5)) => ?_)
  · rw [if_pos c104] at h
    refine zW_s rfl ?_
    refine zW_p rfl hp101 ?_
    refine zW_s rfl ?_
    refine zW_s rfl ?_
    refine zW_p rfl ⟨hp102, hp103⟩ ?_
    refine zW_s rfl ?_
    refine zW_s rfl ?_
    refine zW_p rfl ⟨hp102, hp103⟩ ?_
    refine zW_s rfl ?_
    refine zW_s rfl ?_
    refine zW_s rfl ?_
    refine zW_c rfl hp101 (zM_m h ?_)
    intro r σ105 h
    replace h := zqv_e h
    obtain ⟨rfl, h⟩ := h
    refine zW_r rfl trivial ?_
    exact h
  · rw [if_neg c104] at h
    refine zW_s rfl ?_
    refine zW_p rfl hp101 ?_
    refine zW_s rfl ?_
    refine zW_s rfl ?_
    refine zW_s rfl ?_
    refine zW_s rfl ?_
    refine zW_s rfl ?_
    refine zW_s rfl ?_
    refine zW_p rfl hp101 ?_
    refine zW_s rfl ?_
    refine zW_s rfl ?_
    refine zW_s rfl ?_
    refine zW_s rfl ?_
    refine zW_s rfl ?_
    refine zW_s rfl ?_
    refine zW_s rfl ?_
    have hp106 := h.1; replace h := h.2
    have hp107 := h.1; replace h := h.2
    refine zW_p rfl ⟨hp106, hp107⟩ ?_
    have hp108 := h.1; replace h := h.2
    refine zW_p rfl ⟨hp106, hp108⟩ ?_
    refine zW_s rfl ?_
    refine zW_s rfl ?_
    exact h
set_option maxHeartbeats 4000000 in
theorem b77 {d : Nat} {r0 : Nat} {x1 : Int32} {x2 : Int32} {σ : zH} {Q : Option Value → zH → Prop} (h : zW (d + 1) 77 2 [(0, .ref r0), (1, .int x1), (2, .int x2), (3, .int (nI 0))] [] σ Q) : zM (d + 1) 77 [.ref r0, .int x1, .int x2] σ Q := by
  unfold zM
  refine zW_s rfl ?_
  refine zW_s rfl ?_
  exact h
set_option maxHeartbeats 4000000 in
theorem b77_2 {d : Nat} {r0 : Nat} {x1 : Int32} {x2 : Int32} {x3 : Int32} {σ : zH} {Q : Option Value → zH → Prop} (h : (if x2 ≤ x3 then zW (d + 1) 77 29 [(0, .ref r0), (1, .int x1), (2, .int x2), (3, .int (nI 0))] [] σ Q else (zK σ r0 = 7) ∧ zM d 71 [.ref r0, .int x1] σ (fun r σ103 => zqi r (fun x104 => (zK σ103 (zQ σ r0 2) = 20) ∧ (vp_in x3 (zN σ103 (zQ σ r0 2))) ∧ zW (d + 1) 77 2 [(0, .ref r0), (1, .int x1), (2, .int x2), (3, .int (x3 + nI 1))] [] (zsA σ103 (zQ σ r0 2) x3.toNatClampNeg (x104 ^^^ (nI 16))) Q)))) : zW (d + 1) 77 2 [(0, .ref r0), (1, .int x1), (2, .int x2), (3, .int x3)] [] σ Q := by
  refine zW_s rfl ?_
  refine zW_s rfl ?_
  refine zW_s rfl ?_
  refine zW_if (fun (c101 : x2 ≤ x3) => ?_) (fun (c101 : ¬ (x2 ≤ x3)) => ?_)
  · rw [if_pos c101] at h
    refine zW_s rfl ?_
    refine zW_s rfl ?_
    exact h
  · rw [if_neg c101] at h
    refine zW_s rfl ?_
    have hp102 := h.1; replace h := h.2
    refine zW_p rfl hp102 ?_
    refine zW_s rfl ?_
    refine zW_s rfl ?_
    refine zW_s rfl ?_
    refine zW_c rfl hp102 (zM_m h ?_)
    intro r σ103 h
    replace h := zqi_e h
    obtain ⟨x104, rfl, h⟩ := h
    refine zW_s rfl ?_
    refine zW_s rfl ?_
    have hp105 := h.1; replace h := h.2
    have hp106 := h.1; replace h := h.2
    refine zW_p rfl ⟨hp105, hp106⟩ ?_
    refine zW_s rfl ?_
    refine zW_s rfl ?_
    exact h
set_option maxHeartbeats 4000000 in
theorem b77_29 {d : Nat} {r0 : Nat} {x1 : Int32} {x2 : Int32} {x3 : Int32} {σ : zH} {Q : Option Value → zH → Prop} (h : (if x2 ≤ x3 then Q none σ else (zK σ r0 = 7) ∧ (zK σ (zQ σ r0 2) = 20) ∧ (vp_in x3 (zN σ (zQ σ r0 2))) ∧ zM d 70 [.ref r0, .int x1, .int (zA σ (zQ σ r0 2) x3.toNatClampNeg)] σ (fun r σ105 => zqv r (zW (d + 1) 77 29 [(0, .ref r0), (1, .int x1), (2, .int x2), (3, .int (x3 + nI 1))] [] σ105 Q)))) : zW (d + 1) 77 29 [(0, .ref r0), (1, .int x1), (2, .int x2), (3, .int x3)] [] σ Q := by
  refine zW_s rfl ?_
  refine zW_s rfl ?_
  refine zW_s rfl ?_
  refine zW_if (fun (c101 : x2 ≤ x3) => ?_) (fun (c101 : ¬ (x2 ≤ x3)) => ?_)
  · rw [if_pos c101] at h
    refine zW_r rfl trivial ?_
    exact h
  · rw [if_neg c101] at h
    refine zW_s rfl ?_
    refine zW_s rfl ?_
    refine zW_s rfl ?_
    have hp102 := h.1; replace h := h.2
    refine zW_p rfl hp102 ?_
    refine zW_s rfl ?_
    have hp103 := h.1; replace h := h.2
    have hp104 := h.1; replace h := h.2
    refine zW_p rfl ⟨hp103, hp104⟩ ?_
    refine zW_c rfl hp102 (zM_m h ?_)
    intro r σ105 h
    replace h := zqv_e h
    obtain ⟨rfl, h⟩ := h
    refine zW_s rfl ?_
    refine zW_s rfl ?_
    exact h
set_option maxHeartbeats 4000000 in
theorem b78 {d : Nat} {r0 : Nat} {x1 : Int32} {x2 : Int32} {σ : zH} {Q : Option Value → zH → Prop} (h : (zK σ r0 = 7) ∧ zM d 61 [.ref r0, .int x1, .int x2] σ (fun r σ102 => zqi r (fun x103 => (if x103 = 0 then Q none σ102 else (zK σ102 r0 = 7) ∧ (zK σ102 (zQ σ102 r0 3) = 20) ∧ (vp_in x1 (zN σ102 (zQ σ102 r0 3))) ∧ (zK σ102 (zQ σ102 r0 1) = 20) ∧ (vp_in (((x1 * (nI 16)) + (zA σ102 (zQ σ102 r0 3) x1.toNatClampNeg)) - x2) (zN σ102 (zQ σ102 r0 1))) ∧ Q none (zsA σ102 (zQ σ102 r0 1) (((x1 * (nI 16)) + (zA σ102 (zQ σ102 r0 3) x1.toNatClampNeg)) - x2).toNatClampNeg ((zA σ102 (zQ σ102 r0 1) (((x1 * (nI 16)) + (zA σ102 (zQ σ102 r0 3) x1.toNatClampNeg)) - x2).toNatClampNeg) ^^^ (nI 16))))))) : zM (d + 1) 78 [.ref r0, .int x1, .int x2] σ Q := by
  unfold zM
  refine zW_s rfl ?_
  refine zW_s rfl ?_
  refine zW_s rfl ?_
  have hp101 := h.1; replace h := h.2
  refine zW_c rfl hp101 (zM_m h ?_)
  intro r σ102 h
  replace h := zqi_e h
  obtain ⟨x103, rfl, h⟩ := h
  refine zW_s rfl ?_
  refine zW_if (fun (c104 : x103 = 0) => ?_) (fun (c104 : ¬ (x103 = 0)) => ?_)
  · rw [if_pos c104] at h
    refine zW_r rfl trivial ?_
    exact h
  · rw [if_neg c104] at h
    refine zW_s rfl ?_
    have hp105 := h.1; replace h := h.2
    refine zW_p rfl hp105 ?_
    refine zW_s rfl ?_
    refine zW_s rfl ?_
    refine zW_s rfl ?_
    refine zW_s rfl ?_
    refine zW_p rfl hp105 ?_
    refine zW_s rfl ?_
    have hp106 := h.1; replace h := h.2
    have hp107 := h.1; replace h := h.2
    refine zW_p rfl ⟨hp106, hp107⟩ ?_
    refine zW_s rfl ?_
    refine zW_s rfl ?_
    refine zW_s rfl ?_
    refine zW_s rfl ?_
    have hp108 := h.1; replace h := h.2
    have hp109 := h.1; replace h := h.2
    refine zW_p rfl ⟨hp108, hp109⟩ ?_
    refine zW_s rfl ?_
    refine zW_s rfl ?_
    refine zW_p rfl ⟨hp108, hp109⟩ ?_
    refine zW_r rfl trivial ?_
    exact h
set_option maxHeartbeats 4000000 in
theorem b79 {d : Nat} {r0 : Nat} {r1 : Nat} {x2 : Int32} {σ : zH} {Q : Option Value → zH → Prop} (h : (zK σ r1 = 6) ∧ (zK σ r0 = 7) ∧ (zK σ (zQ σ r0 3) = 20) ∧ (vp_in (zI σ r1 1) (zN σ (zQ σ r0 3))) ∧ (vp_in (zI σ r1 2) (zN σ (zQ σ r0 3))) ∧ zW (d + 1) 79 33 [(0, .ref r0), (1, .ref r1), (3, .int (zI σ r1 1)), (4, .int (zI σ r1 2)), (5, .int ((zA σ (zQ σ r0 3) (zI σ r1 1).toNatClampNeg) + (zA σ (zQ σ r0 3) (zI σ r1 2).toNatClampNeg))), (6, .int x2), (7, .int (nI 0))] [] σ Q) : zM (d + 1) 79 [.ref r0, .ref r1, .int x2] σ Q := by
  unfold zM
  refine zW_s rfl ?_
  have hp101 := h.1; replace h := h.2
  refine zW_p rfl hp101 ?_
  refine zW_s rfl ?_
  refine zW_s rfl ?_
  refine zW_p rfl hp101 ?_
  refine zW_s rfl ?_
  refine zW_s rfl ?_
  have hp102 := h.1; replace h := h.2
  refine zW_p rfl hp102 ?_
  refine zW_s rfl ?_
  have hp103 := h.1; replace h := h.2
  have hp104 := h.1; replace h := h.2
  refine zW_p rfl ⟨hp103, hp104⟩ ?_
  refine zW_s rfl ?_
  refine zW_p rfl hp102 ?_
  refine zW_s rfl ?_
  have hp105 := h.1; replace h := h.2
  refine zW_p rfl ⟨hp103, hp105⟩ ?_
  refine zW_s rfl ?_
  refine zW_s rfl ?_
  refine zW_s rfl ?_
  refine zW_s rfl ?_
  refine zW_s rfl ?_
  refine zW_s rfl ?_
  refine zW_k [0, 1, 3, 4, 5, 6, 7] rfl ?_
  exact h
set_option maxHeartbeats 4000000 in
theorem b79_33 {d : Nat} {r0 : Nat} {r1 : Nat} {x3 : Int32} {x4 : Int32} {x5 : Int32} {x6 : Int32} {x7 : Int32} {σ : zH} {Q : Option Value → zH → Prop} (h : (if x5 ≤ x7 then (zK σ r1 = 6) ∧ (zK σ r0 = 7) ∧ zM d 75 [.ref r0, .int (zI σ r1 3), .int x5] σ (fun r σ104 => zqv r (Q none σ104)) else (if (nI 16) ≤ x7 then (zK σ r1 = 6) ∧ (zK σ r0 = 7) ∧ zM d 75 [.ref r0, .int (zI σ r1 3), .int x5] σ (fun r σ108 => zqv r (Q none σ108)) else (zK σ r0 = 7) ∧ (zK σ (zQ σ r0 3) = 20) ∧ (vp_in x3 (zN σ (zQ σ r0 3))) ∧ (vp_in x4 (zN σ (zQ σ r0 3))) ∧ zM d 68 [.int ((zA σ (zQ σ r0 3) x3.toNatClampNeg) - (nI 1)), .int (zA σ (zQ σ r0 3) x4.toNatClampNeg)] σ (fun r σ113 => zqi r (fun x114 => (if x114 ≤ x6 then (zK σ113 r0 = 7) ∧ zM d 71 [.ref r0, .int x4] σ113 (fun r σ117 => zqi r (fun x118 => (zK σ117 (zQ σ113 r0 2) = 20) ∧ (vp_in x7 (zN σ117 (zQ σ113 r0 2))) ∧ zW (d + 1) 79 33 [(0, .ref r0), (1, .ref r1), (3, .int x3), (4, .int x4), (5, .int x5), (6, .int (x6 - x114)), (7, .int (x7 + nI 1))] [] (zsA σ117 (zQ σ113 r0 2) x7.toNatClampNeg x118) Q)) else (zK σ113 r0 = 7) ∧ zM d 71 [.ref r0, .int x3] σ113 (fun r σ122 => zqi r (fun x123 => (zK σ122 (zQ σ113 r0 2) = 20) ∧ (vp_in x7 (zN σ122 (zQ σ113 r0 2))) ∧ zW (d + 1) 79 33 [(0, .ref r0), (1, .ref r1), (3, .int x3), (4, .int x4), (5, .int x5), (6, .int x6), (7, .int (x7 + nI 1))] [] (zsA σ122 (zQ σ113 r0 2) x7.toNatClampNeg x123) Q)))))))) : zW (d + 1) 79 33 [(0, .ref r0), (1, .ref r1), (3, .int x3), (4, .int x4), (5, .int x5), (6, .int x6), (7, .int x7)] [] σ Q := by
  refine zW_s rfl ?_
  refine zW_s rfl ?_
  refine zW_s rfl ?_
  refine zW_if (fun (c101 : x5 ≤ x7) => ?_) (fun (c101 : ¬ (x5 ≤ x7)) => ?_)
  · rw [if_pos c101] at h
    refine zW_s rfl ?_
    refine zW_s rfl ?_
    have hp102 := h.1; replace h := h.2
    refine zW_p rfl hp102 ?_
    refine zW_s rfl ?_
    have hp103 := h.1; replace h := h.2
    refine zW_c rfl hp103 (zM_m h ?_)
    intro r σ104 h
    replace h := zqv_e h
    obtain ⟨rfl, h⟩ := h
    refine zW_r rfl trivial ?_
    exact h
  · rw [if_neg c101] at h
    refine zW_s rfl ?_
    refine zW_s rfl ?_
    refine zW_s rfl ?_
    refine zW_if (fun (c105 : (nI 16) ≤ x7) => ?_) (fun (c105 : ¬ ((nI 16) ≤ x7)) => ?_)
    · rw [if_pos c105] at h
      refine zW_s rfl ?_
      refine zW_s rfl ?_
      have hp106 := h.1; replace h := h.2
      refine zW_p rfl hp106 ?_
      refine zW_s rfl ?_
      have hp107 := h.1; replace h := h.2
      refine zW_c rfl hp107 (zM_m h ?_)
      intro r σ108 h
      replace h := zqv_e h
      obtain ⟨rfl, h⟩ := h
      refine zW_r rfl trivial ?_
      exact h
    · rw [if_neg c105] at h
      refine zW_s rfl ?_
      have hp109 := h.1; replace h := h.2
      refine zW_p rfl hp109 ?_
      refine zW_s rfl ?_
      have hp110 := h.1; replace h := h.2
      have hp111 := h.1; replace h := h.2
      refine zW_p rfl ⟨hp110, hp111⟩ ?_
      refine zW_s rfl ?_
      refine zW_s rfl ?_
      refine zW_s rfl ?_
      refine zW_p rfl hp109 ?_
      refine zW_s rfl ?_
      have hp112 := h.1; replace h := h.2
      refine zW_p rfl ⟨hp110, hp112⟩ ?_
      refine zW_c rfl trivial (zM_m h ?_)
      intro r σ113 h
      replace h := zqi_e h
      obtain ⟨x114, rfl, h⟩ := h
      refine zW_s rfl ?_
      refine zW_s rfl ?_
      refine zW_s rfl ?_
      refine zW_s rfl ?_
      refine zW_if (fun (c115 : x114 ≤ x6) => ?_) (fun (c115 : ¬ (x114 ≤ x6)) => ?_)
      · rw [if_pos c115] at h
        refine zW_s rfl ?_
        refine zW_s rfl ?_
        refine zW_s rfl ?_
        refine zW_s rfl ?_
        refine zW_s rfl ?_
        have hp116 := h.1; replace h := h.2
        refine zW_p rfl hp116 ?_
        refine zW_s rfl ?_
        refine zW_s rfl ?_
        refine zW_s rfl ?_
        refine zW_c rfl hp116 (zM_m h ?_)
        intro r σ117 h
        replace h := zqi_e h
        obtain ⟨x118, rfl, h⟩ := h
        have hp119 := h.1; replace h := h.2
        have hp120 := h.1; replace h := h.2
        refine zW_p rfl ⟨hp119, hp120⟩ ?_
        refine zW_s rfl ?_
        refine zW_s rfl ?_
        refine zW_k [0, 1, 2, 3, 4, 5, 6] rfl ?_
        exact h
      · rw [if_neg c115] at h
        refine zW_s rfl ?_
        have hp121 := h.1; replace h := h.2
        refine zW_p rfl hp121 ?_
        refine zW_s rfl ?_
        refine zW_s rfl ?_
        refine zW_s rfl ?_
        refine zW_c rfl hp121 (zM_m h ?_)
        intro r σ122 h
        replace h := zqi_e h
        obtain ⟨x123, rfl, h⟩ := h
        have hp124 := h.1; replace h := h.2
        have hp125 := h.1; replace h := h.2
        refine zW_p rfl ⟨hp124, hp125⟩ ?_
        refine zW_s rfl ?_
        refine zW_s rfl ?_
        refine zW_s rfl ?_
        refine zW_k [0, 1, 2, 3, 4, 5, 6] rfl ?_
        exact h
set_option maxHeartbeats 4000000 in
theorem b80 {d : Nat} {r0 : Nat} {r1 : Nat} {σ : zH} {Q : Option Value → zH → Prop} (h : (zK σ r1 = 6) ∧ (zK σ r0 = 7) ∧ (zK σ (zQ σ r0 3) = 20) ∧ (vp_in (zI σ r1 1) (zN σ (zQ σ r0 3))) ∧ (vp_in (zI σ r1 2) (zN σ (zQ σ r0 3))) ∧ zW (d + 1) 80 31 [(0, .ref r0), (1, .ref r1), (2, .int (zI σ r1 1)), (3, .int (zI σ r1 2)), (4, .int ((zA σ (zQ σ r0 3) (zI σ r1 1).toNatClampNeg) + (zA σ (zQ σ r0 3) (zI σ r1 2).toNatClampNeg))), (5, .int (nI 1)), (6, .int (nI 0))] [] σ Q) : zM (d + 1) 80 [.ref r0, .ref r1] σ Q := by
  unfold zM
  refine zW_s rfl ?_
  have hp101 := h.1; replace h := h.2
  refine zW_p rfl hp101 ?_
  refine zW_s rfl ?_
  refine zW_s rfl ?_
  refine zW_p rfl hp101 ?_
  refine zW_s rfl ?_
  refine zW_s rfl ?_
  have hp102 := h.1; replace h := h.2
  refine zW_p rfl hp102 ?_
  refine zW_s rfl ?_
  have hp103 := h.1; replace h := h.2
  have hp104 := h.1; replace h := h.2
  refine zW_p rfl ⟨hp103, hp104⟩ ?_
  refine zW_s rfl ?_
  refine zW_p rfl hp102 ?_
  refine zW_s rfl ?_
  have hp105 := h.1; replace h := h.2
  refine zW_p rfl ⟨hp103, hp105⟩ ?_
  refine zW_s rfl ?_
  refine zW_s rfl ?_
  refine zW_s rfl ?_
  refine zW_s rfl ?_
  refine zW_s rfl ?_
  refine zW_s rfl ?_
  exact h
set_option maxHeartbeats 4000000 in
theorem b80_31 {d : Nat} {r0 : Nat} {r1 : Nat} {x2 : Int32} {x3 : Int32} {x4 : Int32} {x5 : Int32} {x6 : Int32} {σ : zH} {Q : Option Value → zH → Prop} (h : (if x4 ≤ x6 then (zK σ r1 = 6) ∧ (zK σ r0 = 7) ∧ zM d 75 [.ref r0, .int (zI σ r1 3), .int x4] σ (fun r σ104 => zqv r (Q none σ104)) else (if (nI 16) ≤ x6 then (zK σ r1 = 6) ∧ (zK σ r0 = 7) ∧ zM d 75 [.ref r0, .int (zI σ r1 3), .int x4] σ (fun r σ108 => zqv r (Q none σ108)) else (zK σ r0 = 7) ∧ (zK σ (zQ σ r0 3) = 20) ∧ (vp_in x3 (zN σ (zQ σ r0 3))) ∧ (if (zA σ (zQ σ r0 3) x3.toNatClampNeg) = 0 then zW (d + 1) 80 73 [(0, .ref r0), (1, .ref r1), (2, .int x2), (3, .int x3), (4, .int x4), (5, .int x5), (6, .int x6)] [.int (nI 1)] σ Q else (if x5 = 0 then zW (d + 1) 80 73 [(0, .ref r0), (1, .ref r1), (2, .int x2), (3, .int x3), (4, .int x4), (5, .int x5), (6, .int x6)] [.int (nI 0)] σ Q else (vp_in x2 (zN σ (zQ σ r0 3))) ∧ zM d 71 [.ref r0, .int (if (if (zA σ (zQ σ r0 3) x2.toNatClampNeg) ≤ 0 then nI 0 else nI 1) = 0 then x3 else x2)] σ (fun r σ117 => zqi r (fun x118 => (zK σ117 (zQ σ r0 2) = 20) ∧ (vp_in x6 (zN σ117 (zQ σ r0 2))) ∧ zW (d + 1) 80 31 [(0, .ref r0), (1, .ref r1), (2, .int x2), (3, .int x3), (4, .int x4), (5, .int (if ¬ x5 = 0 then nI 0 else nI 1)), (6, .int (x6 + nI 1))] [] (zsA σ117 (zQ σ r0 2) x6.toNatClampNeg x118) Q))))))) : zW (d + 1) 80 31 [(0, .ref r0), (1, .ref r1), (2, .int x2), (3, .int x3), (4, .int x4), (5, .int x5), (6, .int x6)] [] σ Q := by
  refine zW_s rfl ?_
  refine zW_s rfl ?_
  refine zW_s rfl ?_
  refine zW_if (fun (c101 : x4 ≤ x6) => ?_) (fun (c101 : ¬ (x4 ≤ x6)) => ?_)
  · rw [if_pos c101] at h
    refine zW_s rfl ?_
    refine zW_s rfl ?_
    have hp102 := h.1; replace h := h.2
    refine zW_p rfl hp102 ?_
    refine zW_s rfl ?_
    have hp103 := h.1; replace h := h.2
    refine zW_c rfl hp103 (zM_m h ?_)
    intro r σ104 h
    replace h := zqv_e h
    obtain ⟨rfl, h⟩ := h
    refine zW_r rfl trivial ?_
    exact h
  · rw [if_neg c101] at h
    refine zW_s rfl ?_
    refine zW_s rfl ?_
    refine zW_s rfl ?_
    refine zW_if (fun (c105 : (nI 16) ≤ x6) => ?_) (fun (c105 : ¬ ((nI 16) ≤ x6)) => ?_)
    · rw [if_pos c105] at h
      refine zW_s rfl ?_
      refine zW_s rfl ?_
      have hp106 := h.1; replace h := h.2
      refine zW_p rfl hp106 ?_
      refine zW_s rfl ?_
      have hp107 := h.1; replace h := h.2
      refine zW_c rfl hp107 (zM_m h ?_)
      intro r σ108 h
      replace h := zqv_e h
      obtain ⟨rfl, h⟩ := h
      refine zW_r rfl trivial ?_
      exact h
    · rw [if_neg c105] at h
      refine zW_s rfl ?_
      have hp109 := h.1; replace h := h.2
      refine zW_p rfl hp109 ?_
      refine zW_s rfl ?_
      have hp110 := h.1; replace h := h.2
      have hp111 := h.1; replace h := h.2
      refine zW_p rfl ⟨hp110, hp111⟩ ?_
      refine zW_s rfl ?_
      refine zW_if (fun (c112 : (zA σ (zQ σ r0 3) x3.toNatClampNeg) = 0) => ?_) (fun (c112 : ¬ ((zA σ (zQ σ r0 3) x3.toNatClampNeg) = 0)) => ?_)
      · rw [if_pos c112] at h
        refine zW_s rfl ?_
        refine zW_s rfl ?_
        exact h
      · rw [if_neg c112] at h
        refine zW_s rfl ?_
        refine zW_s rfl ?_
        refine zW_if (fun (c113 : x5 = 0) => ?_) (fun (c113 : ¬ (x5 = 0)) => ?_)
        · rw [if_pos c113] at h
          refine zW_s rfl ?_
          exact h
        · rw [if_neg c113] at h
          refine zW_s rfl ?_
          refine zW_p rfl hp109 ?_
          refine zW_s rfl ?_
          have hp114 := h.1; replace h := h.2
          refine zW_p rfl ⟨hp110, hp114⟩ ?_
          refine zW_s rfl ?_
          have k : ∀ v : Int32, v = (if (zA σ (zQ σ r0 3) x2.toNatClampNeg) ≤ 0 then nI 0 else nI 1) → zW (d + 1) 80 73 [(0, .ref r0), (1, .ref r1), (2, .int x2), (3, .int x3), (4, .int x4), (5, .int x5), (6, .int x6)] [.int v] σ Q := by
            intro v hv
            subst hv
            refine zW_s rfl ?_
            refine zW_s rfl ?_
            refine zW_p rfl hp109 ?_
            refine zW_s rfl ?_
            refine zW_s rfl ?_
            refine zW_s rfl ?_
            refine zW_s rfl ?_
            have k : ∀ v : Int32, v = (if (if (zA σ (zQ σ r0 3) x2.toNatClampNeg) ≤ 0 then nI 0 else nI 1) = 0 then x3 else x2) → zW (d + 1) 80 92 [(0, .ref r0), (1, .ref r1), (2, .int x2), (3, .int x3), (4, .int x4), (5, .int x5), (6, .int x6), (7, .int (if (zA σ (zQ σ r0 3) x2.toNatClampNeg) ≤ 0 then nI 0 else nI 1))] [.int v, .ref r0, .int x6, .ref (zQ σ r0 2)] σ Q := by
              intro v hv
              subst hv
              refine zW_c rfl hp109 (zM_m h ?_)
              intro r σ117 h
              replace h := zqi_e h
              obtain ⟨x118, rfl, h⟩ := h
              have hp119 := h.1; replace h := h.2
              have hp120 := h.1; replace h := h.2
              refine zW_p rfl ⟨hp119, hp120⟩ ?_
              refine zW_s rfl ?_
              refine zW_s rfl ?_
              have k : ∀ v : Int32, v = (if ¬ x5 = 0 then nI 0 else nI 1) → zW (d + 1) 80 106 [(0, .ref r0), (1, .ref r1), (2, .int x2), (3, .int x3), (4, .int x4), (5, .int x5), (6, .int x6), (7, .int (if (zA σ (zQ σ r0 3) x2.toNatClampNeg) ≤ 0 then nI 0 else nI 1))] [.int v] (zsA σ117 (zQ σ r0 2) x6.toNatClampNeg x118) Q := by
                intro v hv
                subst hv
                refine zW_s rfl ?_
                refine zW_s rfl ?_
                refine zW_s rfl ?_
                refine zW_k [0, 1, 2, 3, 4, 5, 6] rfl ?_
                exact h
              refine zW_if (fun (c121 : ¬ x5 = 0) => ?_) (fun (c121 : ¬ (¬ x5 = 0)) => ?_)
              · replace k := k _ (if_pos c121).symm
                refine zW_s rfl ?_
                exact k
              · replace k := k _ (if_neg c121).symm
                refine zW_s rfl ?_
                refine zW_s rfl ?_
                exact k
            refine zW_if (fun (c116 : (if (zA σ (zQ σ r0 3) x2.toNatClampNeg) ≤ 0 then nI 0 else nI 1) = 0) => ?_) (fun (c116 : ¬ ((if (zA σ (zQ σ r0 3) x2.toNatClampNeg) ≤ 0 then nI 0 else nI 1) = 0)) => ?_)
            · replace k := k _ (if_pos c116).symm
              refine zW_s rfl ?_
              exact k
            · replace k := k _ (if_neg c116).symm
              refine zW_s rfl ?_
              refine zW_s rfl ?_
              exact k
          refine zW_if (fun (c115 : (zA σ (zQ σ r0 3) x2.toNatClampNeg) ≤ 0) => ?_) (fun (c115 : ¬ ((zA σ (zQ σ r0 3) x2.toNatClampNeg) ≤ 0)) => ?_)
          · replace k := k _ (if_pos c115).symm
            refine zW_s rfl ?_
            exact k
          · replace k := k _ (if_neg c115).symm
            refine zW_s rfl ?_
            refine zW_s rfl ?_
            exact k
set_option maxHeartbeats 4000000 in
theorem b80_73 {d : Nat} {r0 : Nat} {r1 : Nat} {x2 : Int32} {x3 : Int32} {x4 : Int32} {x5 : Int32} {x6 : Int32} {v0 : Int32} {σ : zH} {Q : Option Value → zH → Prop} (h : (zK σ r0 = 7) ∧ zM d 71 [.ref r0, .int (if v0 = 0 then x3 else x2)] σ (fun r σ103 => zqi r (fun x104 => (zK σ103 (zQ σ r0 2) = 20) ∧ (vp_in x6 (zN σ103 (zQ σ r0 2))) ∧ zW (d + 1) 80 31 [(0, .ref r0), (1, .ref r1), (2, .int x2), (3, .int x3), (4, .int x4), (5, .int (if ¬ x5 = 0 then nI 0 else nI 1)), (6, .int (x6 + nI 1))] [] (zsA σ103 (zQ σ r0 2) x6.toNatClampNeg x104) Q))) : zW (d + 1) 80 73 [(0, .ref r0), (1, .ref r1), (2, .int x2), (3, .int x3), (4, .int x4), (5, .int x5), (6, .int x6)] [.int v0] σ Q := by
  refine zW_s rfl ?_
  refine zW_s rfl ?_
  have hp101 := h.1; replace h := h.2
  refine zW_p rfl hp101 ?_
  refine zW_s rfl ?_
  refine zW_s rfl ?_
  refine zW_s rfl ?_
  refine zW_s rfl ?_
  have k : ∀ v : Int32, v = (if v0 = 0 then x3 else x2) → zW (d + 1) 80 92 [(0, .ref r0), (1, .ref r1), (2, .int x2), (3, .int x3), (4, .int x4), (5, .int x5), (6, .int x6), (7, .int v0)] [.int v, .ref r0, .int x6, .ref (zQ σ r0 2)] σ Q := by
    intro v hv
    subst hv
    refine zW_c rfl hp101 (zM_m h ?_)
    intro r σ103 h
    replace h := zqi_e h
    obtain ⟨x104, rfl, h⟩ := h
    have hp105 := h.1; replace h := h.2
    have hp106 := h.1; replace h := h.2
    refine zW_p rfl ⟨hp105, hp106⟩ ?_
    refine zW_s rfl ?_
    refine zW_s rfl ?_
    have k : ∀ v : Int32, v = (if ¬ x5 = 0 then nI 0 else nI 1) → zW (d + 1) 80 106 [(0, .ref r0), (1, .ref r1), (2, .int x2), (3, .int x3), (4, .int x4), (5, .int x5), (6, .int x6), (7, .int v0)] [.int v] (zsA σ103 (zQ σ r0 2) x6.toNatClampNeg x104) Q := by
      intro v hv
      subst hv
      refine zW_s rfl ?_
      refine zW_s rfl ?_
      refine zW_s rfl ?_
      refine zW_k [0, 1, 2, 3, 4, 5, 6] rfl ?_
      exact h
    refine zW_if (fun (c107 : ¬ x5 = 0) => ?_) (fun (c107 : ¬ (¬ x5 = 0)) => ?_)
    · replace k := k _ (if_pos c107).symm
      refine zW_s rfl ?_
      exact k
    · replace k := k _ (if_neg c107).symm
      refine zW_s rfl ?_
      refine zW_s rfl ?_
      exact k
  refine zW_if (fun (c102 : v0 = 0) => ?_) (fun (c102 : ¬ (v0 = 0)) => ?_)
  · replace k := k _ (if_pos c102).symm
    refine zW_s rfl ?_
    exact k
  · replace k := k _ (if_neg c102).symm
    refine zW_s rfl ?_
    refine zW_s rfl ?_
    exact k
set_option maxHeartbeats 4000000 in
theorem b81 {d : Nat} {r0 : Nat} {x1 : Int32} {x2 : Int32} {σ : zH} {Q : Option Value → zH → Prop} (h : zW (d + 1) 81 2 [(0, .ref r0), (1, .int x1), (2, .int x2), (3, .int (nI 0))] [] σ Q) : zM (d + 1) 81 [.ref r0, .int x1, .int x2] σ Q := by
  unfold zM
  refine zW_s rfl ?_
  refine zW_s rfl ?_
  exact h
set_option maxHeartbeats 4000000 in
theorem b81_2 {d : Nat} {r0 : Nat} {x1 : Int32} {x2 : Int32} {x3 : Int32} {σ : zH} {Q : Option Value → zH → Prop} (h : (if (nI 9) ≤ x3 then Q none σ else (zK σ r0 = 7) ∧ (zK σ (zQ σ r0 3) = 20) ∧ (vp_in x1 (zN σ (zQ σ r0 3))) ∧ (if (zA σ (zQ σ r0 3) x1.toNatClampNeg) ≤ 0 then Q none σ else zM d 71 [.ref r0, .int x1] σ (fun r σ106 => zqi r (fun x107 => (zK σ106 r0 = 7) ∧ zM d 70 [.ref r0, .int x2, .int x107] σ106 (fun r σ109 => zqv r ((zK σ109 r0 = 7) ∧ (zK σ109 (zQ σ109 r0 3) = 20) ∧ (vp_in x1 (zN σ109 (zQ σ109 r0 3))) ∧ zM d 72 [.ref r0, .int x1, .int (if (zA σ109 (zQ σ109 r0 3) x1.toNatClampNeg) < (nI 1) then (zA σ109 (zQ σ109 r0 3) x1.toNatClampNeg) else (nI 1))] σ109 (fun r σ113 => zqv r (zW (d + 1) 81 2 [(0, .ref r0), (1, .int x1), (2, .int x2), (3, .int (x3 + nI 1))] [] σ113 Q))))))))) : zW (d + 1) 81 2 [(0, .ref r0), (1, .int x1), (2, .int x2), (3, .int x3)] [] σ Q := by
  refine zW_s rfl ?_
  refine zW_s rfl ?_
  refine zW_s rfl ?_
  refine zW_if (fun (c101 : (nI 9) ≤ x3) => ?_) (fun (c101 : ¬ ((nI 9) ≤ x3)) => ?_)
  · rw [if_pos c101] at h
    refine zW_r rfl trivial ?_
    exact h
  · rw [if_neg c101] at h
    refine zW_s rfl ?_
    have hp102 := h.1; replace h := h.2
    refine zW_p rfl hp102 ?_
    refine zW_s rfl ?_
    have hp103 := h.1; replace h := h.2
    have hp104 := h.1; replace h := h.2
    refine zW_p rfl ⟨hp103, hp104⟩ ?_
    refine zW_s rfl ?_
    refine zW_if (fun (c105 : (zA σ (zQ σ r0 3) x1.toNatClampNeg) ≤ 0) => ?_) (fun (c105 : ¬ ((zA σ (zQ σ r0 3) x1.toNatClampNeg) ≤ 0)) => ?_)
    · rw [if_pos c105] at h
      refine zW_r rfl trivial ?_
      exact h
    · rw [if_neg c105] at h
      refine zW_s rfl ?_
      refine zW_s rfl ?_
      refine zW_s rfl ?_
      refine zW_s rfl ?_
      refine zW_c rfl hp102 (zM_m h ?_)
      intro r σ106 h
      replace h := zqi_e h
      obtain ⟨x107, rfl, h⟩ := h
      have hp108 := h.1; replace h := h.2
      refine zW_c rfl hp108 (zM_m h ?_)
      intro r σ109 h
      replace h := zqv_e h
      obtain ⟨rfl, h⟩ := h
      refine zW_s rfl ?_
      refine zW_s rfl ?_
      refine zW_s rfl ?_
      refine zW_s rfl ?_
      have hp110 := h.1; replace h := h.2
      refine zW_p rfl hp110 ?_
      refine zW_s rfl ?_
      have hp111 := h.1; replace h := h.2
      have hp112 := h.1; replace h := h.2
      refine zW_p rfl ⟨hp111, hp112⟩ ?_
      refine zW_s rfl ?_
      refine zW_c rfl hp110 (zM_m h ?_)
      intro r σ113 h
      replace h := zqv_e h
      obtain ⟨rfl, h⟩ := h
      refine zW_s rfl ?_
      refine zW_s rfl ?_
      exact h
set_option maxHeartbeats 4000000 in
theorem b82 {d : Nat} {r0 : Nat} {x1 : Int32} {x2 : Int32} {σ : zH} {Q : Option Value → zH → Prop} (h : zW (d) 82 2 [(0, .ref r0), (1, .int x1), (2, .int x2), (3, .int (nI 0))] [] σ Q) : zM (d) 82 [.ref r0, .int x1, .int x2] σ Q := by
  unfold zM
  refine zW_s rfl ?_
  refine zW_s rfl ?_
  exact h
set_option maxHeartbeats 4000000 in
theorem b82_2 {d : Nat} {r0 : Nat} {x1 : Int32} {x2 : Int32} {x3 : Int32} {σ : zH} {Q : Option Value → zH → Prop} (h : (if (nI 16) ≤ x3 then (zK σ r0 = 7) ∧ (zK σ (zQ σ r0 3) = 20) ∧ (vp_in x1 (zN σ (zQ σ r0 3))) ∧ (vp_in x2 (zN σ (zQ σ r0 3))) ∧ Q none (zsA (zsA σ (zQ σ r0 3) x1.toNatClampNeg (zA σ (zQ σ r0 3) x2.toNatClampNeg)) (zQ σ r0 3) x2.toNatClampNeg (zA σ (zQ σ r0 3) x1.toNatClampNeg)) else (zK σ r0 = 7) ∧ (zK σ (zQ σ r0 1) = 20) ∧ (vp_in ((x1 * (nI 16)) + x3) (zN σ (zQ σ r0 1))) ∧ (vp_in ((x2 * (nI 16)) + x3) (zN σ (zQ σ r0 1))) ∧ zW (d) 82 2 [(0, .ref r0), (1, .int x1), (2, .int x2), (3, .int (x3 + nI 1))] [] (zsA (zsA σ (zQ σ r0 1) ((x1 * (nI 16)) + x3).toNatClampNeg (zA σ (zQ σ r0 1) ((x2 * (nI 16)) + x3).toNatClampNeg)) (zQ σ r0 1) ((x2 * (nI 16)) + x3).toNatClampNeg (zA σ (zQ σ r0 1) ((x1 * (nI 16)) + x3).toNatClampNeg)) Q)) : zW (d) 82 2 [(0, .ref r0), (1, .int x1), (2, .int x2), (3, .int x3)] [] σ Q := by
  refine zW_s rfl ?_
  refine zW_s rfl ?_
  refine zW_s rfl ?_
  refine zW_if (fun (c101 : (nI 16) ≤ x3) => ?_) (fun (c101 : ¬ ((nI 16) ≤ x3)) => ?_)
  · rw [if_pos c101] at h
    refine zW_s rfl ?_
    have hp102 := h.1; replace h := h.2
    refine zW_p rfl hp102 ?_
    refine zW_s rfl ?_
    have hp103 := h.1; replace h := h.2
    have hp104 := h.1; replace h := h.2
    refine zW_p rfl ⟨hp103, hp104⟩ ?_
    refine zW_s rfl ?_
    refine zW_s rfl ?_
    refine zW_p rfl hp102 ?_
    refine zW_s rfl ?_
    refine zW_s rfl ?_
    refine zW_p rfl hp102 ?_
    refine zW_s rfl ?_
    have hp105 := h.1; replace h := h.2
    refine zW_p rfl ⟨hp103, hp105⟩ ?_
    refine zW_p rfl ⟨hp103, hp104⟩ ?_
    refine zW_s rfl ?_
    refine zW_p rfl hp102 ?_
    refine zW_s rfl ?_
    refine zW_s rfl ?_
    refine zW_p rfl ⟨hp103, hp105⟩ ?_
    refine zW_r rfl trivial ?_
    exact h
  · rw [if_neg c101] at h
    refine zW_s rfl ?_
    have hp106 := h.1; replace h := h.2
    refine zW_p rfl hp106 ?_
    refine zW_s rfl ?_
    refine zW_s rfl ?_
    refine zW_s rfl ?_
    refine zW_s rfl ?_
    refine zW_s rfl ?_
    have hp107 := h.1; replace h := h.2
    have hp108 := h.1; replace h := h.2
    refine zW_p rfl ⟨hp107, hp108⟩ ?_
    refine zW_s rfl ?_
    refine zW_s rfl ?_
    refine zW_p rfl hp106 ?_
    refine zW_s rfl ?_
    refine zW_s rfl ?_
    refine zW_s rfl ?_
    refine zW_s rfl ?_
    refine zW_s rfl ?_
    refine zW_s rfl ?_
    refine zW_p rfl hp106 ?_
    refine zW_s rfl ?_
    refine zW_s rfl ?_
    refine zW_s rfl ?_
    refine zW_s rfl ?_
    refine zW_s rfl ?_
    have hp109 := h.1; replace h := h.2
    refine zW_p rfl ⟨hp107, hp109⟩ ?_
    refine zW_p rfl ⟨hp107, hp108⟩ ?_
    refine zW_s rfl ?_
    refine zW_p rfl hp106 ?_
    refine zW_s rfl ?_
    refine zW_s rfl ?_
    refine zW_s rfl ?_
    refine zW_s rfl ?_
    refine zW_s rfl ?_
    refine zW_s rfl ?_
    refine zW_p rfl ⟨hp107, hp109⟩ ?_
    refine zW_s rfl ?_
    refine zW_s rfl ?_
    refine zW_k [0, 1, 2, 3] rfl ?_
    exact h
set_option maxHeartbeats 4000000 in
theorem b83 {d : Nat} {r0 : Nat} {x1 : Int32} {x2 : Int32} {σ : zH} {Q : Option Value → zH → Prop} (h : (zK σ r0 = 7) ∧ zM d 61 [.ref r0, .int x1, .int x2] σ (fun r σ102 => zqi r (fun x103 => (if x103 = 0 then Q none σ102 else (zK σ102 r0 = 7) ∧ Q none (zsI σ102 r0 4 (x103 &&& (nI 15))))))) : zM (d + 1) 83 [.ref r0, .int x1, .int x2] σ Q := by
  unfold zM
  refine zW_s rfl ?_
  refine zW_s rfl ?_
  refine zW_s rfl ?_
  have hp101 := h.1; replace h := h.2
  refine zW_c rfl hp101 (zM_m h ?_)
  intro r σ102 h
  replace h := zqi_e h
  obtain ⟨x103, rfl, h⟩ := h
  refine zW_s rfl ?_
  refine zW_s rfl ?_
  refine zW_s rfl ?_
  refine zW_if (fun (c104 : x103 = 0) => ?_) (fun (c104 : ¬ (x103 = 0)) => ?_)
  · rw [if_pos c104] at h
    refine zW_r rfl trivial ?_
    exact h
  · rw [if_neg c104] at h
    refine zW_s rfl ?_
    refine zW_s rfl ?_
    refine zW_s rfl ?_
    refine zW_s rfl ?_
    have hp105 := h.1; replace h := h.2
    refine zW_p rfl hp105 ?_
    refine zW_r rfl trivial ?_
    exact h
set_option maxHeartbeats 4000000 in
theorem b85 {d : Nat} {r0 : Nat} {x1 : Int32} {σ : zH} {Q : Option Value → zH → Prop} (h : zW (d) 85 3 [(0, .ref r0), (1, .int x1), (2, .int (nI 24))] [] σ Q) : zM (d) 85 [.ref r0, .int x1] σ Q := by
  unfold zM
  refine zW_s rfl ?_
  refine zW_s rfl ?_
  exact h
set_option maxHeartbeats 4000000 in
theorem b85_3 {d : Nat} {r0 : Nat} {x1 : Int32} {x2 : Int32} {σ : zH} {Q : Option Value → zH → Prop} (h : (if x2 < 0 then Q none σ else (zK σ r0 = 8) ∧ (if (nI 900) ≤ (zI σ r0 1) then Q none σ else (zK σ (zQ σ r0 0) = 20) ∧ (vp_in (zI σ r0 1) (zN σ (zQ σ r0 0))) ∧ zW (d) 85 3 [(0, .ref r0), (1, .int x1), (2, .int (x2 + (-8)))] [] (zsI (zsA σ (zQ σ r0 0) (zI σ r0 1).toNatClampNeg ((zush x1 x2) &&& (nI 255))) r0 1 ((zI σ r0 1) + (nI 1))) Q))) : zW (d) 85 3 [(0, .ref r0), (1, .int x1), (2, .int x2)] [] σ Q := by
  refine zW_s rfl ?_
  refine zW_s rfl ?_
  refine zW_if (fun (c101 : x2 < 0) => ?_) (fun (c101 : ¬ (x2 < 0)) => ?_)
  · rw [if_pos c101] at h
    refine zW_r rfl trivial ?_
    exact h
  · rw [if_neg c101] at h
    refine zW_s rfl ?_
    have hp102 := h.1; replace h := h.2
    refine zW_p rfl hp102 ?_
    refine zW_s rfl ?_
    refine zW_s rfl ?_
    refine zW_if (fun (c103 : (nI 900) ≤ (zI σ r0 1)) => ?_) (fun (c103 : ¬ ((nI 900) ≤ (zI σ r0 1))) => ?_)
    · rw [if_pos c103] at h
      refine zW_r rfl trivial ?_
      exact h
    · rw [if_neg c103] at h
      refine zW_s rfl ?_
      refine zW_p rfl hp102 ?_
      refine zW_s rfl ?_
      refine zW_p rfl hp102 ?_
      refine zW_s rfl ?_
      refine zW_s rfl ?_
      refine zW_s rfl ?_
      refine zW_s rfl ?_
      refine zW_s rfl ?_
      have hp104 := h.1; replace h := h.2
      have hp105 := h.1; replace h := h.2
      refine zW_p rfl ⟨hp104, hp105⟩ ?_
      refine zW_s rfl ?_
      refine zW_s rfl ?_
      refine zW_p rfl hp102 ?_
      refine zW_s rfl ?_
      refine zW_s rfl ?_
      refine zW_p rfl hp102 ?_
      refine zW_s rfl ?_
      refine zW_s rfl ?_
      exact h
set_option maxHeartbeats 4000000 in
theorem b87 {d : Nat} {r0 : Nat} {r1 : Nat} {σ : zH} {Q : Option Value → zH → Prop} (h : (zK σ r0 = 9) ∧ zW (d + 1) 87 9 [(0, .ref r0), (1, .ref r1), (2, .int (nI 0)), (3, .int (nI 0))] [] (zsI σ r0 3 (nI 0)) Q) : zM (d + 1) 87 [.ref r0, .ref r1] σ Q := by
  unfold zM
  refine zW_s rfl ?_
  refine zW_s rfl ?_
  have hp101 := h.1; replace h := h.2
  refine zW_p rfl hp101 ?_
  refine zW_s rfl ?_
  refine zW_s rfl ?_
  refine zW_s rfl ?_
  refine zW_s rfl ?_
  exact h
set_option maxHeartbeats 4000000 in
theorem b87_9 {d : Nat} {r0 : Nat} {r1 : Nat} {x2 : Int32} {x3 : Int32} {σ : zH} {Q : Option Value → zH → Prop} (h : (if (nI 900) ≤ x3 then zW (d + 1) 87 91 [(0, .ref r0), (1, .ref r1)] [] σ Q else (zK σ r1 = 8) ∧ (if (zI σ r1 1) ≤ x2 then zW (d + 1) 87 91 [(0, .ref r0), (1, .ref r1)] [] σ Q else (zK σ (zQ σ r1 0) = 20) ∧ (vp_in x2 (zN σ (zQ σ r1 0))) ∧ (if (zA σ (zQ σ r1 0) x2.toNatClampNeg) = (nI 32) then zW (d + 1) 87 9 [(0, .ref r0), (1, .ref r1), (2, .int (x2 + nI 1)), (3, .int (x3 + nI 1))] [] σ Q else (if ¬ (zA σ (zQ σ r1 0) x2.toNatClampNeg) = (nI 10) then zM d 94 [.int (zA σ (zQ σ r1 0) x2.toNatClampNeg)] σ (fun r σ108 => zqi r (fun x109 => (if ¬ x109 = 0 then zW (d + 1) 87 68 [(0, .ref r0), (1, .ref r1), (2, .int x2), (3, .int x3)] [] σ108 Q else zM d 95 [.int (zA σ (zQ σ r1 0) x2.toNatClampNeg)] σ108 (fun r σ111 => zqi r (fun x112 => (if x112 = 0 then (zK σ111 r0 = 9) ∧ zM d 90 [.ref r0, .ref r1, .int x2] σ111 (fun r σ115 => zqi r (fun x116 => zW (d + 1) 87 9 [(0, .ref r0), (1, .ref r1), (2, .int x116), (3, .int (x3 + nI 1))] [] σ115 Q)) else zW (d + 1) 87 68 [(0, .ref r0), (1, .ref r1), (2, .int x2), (3, .int x3)] [] σ111 Q)))))) else zW (d + 1) 87 9 [(0, .ref r0), (1, .ref r1), (2, .int (x2 + nI 1)), (3, .int (x3 + nI 1))] [] σ Q))))) : zW (d + 1) 87 9 [(0, .ref r0), (1, .ref r1), (2, .int x2), (3, .int x3)] [] σ Q := by
  refine zW_s rfl ?_
  refine zW_s rfl ?_
  refine zW_s rfl ?_
  refine zW_if (fun (c101 : (nI 900) ≤ x3) => ?_) (fun (c101 : ¬ ((nI 900) ≤ x3)) => ?_)
  · rw [if_pos c101] at h
    refine zW_k [0, 1] rfl ?_
    exact h
  · rw [if_neg c101] at h
    refine zW_s rfl ?_
    refine zW_s rfl ?_
    have hp102 := h.1; replace h := h.2
    refine zW_p rfl hp102 ?_
    refine zW_s rfl ?_
    refine zW_if (fun (c103 : (zI σ r1 1) ≤ x2) => ?_) (fun (c103 : ¬ ((zI σ r1 1) ≤ x2)) => ?_)
    · rw [if_pos c103] at h
      refine zW_k [0, 1] rfl ?_
      exact h
    · rw [if_neg c103] at h
      refine zW_s rfl ?_
      refine zW_p rfl hp102 ?_
      refine zW_s rfl ?_
      have hp104 := h.1; replace h := h.2
      have hp105 := h.1; replace h := h.2
      refine zW_p rfl ⟨hp104, hp105⟩ ?_
      refine zW_s rfl ?_
      refine zW_s rfl ?_
      refine zW_s rfl ?_
      refine zW_s rfl ?_
      refine zW_if (fun (c106 : (zA σ (zQ σ r1 0) x2.toNatClampNeg) = (nI 32)) => ?_) (fun (c106 : ¬ ((zA σ (zQ σ r1 0) x2.toNatClampNeg) = (nI 32))) => ?_)
      · rw [if_pos c106] at h
        refine zW_s rfl ?_
        refine zW_s rfl ?_
        refine zW_s rfl ?_
        refine zW_s rfl ?_
        refine zW_k [0, 1, 2, 3] rfl ?_
        exact h
      · rw [if_neg c106] at h
        refine zW_s rfl ?_
        refine zW_s rfl ?_
        refine zW_s rfl ?_
        refine zW_if (fun (c107 : ¬ (zA σ (zQ σ r1 0) x2.toNatClampNeg) = (nI 10)) => ?_) (fun (c107 : ¬ (¬ (zA σ (zQ σ r1 0) x2.toNatClampNeg) = (nI 10))) => ?_)
        · rw [if_pos c107] at h
          refine zW_s rfl ?_
          refine zW_c rfl trivial (zM_m h ?_)
          intro r σ108 h
          replace h := zqi_e h
          obtain ⟨x109, rfl, h⟩ := h
          refine zW_s rfl ?_
          refine zW_if (fun (c110 : ¬ x109 = 0) => ?_) (fun (c110 : ¬ (¬ x109 = 0)) => ?_)
          · rw [if_pos c110] at h
            refine zW_k [0, 1, 2, 3] rfl ?_
            exact h
          · rw [if_neg c110] at h
            refine zW_s rfl ?_
            refine zW_c rfl trivial (zM_m h ?_)
            intro r σ111 h
            replace h := zqi_e h
            obtain ⟨x112, rfl, h⟩ := h
            refine zW_s rfl ?_
            refine zW_if (fun (c113 : x112 = 0) => ?_) (fun (c113 : ¬ (x112 = 0)) => ?_)
            · rw [if_pos c113] at h
              refine zW_s rfl ?_
              refine zW_s rfl ?_
              refine zW_s rfl ?_
              have hp114 := h.1; replace h := h.2
              refine zW_c rfl hp114 (zM_m h ?_)
              intro r σ115 h
              replace h := zqi_e h
              obtain ⟨x116, rfl, h⟩ := h
              refine zW_s rfl ?_
              refine zW_s rfl ?_
              refine zW_s rfl ?_
              refine zW_k [0, 1, 2, 3] rfl ?_
              exact h
            · rw [if_neg c113] at h
              refine zW_k [0, 1, 2, 3] rfl ?_
              exact h
        · rw [if_neg c107] at h
          refine zW_s rfl ?_
          refine zW_s rfl ?_
          refine zW_s rfl ?_
          refine zW_s rfl ?_
          refine zW_k [0, 1, 2, 3] rfl ?_
          exact h
set_option maxHeartbeats 4000000 in
theorem b87_91 {d : Nat} {r0 : Nat} {r1 : Nat} {σ : zH} {Q : Option Value → zH → Prop} (h : (zK σ r1 = 8) ∧ (zK σ r0 = 9) ∧ zM d 88 [.ref r0, .int (nI 49), .int (zI σ r1 1), .int (nI 0)] σ (fun r σ103 => zqv r (Q none σ103))) : zW (d + 1) 87 91 [(0, .ref r0), (1, .ref r1)] [] σ Q := by
  refine zW_s rfl ?_
  refine zW_s rfl ?_
  refine zW_s rfl ?_
  have hp101 := h.1; replace h := h.2
  refine zW_p rfl hp101 ?_
  refine zW_s rfl ?_
  have hp102 := h.1; replace h := h.2
  refine zW_c rfl hp102 (zM_m h ?_)
  intro r σ103 h
  replace h := zqv_e h
  obtain ⟨rfl, h⟩ := h
  refine zW_r rfl trivial ?_
  exact h
set_option maxHeartbeats 4000000 in
theorem b87_68 {d : Nat} {r0 : Nat} {r1 : Nat} {x2 : Int32} {x3 : Int32} {σ : zH} {Q : Option Value → zH → Prop} (h : (zK σ r0 = 9) ∧ zM d 89 [.ref r0, .ref r1, .int x2] σ (fun r σ102 => zqi r (fun x103 => zW (d + 1) 87 9 [(0, .ref r0), (1, .ref r1), (2, .int x103), (3, .int (x3 + nI 1))] [] σ102 Q))) : zW (d + 1) 87 68 [(0, .ref r0), (1, .ref r1), (2, .int x2), (3, .int x3)] [] σ Q := by
  refine zW_s rfl ?_
  refine zW_s rfl ?_
  refine zW_s rfl ?_
  have hp101 := h.1; replace h := h.2
  refine zW_c rfl hp101 (zM_m h ?_)
  intro r σ102 h
  replace h := zqi_e h
  obtain ⟨x103, rfl, h⟩ := h
  refine zW_s rfl ?_
  refine zW_s rfl ?_
  refine zW_s rfl ?_
  refine zW_s rfl ?_
  exact h
set_option maxHeartbeats 4000000 in
theorem b88 {d : Nat} {r0 : Nat} {x1 : Int32} {x2 : Int32} {x3 : Int32} {σ : zH} {Q : Option Value → zH → Prop} (h : (zK σ r0 = 9) ∧ (if (nI 900) < (zI σ r0 3) then Q none σ else (zK σ (zQ σ r0 0) = 20) ∧ (vp_in (zI σ r0 3) (zN σ (zQ σ r0 0))) ∧ (zK σ (zQ σ r0 1) = 20) ∧ (vp_in (zI σ r0 3) (zN σ (zQ σ r0 1))) ∧ (zK σ (zQ σ r0 2) = 20) ∧ (vp_in (zI σ r0 3) (zN σ (zQ σ r0 2))) ∧ Q none (zsI (zsA (zsA (zsA σ (zQ σ r0 0) (zI σ r0 3).toNatClampNeg x1) (zQ σ r0 1) (zI σ r0 3).toNatClampNeg x2) (zQ σ r0 2) (zI σ r0 3).toNatClampNeg x3) r0 3 ((zI σ r0 3) + (nI 1))))) : zM (d) 88 [.ref r0, .int x1, .int x2, .int x3] σ Q := by
  unfold zM
  refine zW_s rfl ?_
  have hp101 := h.1; replace h := h.2
  refine zW_p rfl hp101 ?_
  refine zW_s rfl ?_
  refine zW_s rfl ?_
  refine zW_if (fun (c102 : (nI 900) < (zI σ r0 3)) => ?_) (fun (c102 : ¬ ((nI 900) < (zI σ r0 3))) => ?_)
  · rw [if_pos c102] at h
    refine zW_r rfl trivial ?_
    exact h
  · rw [if_neg c102] at h
    refine zW_s rfl ?_
    refine zW_p rfl hp101 ?_
    refine zW_s rfl ?_
    refine zW_p rfl hp101 ?_
    refine zW_s rfl ?_
    have hp103 := h.1; replace h := h.2
    have hp104 := h.1; replace h := h.2
    refine zW_p rfl ⟨hp103, hp104⟩ ?_
    refine zW_s rfl ?_
    refine zW_p rfl hp101 ?_
    refine zW_s rfl ?_
    refine zW_p rfl hp101 ?_
    refine zW_s rfl ?_
    have hp105 := h.1; replace h := h.2
    have hp106 := h.1; replace h := h.2
    refine zW_p rfl ⟨hp105, hp106⟩ ?_
    refine zW_s rfl ?_
    refine zW_p rfl hp101 ?_
    refine zW_s rfl ?_
    refine zW_p rfl hp101 ?_
    refine zW_s rfl ?_
    have hp107 := h.1; replace h := h.2
    have hp108 := h.1; replace h := h.2
    refine zW_p rfl ⟨hp107, hp108⟩ ?_
    refine zW_s rfl ?_
    refine zW_s rfl ?_
    refine zW_p rfl hp101 ?_
    refine zW_s rfl ?_
    refine zW_s rfl ?_
    refine zW_p rfl hp101 ?_
    refine zW_r rfl trivial ?_
    exact h
set_option maxHeartbeats 4000000 in
theorem b89 {d : Nat} {r0 : Nat} {r1 : Nat} {x2 : Int32} {σ : zH} {Q : Option Value → zH → Prop} (h : zW (d + 1) 89 11 [(0, .ref r0), (1, .ref r1), (2, .int x2), (3, .int (nI 0)), (4, .int (nI 0)), (5, .int (nI 0)), (6, .int x2)] [] σ Q) : zM (d + 1) 89 [.ref r0, .ref r1, .int x2] σ Q := by
  unfold zM
  refine zW_s rfl ?_
  refine zW_s rfl ?_
  refine zW_s rfl ?_
  refine zW_s rfl ?_
  refine zW_s rfl ?_
  refine zW_s rfl ?_
  refine zW_s rfl ?_
  refine zW_s rfl ?_
  exact h
set_option maxHeartbeats 4000000 in
theorem b89_11 {d : Nat} {r0 : Nat} {r1 : Nat} {x2 : Int32} {x3 : Int32} {x4 : Int32} {x5 : Int32} {x6 : Int32} {σ : zH} {Q : Option Value → zH → Prop} (h : (zK σ r1 = 8) ∧ (if (zI σ r1 1) ≤ x6 then zW (d + 1) 89 118 [(0, .ref r0), (1, .ref r1), (2, .int x2), (3, .int x3), (4, .int x4), (5, .int x5), (6, .int x6)] [] σ Q else (zK σ (zQ σ r1 0) = 20) ∧ (vp_in x6 (zN σ (zQ σ r1 0))) ∧ zM d 94 [.int (zA σ (zQ σ r1 0) x6.toNatClampNeg)] σ (fun r σ105 => zqi r (fun x106 => (if ¬ x106 = 0 then zW (d + 1) 89 46 [(0, .ref r0), (1, .ref r1), (2, .int x2), (3, .int x3), (4, .int x4), (5, .int x5), (6, .int x6)] [] σ105 Q else (zK σ105 r1 = 8) ∧ (zK σ105 (zQ σ105 r1 0) = 20) ∧ (vp_in x6 (zN σ105 (zQ σ105 r1 0))) ∧ zM d 95 [.int (zA σ105 (zQ σ105 r1 0) x6.toNatClampNeg)] σ105 (fun r σ111 => zqi r (fun x112 => (if x112 = 0 then zW (d + 1) 89 118 [(0, .ref r0), (1, .ref r1), (2, .int x2), (3, .int x3), (4, .int x4), (5, .int x5), (6, .int x6)] [] σ111 Q else zW (d + 1) 89 46 [(0, .ref r0), (1, .ref r1), (2, .int x2), (3, .int x3), (4, .int x4), (5, .int x5), (6, .int x6)] [] σ111 Q)))))))) : zW (d + 1) 89 11 [(0, .ref r0), (1, .ref r1), (2, .int x2), (3, .int x3), (4, .int x4), (5, .int x5), (6, .int x6)] [] σ Q := by
  refine zW_s rfl ?_
  refine zW_s rfl ?_
  have hp101 := h.1; replace h := h.2
  refine zW_p rfl hp101 ?_
  refine zW_s rfl ?_
  refine zW_if (fun (c102 : (zI σ r1 1) ≤ x6) => ?_) (fun (c102 : ¬ ((zI σ r1 1) ≤ x6)) => ?_)
  · rw [if_pos c102] at h
    exact h
  · rw [if_neg c102] at h
    refine zW_s rfl ?_
    refine zW_p rfl hp101 ?_
    refine zW_s rfl ?_
    have hp103 := h.1; replace h := h.2
    have hp104 := h.1; replace h := h.2
    refine zW_p rfl ⟨hp103, hp104⟩ ?_
    refine zW_c rfl trivial (zM_m h ?_)
    intro r σ105 h
    replace h := zqi_e h
    obtain ⟨x106, rfl, h⟩ := h
    refine zW_s rfl ?_
    refine zW_if (fun (c107 : ¬ x106 = 0) => ?_) (fun (c107 : ¬ (¬ x106 = 0)) => ?_)
    · rw [if_pos c107] at h
      exact h
    · rw [if_neg c107] at h
      refine zW_s rfl ?_
      have hp108 := h.1; replace h := h.2
      refine zW_p rfl hp108 ?_
      refine zW_s rfl ?_
      have hp109 := h.1; replace h := h.2
      have hp110 := h.1; replace h := h.2
      refine zW_p rfl ⟨hp109, hp110⟩ ?_
      refine zW_c rfl trivial (zM_m h ?_)
      intro r σ111 h
      replace h := zqi_e h
      obtain ⟨x112, rfl, h⟩ := h
      refine zW_s rfl ?_
      refine zW_if (fun (c113 : x112 = 0) => ?_) (fun (c113 : ¬ (x112 = 0)) => ?_)
      · rw [if_pos c113] at h
        exact h
      · rw [if_neg c113] at h
        exact h
set_option maxHeartbeats 4000000 in
theorem b89_118 {d : Nat} {r0 : Nat} {r1 : Nat} {x2 : Int32} {x3 : Int32} {x4 : Int32} {x5 : Int32} {x6 : Int32} {σ : zH} {Q : Option Value → zH → Prop} (h : (if ¬ x4 = 0 then zW (d + 1) 89 148 [(0, .ref r0), (2, .int x2), (3, .int x3), (5, .int x5), (6, .int x6)] [] σ Q else (if (nI 8) < (x6 - x2) then zW (d + 1) 89 148 [(0, .ref r0), (2, .int x2), (3, .int x3), (5, .int x5), (6, .int x6)] [] σ Q else zM d 92 [.ref r1, .int x2, .int x6] σ (fun r σ103 => zqi r (fun x104 => (zK σ103 r0 = 9) ∧ zM d 88 [.ref r0, .int x104, .int x2, .int (nI 0)] σ103 (fun r σ106 => zqv r (Q (some (.int x6)) σ106))))))) : zW (d + 1) 89 118 [(0, .ref r0), (1, .ref r1), (2, .int x2), (3, .int x3), (4, .int x4), (5, .int x5), (6, .int x6)] [] σ Q := by
  refine zW_s rfl ?_
  refine zW_s rfl ?_
  refine zW_if (fun (c101 : ¬ x4 = 0) => ?_) (fun (c101 : ¬ (¬ x4 = 0)) => ?_)
  · rw [if_pos c101] at h
    refine zW_k [0, 2, 3, 5, 6] rfl ?_
    exact h
  · rw [if_neg c101] at h
    refine zW_s rfl ?_
    refine zW_s rfl ?_
    refine zW_s rfl ?_
    refine zW_s rfl ?_
    refine zW_s rfl ?_
    refine zW_if (fun (c102 : (nI 8) < (x6 - x2)) => ?_) (fun (c102 : ¬ ((nI 8) < (x6 - x2))) => ?_)
    · rw [if_pos c102] at h
      refine zW_k [0, 2, 3, 5, 6] rfl ?_
      exact h
    · rw [if_neg c102] at h
      refine zW_s rfl ?_
      refine zW_s rfl ?_
      refine zW_s rfl ?_
      refine zW_s rfl ?_
      refine zW_c rfl trivial (zM_m h ?_)
      intro r σ103 h
      replace h := zqi_e h
      obtain ⟨x104, rfl, h⟩ := h
      refine zW_s rfl ?_
      refine zW_s rfl ?_
      have hp105 := h.1; replace h := h.2
      refine zW_c rfl hp105 (zM_m h ?_)
      intro r σ106 h
      replace h := zqv_e h
      obtain ⟨rfl, h⟩ := h
      refine zW_s rfl ?_
      refine zW_s rfl ?_
      refine zW_r rfl trivial ?_
      exact h
set_option maxHeartbeats 4000000 in
theorem b89_46 {d : Nat} {r0 : Nat} {r1 : Nat} {x2 : Int32} {x3 : Int32} {x4 : Int32} {x5 : Int32} {x6 : Int32} {σ : zH} {Q : Option Value → zH → Prop} (h : (if ¬ x3 = 0 then zW (d + 1) 89 68 [(0, .ref r0), (1, .ref r1), (2, .int x2), (4, .int x4), (5, .int x5), (6, .int x6)] [.int (nI 1)] σ Q else (zK σ r1 = 8) ∧ (zK σ (zQ σ r1 0) = 20) ∧ (vp_in x6 (zN σ (zQ σ r1 0))) ∧ zM d 94 [.int (zA σ (zQ σ r1 0) x6.toNatClampNeg)] σ (fun r σ105 => zqi r (fun x106 => (if ¬ x4 = 0 then zW (d + 1) 89 92 [(0, .ref r0), (1, .ref r1), (2, .int x2), (3, .int (if x106 = 0 then nI 0 else nI 1)), (5, .int x5), (6, .int x6)] [.int (nI 1)] σ105 Q else (zK σ105 r1 = 8) ∧ (zK σ105 (zQ σ105 r1 0) = 20) ∧ (vp_in x6 (zN σ105 (zQ σ105 r1 0))) ∧ zM d 95 [.int (zA σ105 (zQ σ105 r1 0) x6.toNatClampNeg)] σ105 (fun r σ112 => zqi r (fun x113 => (zK σ112 r1 = 8) ∧ (zK σ112 (zQ σ112 r1 0) = 20) ∧ (vp_in x6 (zN σ112 (zQ σ112 r1 0))) ∧ zW (d + 1) 89 11 [(0, .ref r0), (1, .ref r1), (2, .int x2), (3, .int (if x106 = 0 then nI 0 else nI 1)), (4, .int (if x113 = 0 then nI 0 else nI 1)), (5, .int (((x5 * (nI 10)) + (zA σ112 (zQ σ112 r1 0) x6.toNatClampNeg)) - (nI 48))), (6, .int (x6 + nI 1))] [] σ112 Q))))))) : zW (d + 1) 89 46 [(0, .ref r0), (1, .ref r1), (2, .int x2), (3, .int x3), (4, .int x4), (5, .int x5), (6, .int x6)] [] σ Q := by
  refine zW_s rfl ?_
  refine zW_s rfl ?_
  refine zW_if (fun (c101 : ¬ x3 = 0) => ?_) (fun (c101 : ¬ (¬ x3 = 0)) => ?_)
  · rw [if_pos c101] at h
    refine zW_s rfl ?_
    refine zW_s rfl ?_
    refine zW_k [0, 1, 2, 4, 5, 6] rfl ?_
    exact h
  · rw [if_neg c101] at h
    refine zW_s rfl ?_
    have hp102 := h.1; replace h := h.2
    refine zW_p rfl hp102 ?_
    refine zW_s rfl ?_
    have hp103 := h.1; replace h := h.2
    have hp104 := h.1; replace h := h.2
    refine zW_p rfl ⟨hp103, hp104⟩ ?_
    refine zW_c rfl trivial (zM_m h ?_)
    intro r σ105 h
    replace h := zqi_e h
    obtain ⟨x106, rfl, h⟩ := h
    refine zW_s rfl ?_
    have k : ∀ v : Int32, v = (if x106 = 0 then nI 0 else nI 1) → zW (d + 1) 89 68 [(0, .ref r0), (1, .ref r1), (2, .int x2), (3, .int x3), (4, .int x4), (5, .int x5), (6, .int x6)] [.int v] σ105 Q := by
      intro v hv
      subst hv
      refine zW_s rfl ?_
      refine zW_s rfl ?_
      refine zW_s rfl ?_
      refine zW_if (fun (c108 : ¬ x4 = 0) => ?_) (fun (c108 : ¬ (¬ x4 = 0)) => ?_)
      · rw [if_pos c108] at h
        refine zW_s rfl ?_
        refine zW_s rfl ?_
        refine zW_k [0, 1, 2, 3, 5, 6] rfl ?_
        exact h
      · rw [if_neg c108] at h
        refine zW_s rfl ?_
        have hp109 := h.1; replace h := h.2
        refine zW_p rfl hp109 ?_
        refine zW_s rfl ?_
        have hp110 := h.1; replace h := h.2
        have hp111 := h.1; replace h := h.2
        refine zW_p rfl ⟨hp110, hp111⟩ ?_
        refine zW_c rfl trivial (zM_m h ?_)
        intro r σ112 h
        replace h := zqi_e h
        obtain ⟨x113, rfl, h⟩ := h
        refine zW_s rfl ?_
        have k : ∀ v : Int32, v = (if x113 = 0 then nI 0 else nI 1) → zW (d + 1) 89 92 [(0, .ref r0), (1, .ref r1), (2, .int x2), (3, .int (if x106 = 0 then nI 0 else nI 1)), (4, .int x4), (5, .int x5), (6, .int x6)] [.int v] σ112 Q := by
          intro v hv
          subst hv
          refine zW_s rfl ?_
          refine zW_s rfl ?_
          refine zW_s rfl ?_
          refine zW_s rfl ?_
          refine zW_s rfl ?_
          have hp115 := h.1; replace h := h.2
          refine zW_p rfl hp115 ?_
          refine zW_s rfl ?_
          have hp116 := h.1; replace h := h.2
          have hp117 := h.1; replace h := h.2
          refine zW_p rfl ⟨hp116, hp117⟩ ?_
          refine zW_s rfl ?_
          refine zW_s rfl ?_
          refine zW_s rfl ?_
          refine zW_s rfl ?_
          refine zW_s rfl ?_
          refine zW_s rfl ?_
          exact h
        refine zW_if (fun (c114 : x113 = 0) => ?_) (fun (c114 : ¬ (x113 = 0)) => ?_)
        · replace k := k _ (if_pos c114).symm
          refine zW_s rfl ?_
          exact k
        · replace k := k _ (if_neg c114).symm
          refine zW_s rfl ?_
          refine zW_s rfl ?_
          exact k
    refine zW_if (fun (c107 : x106 = 0) => ?_) (fun (c107 : ¬ (x106 = 0)) => ?_)
    · replace k := k _ (if_pos c107).symm
      refine zW_s rfl ?_
      exact k
    · replace k := k _ (if_neg c107).symm
      refine zW_s rfl ?_
      refine zW_s rfl ?_
      exact k
set_option maxHeartbeats 4000000 in
theorem b89_148 {d : Nat} {r0 : Nat} {x2 : Int32} {x3 : Int32} {x5 : Int32} {x6 : Int32} {σ : zH} {Q : Option Value → zH → Prop} (h : (if ¬ x3 = 0 then zW (d + 1) 89 172 [(0, .ref r0), (2, .int x2), (6, .int x6)] [] σ Q else (if (nI 2) < (x6 - x2) then zW (d + 1) 89 172 [(0, .ref r0), (2, .int x2), (6, .int x6)] [] σ Q else (zK σ r0 = 9) ∧ zM d 88 [.ref r0, .int (nI 36), .int x2, .int x5] σ (fun r σ104 => zqv r (Q (some (.int x6)) σ104))))) : zW (d + 1) 89 148 [(0, .ref r0), (2, .int x2), (3, .int x3), (5, .int x5), (6, .int x6)] [] σ Q := by
  refine zW_s rfl ?_
  refine zW_s rfl ?_
  refine zW_if (fun (c101 : ¬ x3 = 0) => ?_) (fun (c101 : ¬ (¬ x3 = 0)) => ?_)
  · rw [if_pos c101] at h
    refine zW_k [0, 1, 4] rfl ?_
    exact h
  · rw [if_neg c101] at h
    refine zW_s rfl ?_
    refine zW_s rfl ?_
    refine zW_s rfl ?_
    refine zW_s rfl ?_
    refine zW_s rfl ?_
    refine zW_if (fun (c102 : (nI 2) < (x6 - x2)) => ?_) (fun (c102 : ¬ ((nI 2) < (x6 - x2))) => ?_)
    · rw [if_pos c102] at h
      refine zW_k [0, 1, 4] rfl ?_
      exact h
    · rw [if_neg c102] at h
      refine zW_s rfl ?_
      refine zW_s rfl ?_
      refine zW_s rfl ?_
      refine zW_s rfl ?_
      have hp103 := h.1; replace h := h.2
      refine zW_c rfl hp103 (zM_m h ?_)
      intro r σ104 h
      replace h := zqv_e h
      obtain ⟨rfl, h⟩ := h
      refine zW_s rfl ?_
      refine zW_s rfl ?_
      refine zW_r rfl trivial ?_
      exact h
set_option maxHeartbeats 4000000 in
theorem b89_68 {d : Nat} {r0 : Nat} {r1 : Nat} {x2 : Int32} {x4 : Int32} {x5 : Int32} {x6 : Int32} {v0 : Int32} {σ : zH} {Q : Option Value → zH → Prop} (h : (if ¬ x4 = 0 then (zK σ r1 = 8) ∧ (zK σ (zQ σ r1 0) = 20) ∧ (vp_in x6 (zN σ (zQ σ r1 0))) ∧ zW (d + 1) 89 11 [(0, .ref r0), (1, .ref r1), (2, .int x2), (3, .int v0), (4, .int (nI 1)), (5, .int (((x5 * (nI 10)) + (zA σ (zQ σ r1 0) x6.toNatClampNeg)) - (nI 48))), (6, .int (x6 + nI 1))] [] σ Q else (zK σ r1 = 8) ∧ (zK σ (zQ σ r1 0) = 20) ∧ (vp_in x6 (zN σ (zQ σ r1 0))) ∧ zM d 95 [.int (zA σ (zQ σ r1 0) x6.toNatClampNeg)] σ (fun r σ108 => zqi r (fun x109 => (zK σ108 r1 = 8) ∧ (zK σ108 (zQ σ108 r1 0) = 20) ∧ (vp_in x6 (zN σ108 (zQ σ108 r1 0))) ∧ zW (d + 1) 89 11 [(0, .ref r0), (1, .ref r1), (2, .int x2), (3, .int v0), (4, .int (if x109 = 0 then nI 0 else nI 1)), (5, .int (((x5 * (nI 10)) + (zA σ108 (zQ σ108 r1 0) x6.toNatClampNeg)) - (nI 48))), (6, .int (x6 + nI 1))] [] σ108 Q)))) : zW (d + 1) 89 68 [(0, .ref r0), (1, .ref r1), (2, .int x2), (4, .int x4), (5, .int x5), (6, .int x6)] [.int v0] σ Q := by
  refine zW_s rfl ?_
  refine zW_s rfl ?_
  refine zW_s rfl ?_
  refine zW_if (fun (c101 : ¬ x4 = 0) => ?_) (fun (c101 : ¬ (¬ x4 = 0)) => ?_)
  · rw [if_pos c101] at h
    refine zW_s rfl ?_
    refine zW_s rfl ?_
    refine zW_s rfl ?_
    refine zW_s rfl ?_
    refine zW_s rfl ?_
    refine zW_s rfl ?_
    refine zW_s rfl ?_
    have hp102 := h.1; replace h := h.2
    refine zW_p rfl hp102 ?_
    refine zW_s rfl ?_
    have hp103 := h.1; replace h := h.2
    have hp104 := h.1; replace h := h.2
    refine zW_p rfl ⟨hp103, hp104⟩ ?_
    refine zW_s rfl ?_
    refine zW_s rfl ?_
    refine zW_s rfl ?_
    refine zW_s rfl ?_
    refine zW_s rfl ?_
    refine zW_s rfl ?_
    refine zW_k [0, 1, 2, 6, 3, 4, 5] rfl ?_
    exact h
  · rw [if_neg c101] at h
    refine zW_s rfl ?_
    have hp105 := h.1; replace h := h.2
    refine zW_p rfl hp105 ?_
    refine zW_s rfl ?_
    have hp106 := h.1; replace h := h.2
    have hp107 := h.1; replace h := h.2
    refine zW_p rfl ⟨hp106, hp107⟩ ?_
    refine zW_c rfl trivial (zM_m h ?_)
    intro r σ108 h
    replace h := zqi_e h
    obtain ⟨x109, rfl, h⟩ := h
    refine zW_s rfl ?_
    have k : ∀ v : Int32, v = (if x109 = 0 then nI 0 else nI 1) → zW (d + 1) 89 92 [(0, .ref r0), (1, .ref r1), (2, .int x2), (4, .int x4), (5, .int x5), (6, .int x6), (3, .int v0)] [.int v] σ108 Q := by
      intro v hv
      subst hv
      refine zW_s rfl ?_
      refine zW_s rfl ?_
      refine zW_s rfl ?_
      refine zW_s rfl ?_
      refine zW_s rfl ?_
      have hp111 := h.1; replace h := h.2
      refine zW_p rfl hp111 ?_
      refine zW_s rfl ?_
      have hp112 := h.1; replace h := h.2
      have hp113 := h.1; replace h := h.2
      refine zW_p rfl ⟨hp112, hp113⟩ ?_
      refine zW_s rfl ?_
      refine zW_s rfl ?_
      refine zW_s rfl ?_
      refine zW_s rfl ?_
      refine zW_s rfl ?_
      refine zW_s rfl ?_
      refine zW_k [0, 1, 2, 6, 3, 4, 5] rfl ?_
      exact h
    refine zW_if (fun (c110 : x109 = 0) => ?_) (fun (c110 : ¬ (x109 = 0)) => ?_)
    · replace k := k _ (if_pos c110).symm
      refine zW_s rfl ?_
      exact k
    · replace k := k _ (if_neg c110).symm
      refine zW_s rfl ?_
      refine zW_s rfl ?_
      exact k
set_option maxHeartbeats 4000000 in
theorem b89_92 {d : Nat} {r0 : Nat} {r1 : Nat} {x2 : Int32} {x3 : Int32} {x5 : Int32} {x6 : Int32} {v0 : Int32} {σ : zH} {Q : Option Value → zH → Prop} (h : (zK σ r1 = 8) ∧ (zK σ (zQ σ r1 0) = 20) ∧ (vp_in x6 (zN σ (zQ σ r1 0))) ∧ zW (d + 1) 89 11 [(0, .ref r0), (1, .ref r1), (2, .int x2), (3, .int x3), (4, .int v0), (5, .int (((x5 * (nI 10)) + (zA σ (zQ σ r1 0) x6.toNatClampNeg)) - (nI 48))), (6, .int (x6 + nI 1))] [] σ Q) : zW (d + 1) 89 92 [(0, .ref r0), (1, .ref r1), (2, .int x2), (3, .int x3), (5, .int x5), (6, .int x6)] [.int v0] σ Q := by
  refine zW_s rfl ?_
  refine zW_s rfl ?_
  refine zW_s rfl ?_
  refine zW_s rfl ?_
  refine zW_s rfl ?_
  have hp101 := h.1; replace h := h.2
  refine zW_p rfl hp101 ?_
  refine zW_s rfl ?_
  have hp102 := h.1; replace h := h.2
  have hp103 := h.1; replace h := h.2
  refine zW_p rfl ⟨hp102, hp103⟩ ?_
  refine zW_s rfl ?_
  refine zW_s rfl ?_
  refine zW_s rfl ?_
  refine zW_s rfl ?_
  refine zW_s rfl ?_
  refine zW_s rfl ?_
  refine zW_k [0, 1, 2, 3, 6, 4, 5] rfl ?_
  exact h
set_option maxHeartbeats 4000000 in
theorem b89_172 {d : Nat} {r0 : Nat} {x2 : Int32} {x6 : Int32} {σ : zH} {Q : Option Value → zH → Prop} (h : (zK σ r0 = 9) ∧ zM d 88 [.ref r0, .int (nI 48), .int x2, .int (nI 0)] σ (fun r σ102 => zqv r (Q (some (.int x6)) σ102))) : zW (d + 1) 89 172 [(0, .ref r0), (2, .int x2), (6, .int x6)] [] σ Q := by
  refine zW_s rfl ?_
  refine zW_s rfl ?_
  refine zW_s rfl ?_
  refine zW_s rfl ?_
  have hp101 := h.1; replace h := h.2
  refine zW_c rfl hp101 (zM_m h ?_)
  intro r σ102 h
  replace h := zqv_e h
  obtain ⟨rfl, h⟩ := h
  refine zW_s rfl ?_
  refine zW_r rfl trivial ?_
  exact h
