set_option maxHeartbeats 4000000 in
theorem b202 {d : Nat} {r0 : Nat} {σ : zH} {Q : Option Value → zH → Prop} (h : (zK σ r0 = 13) ∧ zW (d) 202 7 [(0, .ref r0), (1, .int ((zI σ r0 5) - (nI 2)))] [] σ Q) : zM (d) 202 [.ref r0] σ Q := by
  unfold zM
  refine zW_s rfl ?_
  have hp101 := h.1; replace h := h.2
  refine zW_p rfl hp101 ?_
  refine zW_s rfl ?_
  refine zW_s rfl ?_
  refine zW_s rfl ?_
  exact h
set_option maxHeartbeats 4000000 in
theorem b202_7 {d : Nat} {r0 : Nat} {x1 : Int32} {σ : zH} {Q : Option Value → zH → Prop} (h : (if x1 < 0 then (if 0 ≤ x1 then (zK σ r0 = 13) ∧ zW (d) 202 47 [(0, .ref r0), (1, .int x1), (2, .int ((zI σ r0 5) - (nI 1)))] [] σ Q else Q (some (.int (nI 0))) σ) else (zK σ r0 = 13) ∧ (zK σ (zQ σ r0 62) = 20) ∧ (vp_in x1 (zN σ (zQ σ r0 62))) ∧ (vp_in (x1 + (nI 1)) (zN σ (zQ σ r0 62))) ∧ (if (zA σ (zQ σ r0 62) x1.toNatClampNeg) ≤ (zA σ (zQ σ r0 62) (x1 + (nI 1)).toNatClampNeg) then (if 0 ≤ x1 then zW (d) 202 47 [(0, .ref r0), (1, .int x1), (2, .int ((zI σ r0 5) - (nI 1)))] [] σ Q else Q (some (.int (nI 0))) σ) else zW (d) 202 7 [(0, .ref r0), (1, .int (x1 + (-1)))] [] σ Q))) : zW (d) 202 7 [(0, .ref r0), (1, .int x1)] [] σ Q := by
  refine zW_s rfl ?_
  refine zW_s rfl ?_
  refine zW_if (fun (c101 : x1 < 0) => ?_) (fun (c101 : ¬ (x1 < 0)) => ?_)
  · rw [if_pos c101] at h
    refine zW_s rfl ?_
    refine zW_s rfl ?_
    refine zW_if (fun (c102 : 0 ≤ x1) => ?_) (fun (c102 : ¬ (0 ≤ x1)) => ?_)
    · rw [if_pos c102] at h
      refine zW_s rfl ?_
      have hp103 := h.1; replace h := h.2
      refine zW_p rfl hp103 ?_
      refine zW_s rfl ?_
      refine zW_s rfl ?_
      refine zW_s rfl ?_
      exact h
    · rw [if_neg c102] at h
      refine zW_s rfl ?_
      refine zW_r rfl (by decide) ?_
      exact h
  · rw [if_neg c101] at h
    refine zW_s rfl ?_
    have hp104 := h.1; replace h := h.2
    refine zW_p rfl hp104 ?_
    refine zW_s rfl ?_
    have hp105 := h.1; replace h := h.2
    have hp106 := h.1; replace h := h.2
    refine zW_p rfl ⟨hp105, hp106⟩ ?_
    refine zW_s rfl ?_
    refine zW_p rfl hp104 ?_
    refine zW_s rfl ?_
    refine zW_s rfl ?_
    refine zW_s rfl ?_
    have hp107 := h.1; replace h := h.2
    refine zW_p rfl ⟨hp105, hp107⟩ ?_
    refine zW_s rfl ?_
    refine zW_if (fun (c108 : (zA σ (zQ σ r0 62) x1.toNatClampNeg) ≤ (zA σ (zQ σ r0 62) (x1 + (nI 1)).toNatClampNeg)) => ?_) (fun (c108 : ¬ ((zA σ (zQ σ r0 62) x1.toNatClampNeg) ≤ (zA σ (zQ σ r0 62) (x1 + (nI 1)).toNatClampNeg))) => ?_)
    · rw [if_pos c108] at h
      refine zW_s rfl ?_
      refine zW_s rfl ?_
      refine zW_if (fun (c109 : 0 ≤ x1) => ?_) (fun (c109 : ¬ (0 ≤ x1)) => ?_)
      · rw [if_pos c109] at h
        refine zW_s rfl ?_
        refine zW_p rfl hp104 ?_
        refine zW_s rfl ?_
        refine zW_s rfl ?_
        refine zW_s rfl ?_
        exact h
      · rw [if_neg c109] at h
        refine zW_s rfl ?_
        refine zW_r rfl (by decide) ?_
        exact h
    · rw [if_neg c108] at h
      refine zW_s rfl ?_
      refine zW_s rfl ?_
      exact h
set_option maxHeartbeats 4000000 in
theorem b202_47 {d : Nat} {r0 : Nat} {x1 : Int32} {x2 : Int32} {σ : zH} {Q : Option Value → zH → Prop} (h : (zK σ r0 = 13) ∧ (zK σ (zQ σ r0 62) = 20) ∧ (vp_in x2 (zN σ (zQ σ r0 62))) ∧ (vp_in x1 (zN σ (zQ σ r0 62))) ∧ (if (zA σ (zQ σ r0 62) x1.toNatClampNeg) ≤ (zA σ (zQ σ r0 62) x2.toNatClampNeg) then zW (d) 202 107 [(0, .ref r0), (4, .int (x1 + (nI 1))), (5, .int ((zI σ r0 5) - (nI 1)))] [] (zsA (zsA σ (zQ σ r0 62) x1.toNatClampNeg (zA σ (zQ σ r0 62) x2.toNatClampNeg)) (zQ σ r0 62) x2.toNatClampNeg (zA σ (zQ σ r0 62) x1.toNatClampNeg)) Q else zW (d) 202 47 [(0, .ref r0), (1, .int x1), (2, .int (x2 + (-1)))] [] σ Q)) : zW (d) 202 47 [(0, .ref r0), (1, .int x1), (2, .int x2)] [] σ Q := by
  refine zW_s rfl ?_
  have hp101 := h.1; replace h := h.2
  refine zW_p rfl hp101 ?_
  refine zW_s rfl ?_
  have hp102 := h.1; replace h := h.2
  have hp103 := h.1; replace h := h.2
  refine zW_p rfl ⟨hp102, hp103⟩ ?_
  refine zW_s rfl ?_
  refine zW_p rfl hp101 ?_
  refine zW_s rfl ?_
  have hp104 := h.1; replace h := h.2
  refine zW_p rfl ⟨hp102, hp104⟩ ?_
  refine zW_s rfl ?_
  refine zW_if (fun (c105 : (zA σ (zQ σ r0 62) x1.toNatClampNeg) ≤ (zA σ (zQ σ r0 62) x2.toNatClampNeg)) => ?_) (fun (c105 : ¬ ((zA σ (zQ σ r0 62) x1.toNatClampNeg) ≤ (zA σ (zQ σ r0 62) x2.toNatClampNeg))) => ?_)
  · rw [if_pos c105] at h
    refine zW_s rfl ?_
    refine zW_p rfl hp101 ?_
    refine zW_s rfl ?_
    refine zW_p rfl ⟨hp102, hp104⟩ ?_
    refine zW_s rfl ?_
    refine zW_s rfl ?_
    refine zW_p rfl hp101 ?_
    refine zW_s rfl ?_
    refine zW_s rfl ?_
    refine zW_p rfl hp101 ?_
    refine zW_s rfl ?_
    refine zW_p rfl ⟨hp102, hp103⟩ ?_
    refine zW_p rfl ⟨hp102, hp104⟩ ?_
    refine zW_s rfl ?_
    refine zW_p rfl hp101 ?_
    refine zW_s rfl ?_
    refine zW_s rfl ?_
    refine zW_p rfl ⟨hp102, hp103⟩ ?_
    refine zW_s rfl ?_
    refine zW_s rfl ?_
    refine zW_s rfl ?_
    refine zW_s rfl ?_
    refine zW_s rfl ?_
    refine zW_p rfl hp101 ?_
    refine zW_s rfl ?_
    refine zW_s rfl ?_
    refine zW_s rfl ?_
    refine zW_k [0, 4, 5] rfl ?_
    exact h
  · rw [if_neg c105] at h
    refine zW_s rfl ?_
    refine zW_s rfl ?_
    exact h
set_option maxHeartbeats 4000000 in
theorem b202_107 {d : Nat} {r0 : Nat} {x4 : Int32} {x5 : Int32} {σ : zH} {Q : Option Value → zH → Prop} (h : (if x5 ≤ x4 then Q (some (.int (nI 1))) σ else (zK σ r0 = 13) ∧ (zK σ (zQ σ r0 62) = 20) ∧ (vp_in x4 (zN σ (zQ σ r0 62))) ∧ (vp_in x5 (zN σ (zQ σ r0 62))) ∧ zW (d) 202 107 [(0, .ref r0), (4, .int (x4 + nI 1)), (5, .int (x5 + (-1)))] [] (zsA (zsA σ (zQ σ r0 62) x4.toNatClampNeg (zA σ (zQ σ r0 62) x5.toNatClampNeg)) (zQ σ r0 62) x5.toNatClampNeg (zA σ (zQ σ r0 62) x4.toNatClampNeg)) Q)) : zW (d) 202 107 [(0, .ref r0), (4, .int x4), (5, .int x5)] [] σ Q := by
  refine zW_s rfl ?_
  refine zW_s rfl ?_
  refine zW_s rfl ?_
  refine zW_if (fun (c101 : x5 ≤ x4) => ?_) (fun (c101 : ¬ (x5 ≤ x4)) => ?_)
  · rw [if_pos c101] at h
    refine zW_s rfl ?_
    refine zW_r rfl (by decide) ?_
    exact h
  · rw [if_neg c101] at h
    refine zW_s rfl ?_
    have hp102 := h.1; replace h := h.2
    refine zW_p rfl hp102 ?_
    refine zW_s rfl ?_
    have hp103 := h.1; replace h := h.2
    have hp104 := h.1; replace h := h.2
    refine zW_p rfl ⟨hp103, hp104⟩ ?_
    refine zW_s rfl ?_
    refine zW_s rfl ?_
    refine zW_p rfl hp102 ?_
    refine zW_s rfl ?_
    refine zW_s rfl ?_
    refine zW_p rfl hp102 ?_
    refine zW_s rfl ?_
    have hp105 := h.1; replace h := h.2
    refine zW_p rfl ⟨hp103, hp105⟩ ?_
    refine zW_p rfl ⟨hp103, hp104⟩ ?_
    refine zW_s rfl ?_
    refine zW_p rfl hp102 ?_
    refine zW_s rfl ?_
    refine zW_s rfl ?_
    refine zW_p rfl ⟨hp103, hp105⟩ ?_
    refine zW_s rfl ?_
    refine zW_s rfl ?_
    refine zW_s rfl ?_
    refine zW_k [0, 1, 2] rfl ?_
    exact h
set_option maxHeartbeats 4000000 in
theorem b203 {d : Nat} {r0 : Nat} {x1 : Int32} {σ : zH} {Q : Option Value → zH → Prop} (h : (if x1 < (nI 1) then zW (d) 203 19 [(0, .ref r0), (1, .int x1)] [.int (nI 1), .ref r0] σ Q else (zK σ r0 = 13) ∧ (if ¬ (zI (zsI σ r0 0 (if x1 ≤ (zI σ r0 5) then nI 0 else nI 1)) r0 0) = (nI 1) then (zK σ (zQ σ r0 9) = 20) ∧ (vp_in (x1 - (nI 1)) (zN σ (zQ σ r0 9))) ∧ Q (some (.int (zA σ (zQ σ r0 9) (x1 - (nI 1)).toNatClampNeg))) (zsI σ r0 0 (if x1 ≤ (zI σ r0 5) then nI 0 else nI 1)) else Q (some (.int (nI 0))) (zsI σ r0 0 (if x1 ≤ (zI σ r0 5) then nI 0 else nI 1))))) : zM (d) 203 [.ref r0, .int x1] σ Q := by
  unfold zM
  refine zW_s rfl ?_
  refine zW_s rfl ?_
  refine zW_s rfl ?_
  refine zW_s rfl ?_
  refine zW_if (fun (c101 : x1 < (nI 1)) => ?_) (fun (c101 : ¬ (x1 < (nI 1))) => ?_)
  · rw [if_pos c101] at h
    refine zW_s rfl ?_
    refine zW_s rfl ?_
    exact h
  · rw [if_neg c101] at h
    refine zW_s rfl ?_
    refine zW_s rfl ?_
    have hp102 := h.1; replace h := h.2
    refine zW_p rfl hp102 ?_
    refine zW_s rfl ?_
    have k : ∀ v : Int32, v = (if x1 ≤ (zI σ r0 5) then nI 0 else nI 1) → zW (d) 203 19 [(0, .ref r0), (1, .int x1)] [.int v, .ref r0] σ Q := by
      intro v hv
      subst hv
      refine zW_p rfl hp102 ?_
      refine zW_s rfl ?_
      refine zW_p rfl hp102 ?_
      refine zW_s rfl ?_
      refine zW_s rfl ?_
      refine zW_if (fun (c104 : ¬ (zI (zsI σ r0 0 (if x1 ≤ (zI σ r0 5) then nI 0 else nI 1)) r0 0) = (nI 1)) => ?_) (fun (c104 : ¬ (¬ (zI (zsI σ r0 0 (if x1 ≤ (zI σ r0 5) then nI 0 else nI 1)) r0 0) = (nI 1))) => ?_)
      · rw [if_pos c104] at h
        refine zW_s rfl ?_
        refine zW_p rfl hp102 ?_
        refine zW_s rfl ?_
        refine zW_s rfl ?_
        refine zW_s rfl ?_
        have hp105 := h.1; replace h := h.2
        have hp106 := h.1; replace h := h.2
        refine zW_p rfl ⟨hp105, hp106⟩ ?_
        refine zW_r rfl trivial ?_
        exact h
      · rw [if_neg c104] at h
        refine zW_s rfl ?_
        refine zW_s rfl ?_
        refine zW_r rfl trivial ?_
        exact h
    refine zW_if (fun (c103 : x1 ≤ (zI σ r0 5)) => ?_) (fun (c103 : ¬ (x1 ≤ (zI σ r0 5))) => ?_)
    · replace k := k _ (if_pos c103).symm
      refine zW_s rfl ?_
      exact k
    · replace k := k _ (if_neg c103).symm
      refine zW_s rfl ?_
      refine zW_s rfl ?_
      exact k
set_option maxHeartbeats 4000000 in
theorem b203_19 {d : Nat} {r0 : Nat} {x1 : Int32} {v0 : Int32} {v1 : Nat} {σ : zH} {Q : Option Value → zH → Prop} (h : (zK σ v1 = 13) ∧ (zK σ r0 = 13) ∧ (if ¬ (zI (zsI σ v1 0 v0) r0 0) = (nI 1) then (zK σ (zQ σ r0 9) = 20) ∧ (vp_in (x1 - (nI 1)) (zN σ (zQ σ r0 9))) ∧ Q (some (.int (zA σ (zQ σ r0 9) (x1 - (nI 1)).toNatClampNeg))) (zsI σ v1 0 v0) else Q (some (.int (nI 0))) (zsI σ v1 0 v0))) : zW (d) 203 19 [(0, .ref r0), (1, .int x1)] [.int v0, .ref v1] σ Q := by
  have hp101 := h.1; replace h := h.2
  refine zW_p rfl hp101 ?_
  refine zW_s rfl ?_
  have hp102 := h.1; replace h := h.2
  refine zW_p rfl hp102 ?_
  refine zW_s rfl ?_
  refine zW_s rfl ?_
  refine zW_if (fun (c103 : ¬ (zI (zsI σ v1 0 v0) r0 0) = (nI 1)) => ?_) (fun (c103 : ¬ (¬ (zI (zsI σ v1 0 v0) r0 0) = (nI 1))) => ?_)
  · rw [if_pos c103] at h
    refine zW_s rfl ?_
    refine zW_p rfl hp102 ?_
    refine zW_s rfl ?_
    refine zW_s rfl ?_
    refine zW_s rfl ?_
    have hp104 := h.1; replace h := h.2
    have hp105 := h.1; replace h := h.2
    refine zW_p rfl ⟨hp104, hp105⟩ ?_
    refine zW_r rfl trivial ?_
    exact h
  · rw [if_neg c103] at h
    refine zW_s rfl ?_
    refine zW_s rfl ?_
    refine zW_r rfl trivial ?_
    exact h
set_option maxHeartbeats 4000000 in
theorem b204 {d : Nat} {r0 : Nat} {x1 : Int32} {σ : zH} {Q : Option Value → zH → Prop} (h : (zK σ r0 = 13) ∧ (if ¬ x1 = 0 then (if ¬ x1 = (nI 1) then (if ¬ x1 = (nI 2) then Q (some (.int (if ¬ x1 = (nI 3) then (-1) else zI (zsI σ r0 0 (nI 0)) r0 59))) (zsI σ r0 0 (nI 0)) else Q (some (.int (zI (zsI σ r0 0 (nI 0)) r0 2))) (zsI σ r0 0 (nI 0))) else Q (some (.int (zI (zsI σ r0 0 (nI 0)) r0 30))) (zsI σ r0 0 (nI 0))) else Q (some (.int (zI (zsI σ r0 0 (nI 0)) r0 5))) (zsI σ r0 0 (nI 0)))) : zM (d) 204 [.ref r0, .int x1] σ Q := by
  unfold zM
  refine zW_s rfl ?_
  refine zW_s rfl ?_
  have hp101 := h.1; replace h := h.2
  refine zW_p rfl hp101 ?_
  refine zW_s rfl ?_
  refine zW_s rfl ?_
  refine zW_if (fun (c102 : ¬ x1 = 0) => ?_) (fun (c102 : ¬ (¬ x1 = 0)) => ?_)
  · rw [if_pos c102] at h
    refine zW_s rfl ?_
    refine zW_s rfl ?_
    refine zW_s rfl ?_
    refine zW_if (fun (c103 : ¬ x1 = (nI 1)) => ?_) (fun (c103 : ¬ (¬ x1 = (nI 1))) => ?_)
    · rw [if_pos c103] at h
      refine zW_s rfl ?_
      refine zW_s rfl ?_
      refine zW_s rfl ?_
      refine zW_if (fun (c104 : ¬ x1 = (nI 2)) => ?_) (fun (c104 : ¬ (¬ x1 = (nI 2))) => ?_)
      · rw [if_pos c104] at h
        refine zW_s rfl ?_
        refine zW_s rfl ?_
        refine zW_s rfl ?_
        have k : ∀ v : Int32, v = (if ¬ x1 = (nI 3) then (-1) else zI (zsI σ r0 0 (nI 0)) r0 59) → zW (d) 204 53 [(0, .ref r0), (1, .int x1)] [.int v] (zsI σ r0 0 (nI 0)) Q := by
          intro v hv
          subst hv
          refine zW_r rfl trivial ?_
          exact h
        refine zW_if (fun (c105 : ¬ x1 = (nI 3)) => ?_) (fun (c105 : ¬ (¬ x1 = (nI 3))) => ?_)
        · replace k := k _ (if_pos c105).symm
          refine zW_s rfl ?_
          exact k
        · replace k := k _ (if_neg c105).symm
          refine zW_s rfl ?_
          refine zW_p rfl hp101 ?_
          refine zW_s rfl ?_
          exact k
      · rw [if_neg c104] at h
        refine zW_s rfl ?_
        refine zW_p rfl hp101 ?_
        refine zW_s rfl ?_
        refine zW_r rfl trivial ?_
        exact h
    · rw [if_neg c103] at h
      refine zW_s rfl ?_
      refine zW_p rfl hp101 ?_
      refine zW_s rfl ?_
      refine zW_r rfl trivial ?_
      exact h
  · rw [if_neg c102] at h
    refine zW_s rfl ?_
    refine zW_p rfl hp101 ?_
    refine zW_s rfl ?_
    refine zW_r rfl trivial ?_
    exact h
