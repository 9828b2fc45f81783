set_option maxHeartbeats 4000000 in
theorem b157 {d : Nat} {r0 : Nat} {x1 : Int32} {x2 : Int32} {σ : zH} {Q : Option Value → zH → Prop} (h : (zK σ r0 = 13) ∧ zM d 162 [.ref r0] (zsI σ r0 39 (nI 0)) (fun r σ102 => zqi r (fun x103 => (if 0 ≤ x103 then (zK σ102 r0 = 13) ∧ (zK σ102 (zQ σ102 r0 26) = 20) ∧ (vp_in x1 (zN σ102 (zQ σ102 r0 26))) ∧ zM d 156 [.ref r0, .int x2] (zsA σ102 (zQ σ102 r0 26) x1.toNatClampNeg x103) (fun r σ108 => zqi r (fun x109 => (if ¬ x109 = 0 then (zK σ108 r0 = 13) ∧ (zK σ108 (zQ σ108 r0 27) = 20) ∧ (vp_in x1 (zN σ108 (zQ σ108 r0 27))) ∧ zM d 148 [.ref r0, .long (lN 1701606245)] (zsA σ108 (zQ σ108 r0 27) x1.toNatClampNeg (zI σ108 r0 31)) (fun r σ114 => zqi r (fun x115 => (if x115 = 0 then (zK σ114 r0 = 13) ∧ (zK σ114 (zQ σ114 r0 28) = 20) ∧ (vp_in x1 (zN σ114 (zQ σ114 r0 28))) ∧ Q (some (.int (nI 1))) (zsA σ114 (zQ σ114 r0 28) x1.toNatClampNeg (zI σ114 r0 31)) else (zK σ114 r0 = 13) ∧ zM d 142 [.ref r0] σ114 (fun r σ121 => zqv r ((zK σ121 r0 = 13) ∧ zM d 156 [.ref r0, .int x2] σ121 (fun r σ123 => zqi r (fun x124 => (if ¬ x124 = 0 then (zK σ123 r0 = 13) ∧ (zK σ123 (zQ σ123 r0 28) = 20) ∧ (vp_in x1 (zN σ123 (zQ σ123 r0 28))) ∧ Q (some (.int (nI 1))) (zsA σ123 (zQ σ123 r0 28) x1.toNatClampNeg (zI σ123 r0 31)) else Q (some (.int (nI 0))) σ123)))))))) else Q (some (.int (nI 0))) σ108))) else Q (some (.int (nI 0))) σ102)))) : zM (d + 1) 157 [.ref r0, .int x1, .int x2] σ Q := by
  unfold zM
  refine zW_s rfl ?_
  refine zW_s rfl ?_
  have hp101 := h.1; replace h := h.2
  refine zW_p rfl hp101 ?_
  refine zW_s rfl ?_
  refine zW_c rfl hp101 (zM_m h ?_)
  intro r σ102 h
  replace h := zqi_e h
  obtain ⟨x103, rfl, h⟩ := h
  refine zW_s rfl ?_
  refine zW_s rfl ?_
  refine zW_s rfl ?_
  refine zW_if (fun (c104 : 0 ≤ x103) => ?_) (fun (c104 : ¬ (0 ≤ x103)) => ?_)
  · rw [if_pos c104] at h
    refine zW_s rfl ?_
    have hp105 := h.1; replace h := h.2
    refine zW_p rfl hp105 ?_
    refine zW_s rfl ?_
    refine zW_s rfl ?_
    have hp106 := h.1; replace h := h.2
    have hp107 := h.1; replace h := h.2
    refine zW_p rfl ⟨hp106, hp107⟩ ?_
    refine zW_s rfl ?_
    refine zW_s rfl ?_
    refine zW_c rfl hp105 (zM_m h ?_)
    intro r σ108 h
    replace h := zqi_e h
    obtain ⟨x109, rfl, h⟩ := h
    refine zW_s rfl ?_
    refine zW_if (fun (c110 : ¬ x109 = 0) => ?_) (fun (c110 : ¬ (¬ x109 = 0)) => ?_)
    · rw [if_pos c110] at h
      refine zW_s rfl ?_
      have hp111 := h.1; replace h := h.2
      refine zW_p rfl hp111 ?_
      refine zW_s rfl ?_
      refine zW_s rfl ?_
      refine zW_p rfl hp111 ?_
      have hp112 := h.1; replace h := h.2
      have hp113 := h.1; replace h := h.2
      refine zW_p rfl ⟨hp112, hp113⟩ ?_
      refine zW_s rfl ?_
      refine zW_s rfl ?_
      refine zW_c rfl hp111 (zM_m h ?_)
      intro r σ114 h
      replace h := zqi_e h
      obtain ⟨x115, rfl, h⟩ := h
      refine zW_s rfl ?_
      refine zW_if (fun (c116 : x115 = 0) => ?_) (fun (c116 : ¬ (x115 = 0)) => ?_)
      · rw [if_pos c116] at h
        refine zW_s rfl ?_
        have hp117 := h.1; replace h := h.2
        refine zW_p rfl hp117 ?_
        refine zW_s rfl ?_
        refine zW_s rfl ?_
        refine zW_p rfl hp117 ?_
        have hp118 := h.1; replace h := h.2
        have hp119 := h.1; replace h := h.2
        refine zW_p rfl ⟨hp118, hp119⟩ ?_
        refine zW_s rfl ?_
        refine zW_r rfl (by decide) ?_
        exact h
      · rw [if_neg c116] at h
        refine zW_s rfl ?_
        have hp120 := h.1; replace h := h.2
        refine zW_c rfl hp120 (zM_m h ?_)
        intro r σ121 h
        replace h := zqv_e h
        obtain ⟨rfl, h⟩ := h
        refine zW_s rfl ?_
        refine zW_s rfl ?_
        have hp122 := h.1; replace h := h.2
        refine zW_c rfl hp122 (zM_m h ?_)
        intro r σ123 h
        replace h := zqi_e h
        obtain ⟨x124, rfl, h⟩ := h
        refine zW_s rfl ?_
        refine zW_if (fun (c125 : ¬ x124 = 0) => ?_) (fun (c125 : ¬ (¬ x124 = 0)) => ?_)
        · rw [if_pos c125] at h
          refine zW_s rfl ?_
          have hp126 := h.1; replace h := h.2
          refine zW_p rfl hp126 ?_
          refine zW_s rfl ?_
          refine zW_s rfl ?_
          refine zW_p rfl hp126 ?_
          have hp127 := h.1; replace h := h.2
          have hp128 := h.1; replace h := h.2
          refine zW_p rfl ⟨hp127, hp128⟩ ?_
          refine zW_s rfl ?_
          refine zW_r rfl (by decide) ?_
          exact h
        · rw [if_neg c125] at h
          refine zW_s rfl ?_
          refine zW_r rfl (by decide) ?_
          exact h
    · rw [if_neg c110] at h
      refine zW_s rfl ?_
      refine zW_r rfl (by decide) ?_
      exact h
  · rw [if_neg c104] at h
    refine zW_s rfl ?_
    refine zW_r rfl (by decide) ?_
    exact h
set_option maxHeartbeats 4000000 in
theorem b158 {d : Nat} {r0 : Nat} {x1 : Int32} {x2 : Int32} {σ : zH} {Q : Option Value → zH → Prop} (h : zW (d + 1) 158 5 [(0, .ref r0), (2, .int x2), (3, .int (nI 0)), (4, .int x1)] [] σ Q) : zM (d + 1) 158 [.ref r0, .int x1, .int x2] σ Q := by
  unfold zM
  refine zW_s rfl ?_
  refine zW_s rfl ?_
  refine zW_s rfl ?_
  refine zW_s rfl ?_
  refine zW_k [0, 2, 3, 4] rfl ?_
  exact h
set_option maxHeartbeats 4000000 in
theorem b158_5 {d : Nat} {r0 : Nat} {x2 : Int32} {x3 : Int32} {x4 : Int32} {σ : zH} {Q : Option Value → zH → Prop} (h : (if x2 ≤ x4 then Q (some (.int x3)) σ else (zK σ r0 = 13) ∧ (zK σ (zQ σ r0 21) = 21) ∧ (vp_in (((nI 48) * (zI σ r0 29)) + x4) (zN σ (zQ σ r0 21))) ∧ (if (lg_cmp (zB σ (zQ σ r0 21) (((nI 48) * (zI σ r0 29)) + x4).toNatClampNeg) (lN 499984983411)) = 0 then zW (d + 1) 158 54 [(0, .ref r0), (2, .int x2), (3, .int (x3 + nI 1)), (4, .int x4), (5, .int (((nI 48) * (zI σ r0 29)) + x4))] [] σ Q else (if ¬ (lg_cmp (zB σ (zQ σ r0 21) (((nI 48) * (zI σ r0 29)) + x4).toNatClampNeg) (lN 26982)) = 0 then zW (d + 1) 158 5 [(0, .ref r0), (2, .int x2), (3, .int (if (x3 + nI 1) ≤ (nI 501) then x3 + nI 1 else nI 501)), (4, .int (x4 + nI 1))] [] σ Q else zW (d + 1) 158 54 [(0, .ref r0), (2, .int x2), (3, .int (x3 + nI 1)), (4, .int x4), (5, .int (((nI 48) * (zI σ r0 29)) + x4))] [] σ Q)))) : zW (d + 1) 158 5 [(0, .ref r0), (2, .int x2), (3, .int x3), (4, .int x4)] [] σ Q := by
  refine zW_s rfl ?_
  refine zW_s rfl ?_
  refine zW_s rfl ?_
  refine zW_if (fun (c101 : x2 ≤ x4) => ?_) (fun (c101 : ¬ (x2 ≤ x4)) => ?_)
  · rw [if_pos c101] at h
    refine zW_s rfl ?_
    refine zW_r rfl trivial ?_
    exact h
  · rw [if_neg c101] at h
    refine zW_s rfl ?_
    refine zW_s rfl ?_
    have hp102 := h.1; replace h := h.2
    refine zW_p rfl hp102 ?_
    refine zW_s rfl ?_
    refine zW_s rfl ?_
    refine zW_s rfl ?_
    refine zW_s rfl ?_
    refine zW_s rfl ?_
    refine zW_s rfl ?_
    refine zW_p rfl hp102 ?_
    refine zW_s rfl ?_
    have hp103 := h.1; replace h := h.2
    have hp104 := h.1; replace h := h.2
    refine zW_p rfl ⟨hp103, hp104⟩ ?_
    refine zW_s rfl ?_
    refine zW_s rfl ?_
    refine zW_s rfl ?_
    refine zW_if (fun (c105 : (lg_cmp (zB σ (zQ σ r0 21) (((nI 48) * (zI σ r0 29)) + x4).toNatClampNeg) (lN 499984983411)) = 0) => ?_) (fun (c105 : ¬ ((lg_cmp (zB σ (zQ σ r0 21) (((nI 48) * (zI σ r0 29)) + x4).toNatClampNeg) (lN 499984983411)) = 0)) => ?_)
    · rw [if_pos c105] at h
      exact h
    · rw [if_neg c105] at h
      refine zW_s rfl ?_
      refine zW_p rfl hp102 ?_
      refine zW_s rfl ?_
      refine zW_p rfl ⟨hp103, hp104⟩ ?_
      refine zW_s rfl ?_
      refine zW_s rfl ?_
      refine zW_s rfl ?_
      refine zW_if (fun (c106 : ¬ (lg_cmp (zB σ (zQ σ r0 21) (((nI 48) * (zI σ r0 29)) + x4).toNatClampNeg) (lN 26982)) = 0) => ?_) (fun (c106 : ¬ (¬ (lg_cmp (zB σ (zQ σ r0 21) (((nI 48) * (zI σ r0 29)) + x4).toNatClampNeg) (lN 26982)) = 0)) => ?_)
      · rw [if_pos c106] at h
        refine zW_s rfl ?_
        refine zW_s rfl ?_
        refine zW_s rfl ?_
        refine zW_s rfl ?_
        have k : ∀ v : Int32, v = (if (x3 + nI 1) ≤ (nI 501) then x3 + nI 1 else nI 501) → zW (d + 1) 158 132 [(0, .ref r0), (2, .int x2), (3, .int (x3 + nI 1)), (4, .int (x4 + nI 1)), (5, .int (((nI 48) * (zI σ r0 29)) + x4))] [.int v] σ Q := by
          intro v hv
          subst hv
          refine zW_s rfl ?_
          refine zW_s rfl ?_
          refine zW_k [0, 1, 2, 3] rfl ?_
          exact h
        refine zW_if (fun (c107 : (x3 + nI 1) ≤ (nI 501)) => ?_) (fun (c107 : ¬ ((x3 + nI 1) ≤ (nI 501))) => ?_)
        · replace k := k _ (if_pos c107).symm
          refine zW_s rfl ?_
          exact k
        · replace k := k _ (if_neg c107).symm
          refine zW_s rfl ?_
          refine zW_s rfl ?_
          exact k
      · rw [if_neg c106] at h
        exact h
set_option maxHeartbeats 4000000 in
theorem b158_54 {d : Nat} {r0 : Nat} {x2 : Int32} {x3 : Int32} {x4 : Int32} {x5 : Int32} {σ : zH} {Q : Option Value → zH → Prop} (h : (zK σ r0 = 13) ∧ (zK σ (zQ σ r0 28) = 20) ∧ (vp_in x5 (zN σ (zQ σ r0 28))) ∧ zM d 158 [.ref r0, .int (x4 + (nI 1)), .int (zA σ (zQ σ r0 28) x5.toNatClampNeg)] σ (fun r σ104 => zqi r (fun x105 => (zK σ104 r0 = 13) ∧ (zK σ104 (zQ σ104 r0 21) = 21) ∧ (vp_in x5 (zN σ104 (zQ σ104 r0 21))) ∧ (if ¬ (lg_cmp (zB σ104 (zQ σ104 r0 21) x5.toNatClampNeg) (lN 499984983411)) = 0 then zW (d + 1) 158 101 [(0, .ref r0), (2, .int x2), (5, .int x5)] [.int x105, .int x3] σ104 Q else (zK σ104 (zQ σ104 r0 25) = 20) ∧ (vp_in x5 (zN σ104 (zQ σ104 r0 25))) ∧ zW (d + 1) 158 101 [(0, .ref r0), (2, .int x2), (5, .int x5)] [.int ((zA σ104 (zQ σ104 r0 25) x5.toNatClampNeg) * x105), .int x3] σ104 Q)))) : zW (d + 1) 158 54 [(0, .ref r0), (2, .int x2), (3, .int x3), (4, .int x4), (5, .int x5)] [] σ Q := by
  refine zW_s rfl ?_
  refine zW_s rfl ?_
  refine zW_s rfl ?_
  refine zW_s rfl ?_
  refine zW_s rfl ?_
  have hp101 := h.1; replace h := h.2
  refine zW_p rfl hp101 ?_
  refine zW_s rfl ?_
  have hp102 := h.1; replace h := h.2
  have hp103 := h.1; replace h := h.2
  refine zW_p rfl ⟨hp102, hp103⟩ ?_
  refine zW_c rfl hp101 (zM_m h ?_)
  intro r σ104 h
  replace h := zqi_e h
  obtain ⟨x105, rfl, h⟩ := h
  refine zW_s rfl ?_
  refine zW_s rfl ?_
  refine zW_s rfl ?_
  have hp106 := h.1; replace h := h.2
  refine zW_p rfl hp106 ?_
  refine zW_s rfl ?_
  have hp107 := h.1; replace h := h.2
  have hp108 := h.1; replace h := h.2
  refine zW_p rfl ⟨hp107, hp108⟩ ?_
  refine zW_s rfl ?_
  refine zW_s rfl ?_
  refine zW_s rfl ?_
  refine zW_if (fun (c109 : ¬ (lg_cmp (zB σ104 (zQ σ104 r0 21) x5.toNatClampNeg) (lN 499984983411)) = 0) => ?_) (fun (c109 : ¬ (¬ (lg_cmp (zB σ104 (zQ σ104 r0 21) x5.toNatClampNeg) (lN 499984983411)) = 0)) => ?_)
  · rw [if_pos c109] at h
    refine zW_s rfl ?_
    refine zW_k [0, 1, 4] rfl ?_
    exact h
  · rw [if_neg c109] at h
    refine zW_s rfl ?_
    refine zW_p rfl hp106 ?_
    refine zW_s rfl ?_
    have hp110 := h.1; replace h := h.2
    have hp111 := h.1; replace h := h.2
    refine zW_p rfl ⟨hp110, hp111⟩ ?_
    refine zW_s rfl ?_
    refine zW_s rfl ?_
    refine zW_s rfl ?_
    refine zW_k [0, 1, 4] rfl ?_
    exact h
set_option maxHeartbeats 4000000 in
theorem b158_101 {d : Nat} {r0 : Nat} {x2 : Int32} {x5 : Int32} {v0 : Int32} {v1 : Int32} {σ : zH} {Q : Option Value → zH → Prop} (h : (zK σ r0 = 13) ∧ (zK σ (zQ σ r0 28) = 20) ∧ (vp_in x5 (zN σ (zQ σ r0 28))) ∧ zW (d + 1) 158 5 [(0, .ref r0), (2, .int x2), (3, .int (if (v1 + v0) ≤ (nI 501) then v1 + v0 else nI 501)), (4, .int (zA σ (zQ σ r0 28) x5.toNatClampNeg))] [] σ Q) : zW (d + 1) 158 101 [(0, .ref r0), (2, .int x2), (5, .int x5)] [.int v0, .int v1] σ Q := by
  refine zW_s rfl ?_
  refine zW_s rfl ?_
  refine zW_s rfl ?_
  have hp101 := h.1; replace h := h.2
  refine zW_p rfl hp101 ?_
  refine zW_s rfl ?_
  have hp102 := h.1; replace h := h.2
  have hp103 := h.1; replace h := h.2
  refine zW_p rfl ⟨hp102, hp103⟩ ?_
  refine zW_s rfl ?_
  refine zW_s rfl ?_
  refine zW_s rfl ?_
  refine zW_s rfl ?_
  refine zW_s rfl ?_
  have k : ∀ v : Int32, v = (if (v1 + v0) ≤ (nI 501) then v1 + v0 else nI 501) → zW (d + 1) 158 132 [(0, .ref r0), (2, .int x2), (5, .int x5), (3, .int (v1 + v0)), (4, .int (zA σ (zQ σ r0 28) x5.toNatClampNeg))] [.int v] σ Q := by
    intro v hv
    subst hv
    refine zW_s rfl ?_
    refine zW_s rfl ?_
    refine zW_k [0, 1, 3, 4] rfl ?_
    exact h
  refine zW_if (fun (c104 : (v1 + v0) ≤ (nI 501)) => ?_) (fun (c104 : ¬ ((v1 + v0) ≤ (nI 501))) => ?_)
  · replace k := k _ (if_pos c104).symm
    refine zW_s rfl ?_
    exact k
  · replace k := k _ (if_neg c104).symm
    refine zW_s rfl ?_
    refine zW_s rfl ?_
    exact k
set_option maxHeartbeats 4000000 in
theorem b159 {d : Nat} {r0 : Nat} {x1 : Int32} {x2 : Int32} {σ : zH} {Q : Option Value → zH → Prop} (h : zW (d + 1) 159 5 [(0, .ref r0), (2, .int x2), (3, .int (nI 0)), (4, .int x1)] [] σ Q) : zM (d + 1) 159 [.ref r0, .int x1, .int x2] σ Q := by
  unfold zM
  refine zW_s rfl ?_
  refine zW_s rfl ?_
  refine zW_s rfl ?_
  refine zW_s rfl ?_
  refine zW_k [0, 2, 3, 4] rfl ?_
  exact h
set_option maxHeartbeats 4000000 in
theorem b159_5 {d : Nat} {r0 : Nat} {x2 : Int32} {x3 : Int32} {x4 : Int32} {σ : zH} {Q : Option Value → zH → Prop} (h : (if x2 ≤ x4 then Q (some (.int x3)) σ else (zK σ r0 = 13) ∧ (zK σ (zQ σ r0 21) = 21) ∧ (vp_in (((nI 48) * (zI σ r0 29)) + x4) (zN σ (zQ σ r0 21))) ∧ (if ¬ (lg_cmp (zB σ (zQ σ r0 21) (((nI 48) * (zI σ r0 29)) + x4).toNatClampNeg) (lN 499984983411)) = 0 then (if ¬ (lg_cmp (zB σ (zQ σ r0 21) (((nI 48) * (zI σ r0 29)) + x4).toNatClampNeg) (lN 26982)) = 0 then (if (lg_cmp (zB σ (zQ σ r0 21) (((nI 48) * (zI σ r0 29)) + x4).toNatClampNeg) (lN 125797015120997)) = 0 then zW (d + 1) 159 151 [(0, .ref r0), (2, .int x2), (4, .int x4)] [.int (nI 1), .int x3] σ Q else (zK σ (zQ σ r0 25) = 20) ∧ (vp_in (((nI 48) * (zI σ r0 29)) + x4) (zN σ (zQ σ r0 25))) ∧ zW (d + 1) 159 5 [(0, .ref r0), (2, .int x2), (3, .int (if (x3 + (if ¬ (zA σ (zQ σ r0 25) (((nI 48) * (zI σ r0 29)) + x4).toNatClampNeg) = (nI 11) then nI 0 else nI 1)) ≤ (nI 100) then x3 + (if ¬ (zA σ (zQ σ r0 25) (((nI 48) * (zI σ r0 29)) + x4).toNatClampNeg) = (nI 11) then nI 0 else nI 1) else nI 100)), (4, .int (x4 + nI 1))] [] σ Q) else (zK σ (zQ σ r0 28) = 20) ∧ (vp_in (((nI 48) * (zI σ r0 29)) + x4) (zN σ (zQ σ r0 28))) ∧ zM d 159 [.ref r0, .int (x4 + (nI 1)), .int (zA σ (zQ σ r0 28) (((nI 48) * (zI σ r0 29)) + x4).toNatClampNeg)] σ (fun r σ114 => zqi r (fun x115 => (zK σ114 r0 = 13) ∧ (zK σ114 (zQ σ114 r0 28) = 20) ∧ (vp_in (((nI 48) * (zI σ r0 29)) + x4) (zN σ114 (zQ σ114 r0 28))) ∧ zW (d + 1) 159 5 [(0, .ref r0), (2, .int x2), (3, .int (if (x3 + x115) ≤ (nI 100) then x3 + x115 else nI 100)), (4, .int (zA σ114 (zQ σ114 r0 28) (((nI 48) * (zI σ r0 29)) + x4).toNatClampNeg))] [] σ114 Q))) else (zK σ (zQ σ r0 25) = 20) ∧ (vp_in (((nI 48) * (zI σ r0 29)) + x4) (zN σ (zQ σ r0 25))) ∧ (zK σ (zQ σ r0 28) = 20) ∧ (vp_in (((nI 48) * (zI σ r0 29)) + x4) (zN σ (zQ σ r0 28))) ∧ zM d 159 [.ref r0, .int (x4 + (nI 1)), .int (zA σ (zQ σ r0 28) (((nI 48) * (zI σ r0 29)) + x4).toNatClampNeg)] σ (fun r σ124 => zqi r (fun x125 => (zK σ124 r0 = 13) ∧ (zK σ124 (zQ σ124 r0 28) = 20) ∧ (vp_in (((nI 48) * (zI σ r0 29)) + x4) (zN σ124 (zQ σ124 r0 28))) ∧ zW (d + 1) 159 5 [(0, .ref r0), (2, .int x2), (3, .int (if (x3 + ((zA σ (zQ σ r0 25) (((nI 48) * (zI σ r0 29)) + x4).toNatClampNeg) * x125)) ≤ (nI 100) then x3 + ((zA σ (zQ σ r0 25) (((nI 48) * (zI σ r0 29)) + x4).toNatClampNeg) * x125) else nI 100)), (4, .int (zA σ124 (zQ σ124 r0 28) (((nI 48) * (zI σ r0 29)) + x4).toNatClampNeg))] [] σ124 Q))))) : zW (d + 1) 159 5 [(0, .ref r0), (2, .int x2), (3, .int x3), (4, .int x4)] [] σ Q := by
  refine zW_s rfl ?_
  refine zW_s rfl ?_
  refine zW_s rfl ?_
  refine zW_if (fun (c101 : x2 ≤ x4) => ?_) (fun (c101 : ¬ (x2 ≤ x4)) => ?_)
  · rw [if_pos c101] at h
    refine zW_s rfl ?_
    refine zW_r rfl trivial ?_
    exact h
  · rw [if_neg c101] at h
    refine zW_s rfl ?_
    refine zW_s rfl ?_
    have hp102 := h.1; replace h := h.2
    refine zW_p rfl hp102 ?_
    refine zW_s rfl ?_
    refine zW_s rfl ?_
    refine zW_s rfl ?_
    refine zW_s rfl ?_
    refine zW_s rfl ?_
    refine zW_p rfl hp102 ?_
    refine zW_s rfl ?_
    have hp103 := h.1; replace h := h.2
    have hp104 := h.1; replace h := h.2
    refine zW_p rfl ⟨hp103, hp104⟩ ?_
    refine zW_s rfl ?_
    refine zW_s rfl ?_
    refine zW_s rfl ?_
    refine zW_if (fun (c105 : ¬ (lg_cmp (zB σ (zQ σ r0 21) (((nI 48) * (zI σ r0 29)) + x4).toNatClampNeg) (lN 499984983411)) = 0) => ?_) (fun (c105 : ¬ (¬ (lg_cmp (zB σ (zQ σ r0 21) (((nI 48) * (zI σ r0 29)) + x4).toNatClampNeg) (lN 499984983411)) = 0)) => ?_)
    · rw [if_pos c105] at h
      refine zW_s rfl ?_
      refine zW_p rfl hp102 ?_
      refine zW_s rfl ?_
      refine zW_p rfl ⟨hp103, hp104⟩ ?_
      refine zW_s rfl ?_
      refine zW_s rfl ?_
      refine zW_s rfl ?_
      refine zW_if (fun (c106 : ¬ (lg_cmp (zB σ (zQ σ r0 21) (((nI 48) * (zI σ r0 29)) + x4).toNatClampNeg) (lN 26982)) = 0) => ?_) (fun (c106 : ¬ (¬ (lg_cmp (zB σ (zQ σ r0 21) (((nI 48) * (zI σ r0 29)) + x4).toNatClampNeg) (lN 26982)) = 0)) => ?_)
      · rw [if_pos c106] at h
        refine zW_s rfl ?_
        refine zW_s rfl ?_
        refine zW_p rfl hp102 ?_
        refine zW_s rfl ?_
        refine zW_p rfl ⟨hp103, hp104⟩ ?_
        refine zW_s rfl ?_
        refine zW_s rfl ?_
        refine zW_s rfl ?_
        refine zW_if (fun (c107 : (lg_cmp (zB σ (zQ σ r0 21) (((nI 48) * (zI σ r0 29)) + x4).toNatClampNeg) (lN 125797015120997)) = 0) => ?_) (fun (c107 : ¬ ((lg_cmp (zB σ (zQ σ r0 21) (((nI 48) * (zI σ r0 29)) + x4).toNatClampNeg) (lN 125797015120997)) = 0)) => ?_)
        · rw [if_pos c107] at h
          refine zW_s rfl ?_
          refine zW_s rfl ?_
          refine zW_k [0, 1, 3] rfl ?_
          exact h
        · rw [if_neg c107] at h
          refine zW_s rfl ?_
          refine zW_p rfl hp102 ?_
          refine zW_s rfl ?_
          have hp108 := h.1; replace h := h.2
          have hp109 := h.1; replace h := h.2
          refine zW_p rfl ⟨hp108, hp109⟩ ?_
          refine zW_s rfl ?_
          refine zW_s rfl ?_
          have k : ∀ v : Int32, v = (if ¬ (zA σ (zQ σ r0 25) (((nI 48) * (zI σ r0 29)) + x4).toNatClampNeg) = (nI 11) then nI 0 else nI 1) → zW (d + 1) 159 151 [(0, .ref r0), (2, .int x2), (3, .int x3), (4, .int x4), (5, .int (((nI 48) * (zI σ r0 29)) + x4))] [.int v, .int x3] σ Q := by
            intro v hv
            subst hv
            refine zW_s rfl ?_
            refine zW_s rfl ?_
            refine zW_s rfl ?_
            refine zW_s rfl ?_
            refine zW_s rfl ?_
            refine zW_s rfl ?_
            have k : ∀ v : Int32, v = (if (x3 + (if ¬ (zA σ (zQ σ r0 25) (((nI 48) * (zI σ r0 29)) + x4).toNatClampNeg) = (nI 11) then nI 0 else nI 1)) ≤ (nI 100) then x3 + (if ¬ (zA σ (zQ σ r0 25) (((nI 48) * (zI σ r0 29)) + x4).toNatClampNeg) = (nI 11) then nI 0 else nI 1) else nI 100) → zW (d + 1) 159 168 [(0, .ref r0), (2, .int x2), (3, .int (x3 + (if ¬ (zA σ (zQ σ r0 25) (((nI 48) * (zI σ r0 29)) + x4).toNatClampNeg) = (nI 11) then nI 0 else nI 1))), (4, .int (x4 + nI 1)), (5, .int (((nI 48) * (zI σ r0 29)) + x4))] [.int v] σ Q := by
              intro v hv
              subst hv
              refine zW_s rfl ?_
              refine zW_s rfl ?_
              refine zW_k [0, 1, 2, 3] rfl ?_
              exact h
            refine zW_if (fun (c111 : (x3 + (if ¬ (zA σ (zQ σ r0 25) (((nI 48) * (zI σ r0 29)) + x4).toNatClampNeg) = (nI 11) then nI 0 else nI 1)) ≤ (nI 100)) => ?_) (fun (c111 : ¬ ((x3 + (if ¬ (zA σ (zQ σ r0 25) (((nI 48) * (zI σ r0 29)) + x4).toNatClampNeg) = (nI 11) then nI 0 else nI 1)) ≤ (nI 100))) => ?_)
            · replace k := k _ (if_pos c111).symm
              refine zW_s rfl ?_
              exact k
            · replace k := k _ (if_neg c111).symm
              refine zW_s rfl ?_
              refine zW_s rfl ?_
              exact k
          refine zW_if (fun (c110 : ¬ (zA σ (zQ σ r0 25) (((nI 48) * (zI σ r0 29)) + x4).toNatClampNeg) = (nI 11)) => ?_) (fun (c110 : ¬ (¬ (zA σ (zQ σ r0 25) (((nI 48) * (zI σ r0 29)) + x4).toNatClampNeg) = (nI 11))) => ?_)
          · replace k := k _ (if_pos c110).symm
            refine zW_s rfl ?_
            exact k
          · replace k := k _ (if_neg c110).symm
            refine zW_s rfl ?_
            refine zW_s rfl ?_
            exact k
      · rw [if_neg c106] at h
        refine zW_s rfl ?_
        refine zW_s rfl ?_
        refine zW_s rfl ?_
        refine zW_s rfl ?_
        refine zW_s rfl ?_
        refine zW_s rfl ?_
        refine zW_p rfl hp102 ?_
        refine zW_s rfl ?_
        have hp112 := h.1; replace h := h.2
        have hp113 := h.1; replace h := h.2
        refine zW_p rfl ⟨hp112, hp113⟩ ?_
        refine zW_c rfl hp102 (zM_m h ?_)
        intro r σ114 h
        replace h := zqi_e h
        obtain ⟨x115, rfl, h⟩ := h
        refine zW_s rfl ?_
        refine zW_s rfl ?_
        refine zW_s rfl ?_
        have hp116 := h.1; replace h := h.2
        refine zW_p rfl hp116 ?_
        refine zW_s rfl ?_
        have hp117 := h.1; replace h := h.2
        have hp118 := h.1; replace h := h.2
        refine zW_p rfl ⟨hp117, hp118⟩ ?_
        refine zW_s rfl ?_
        refine zW_s rfl ?_
        refine zW_s rfl ?_
        refine zW_s rfl ?_
        refine zW_s rfl ?_
        have k : ∀ v : Int32, v = (if (x3 + x115) ≤ (nI 100) then x3 + x115 else nI 100) → zW (d + 1) 159 168 [(0, .ref r0), (2, .int x2), (3, .int (x3 + x115)), (4, .int (zA σ114 (zQ σ114 r0 28) (((nI 48) * (zI σ r0 29)) + x4).toNatClampNeg)), (5, .int (((nI 48) * (zI σ r0 29)) + x4))] [.int v] σ114 Q := by
          intro v hv
          subst hv
          refine zW_s rfl ?_
          refine zW_s rfl ?_
          refine zW_k [0, 1, 2, 3] rfl ?_
          exact h
        refine zW_if (fun (c119 : (x3 + x115) ≤ (nI 100)) => ?_) (fun (c119 : ¬ ((x3 + x115) ≤ (nI 100))) => ?_)
        · replace k := k _ (if_pos c119).symm
          refine zW_s rfl ?_
          exact k
        · replace k := k _ (if_neg c119).symm
          refine zW_s rfl ?_
          refine zW_s rfl ?_
          exact k
    · rw [if_neg c105] at h
      refine zW_s rfl ?_
      refine zW_s rfl ?_
      refine zW_p rfl hp102 ?_
      refine zW_s rfl ?_
      have hp120 := h.1; replace h := h.2
      have hp121 := h.1; replace h := h.2
      refine zW_p rfl ⟨hp120, hp121⟩ ?_
      refine zW_s rfl ?_
      refine zW_s rfl ?_
      refine zW_s rfl ?_
      refine zW_s rfl ?_
      refine zW_s rfl ?_
      refine zW_p rfl hp102 ?_
      refine zW_s rfl ?_
      have hp122 := h.1; replace h := h.2
      have hp123 := h.1; replace h := h.2
      refine zW_p rfl ⟨hp122, hp123⟩ ?_
      refine zW_c rfl hp102 (zM_m h ?_)
      intro r σ124 h
      replace h := zqi_e h
      obtain ⟨x125, rfl, h⟩ := h
      refine zW_s rfl ?_
      refine zW_s rfl ?_
      refine zW_s rfl ?_
      refine zW_s rfl ?_
      have hp126 := h.1; replace h := h.2
      refine zW_p rfl hp126 ?_
      refine zW_s rfl ?_
      have hp127 := h.1; replace h := h.2
      have hp128 := h.1; replace h := h.2
      refine zW_p rfl ⟨hp127, hp128⟩ ?_
      refine zW_s rfl ?_
      refine zW_s rfl ?_
      refine zW_s rfl ?_
      refine zW_s rfl ?_
      refine zW_s rfl ?_
      have k : ∀ v : Int32, v = (if (x3 + ((zA σ (zQ σ r0 25) (((nI 48) * (zI σ r0 29)) + x4).toNatClampNeg) * x125)) ≤ (nI 100) then x3 + ((zA σ (zQ σ r0 25) (((nI 48) * (zI σ r0 29)) + x4).toNatClampNeg) * x125) else nI 100) → zW (d + 1) 159 168 [(0, .ref r0), (2, .int x2), (3, .int (x3 + ((zA σ (zQ σ r0 25) (((nI 48) * (zI σ r0 29)) + x4).toNatClampNeg) * x125))), (4, .int (zA σ124 (zQ σ124 r0 28) (((nI 48) * (zI σ r0 29)) + x4).toNatClampNeg)), (5, .int (((nI 48) * (zI σ r0 29)) + x4))] [.int v] σ124 Q := by
        intro v hv
        subst hv
        refine zW_s rfl ?_
        refine zW_s rfl ?_
        refine zW_k [0, 1, 2, 3] rfl ?_
        exact h
      refine zW_if (fun (c129 : (x3 + ((zA σ (zQ σ r0 25) (((nI 48) * (zI σ r0 29)) + x4).toNatClampNeg) * x125)) ≤ (nI 100)) => ?_) (fun (c129 : ¬ ((x3 + ((zA σ (zQ σ r0 25) (((nI 48) * (zI σ r0 29)) + x4).toNatClampNeg) * x125)) ≤ (nI 100))) => ?_)
      · replace k := k _ (if_pos c129).symm
        refine zW_s rfl ?_
        exact k
      · replace k := k _ (if_neg c129).symm
        refine zW_s rfl ?_
        refine zW_s rfl ?_
        exact k
set_option maxHeartbeats 4000000 in
theorem b159_151 {d : Nat} {r0 : Nat} {x2 : Int32} {x4 : Int32} {v0 : Int32} {v1 : Int32} {σ : zH} {Q : Option Value → zH → Prop} (h : zW (d + 1) 159 5 [(0, .ref r0), (2, .int x2), (3, .int (if (v1 + v0) ≤ (nI 100) then v1 + v0 else nI 100)), (4, .int (x4 + nI 1))] [] σ Q) : zW (d + 1) 159 151 [(0, .ref r0), (2, .int x2), (4, .int x4)] [.int v0, .int v1] σ Q := by
  refine zW_s rfl ?_
  refine zW_s rfl ?_
  refine zW_s rfl ?_
  refine zW_s rfl ?_
  refine zW_s rfl ?_
  refine zW_s rfl ?_
  have k : ∀ v : Int32, v = (if (v1 + v0) ≤ (nI 100) then v1 + v0 else nI 100) → zW (d + 1) 159 168 [(0, .ref r0), (2, .int x2), (4, .int (x4 + nI 1)), (3, .int (v1 + v0))] [.int v] σ Q := by
    intro v hv
    subst hv
    refine zW_s rfl ?_
    refine zW_s rfl ?_
    refine zW_k [0, 1, 3, 2] rfl ?_
    exact h
  refine zW_if (fun (c101 : (v1 + v0) ≤ (nI 100)) => ?_) (fun (c101 : ¬ ((v1 + v0) ≤ (nI 100))) => ?_)
  · replace k := k _ (if_pos c101).symm
    refine zW_s rfl ?_
    exact k
  · replace k := k _ (if_neg c101).symm
    refine zW_s rfl ?_
    refine zW_s rfl ?_
    exact k
set_option maxHeartbeats 4000000 in
theorem b160 {d : Nat} {r0 : Nat} {x1 : Int32} {x2 : Int32} {x3 : Int32} {x4 : Int32} {σ : zH} {Q : Option Value → zH → Prop} (h : (zK σ r0 = 13) ∧ (zK σ (zQ σ r0 32) = 20) ∧ (vp_in (zI σ r0 36) (zN σ (zQ σ r0 32))) ∧ (zK σ (zQ σ r0 33) = 20) ∧ (vp_in (zI σ r0 36) (zN σ (zQ σ r0 33))) ∧ (zK σ (zQ σ r0 34) = 20) ∧ (vp_in (zI σ r0 36) (zN σ (zQ σ r0 34))) ∧ (zK σ (zQ σ r0 35) = 20) ∧ (vp_in (zI σ r0 36) (zN σ (zQ σ r0 35))) ∧ Q (some (.int ((zI (zsI σ r0 36 ((zI σ r0 36) + (nI 1))) r0 36) - (nI 1)))) (zsI (zsA (zsA (zsA (zsA σ (zQ σ r0 32) (zI σ r0 36).toNatClampNeg x1) (zQ σ r0 33) (zI σ r0 36).toNatClampNeg x2) (zQ σ r0 34) (zI σ r0 36).toNatClampNeg x3) (zQ σ r0 35) (zI σ r0 36).toNatClampNeg x4) r0 36 ((zI σ r0 36) + (nI 1)))) : zM (d) 160 [.ref r0, .int x1, .int x2, .int x3, .int x4] σ Q := by
  unfold zM
  refine zW_s rfl ?_
  have hp101 := h.1; replace h := h.2
  refine zW_p rfl hp101 ?_
  refine zW_s rfl ?_
  refine zW_p rfl hp101 ?_
  refine zW_s rfl ?_
  have hp102 := h.1; replace h := h.2
  have hp103 := h.1; replace h := h.2
  refine zW_p rfl ⟨hp102, hp103⟩ ?_
  refine zW_s rfl ?_
  refine zW_p rfl hp101 ?_
  refine zW_s rfl ?_
  refine zW_p rfl hp101 ?_
  refine zW_s rfl ?_
  have hp104 := h.1; replace h := h.2
  have hp105 := h.1; replace h := h.2
  refine zW_p rfl ⟨hp104, hp105⟩ ?_
  refine zW_s rfl ?_
  refine zW_p rfl hp101 ?_
  refine zW_s rfl ?_
  refine zW_p rfl hp101 ?_
  refine zW_s rfl ?_
  have hp106 := h.1; replace h := h.2
  have hp107 := h.1; replace h := h.2
  refine zW_p rfl ⟨hp106, hp107⟩ ?_
  refine zW_s rfl ?_
  refine zW_p rfl hp101 ?_
  refine zW_s rfl ?_
  refine zW_p rfl hp101 ?_
  refine zW_s rfl ?_
  have hp108 := h.1; replace h := h.2
  have hp109 := h.1; replace h := h.2
  refine zW_p rfl ⟨hp108, hp109⟩ ?_
  refine zW_s rfl ?_
  refine zW_s rfl ?_
  refine zW_p rfl hp101 ?_
  refine zW_s rfl ?_
  refine zW_s rfl ?_
  refine zW_p rfl hp101 ?_
  refine zW_s rfl ?_
  refine zW_p rfl hp101 ?_
  refine zW_s rfl ?_
  refine zW_s rfl ?_
  refine zW_r rfl trivial ?_
  exact h
set_option maxHeartbeats 4000000 in
theorem b161 {d : Nat} {r0 : Nat} {x1 : Int32} {σ : zH} {Q : Option Value → zH → Prop} (h : Q (some (.int (if x1 = 0 then (-1) else nI 0))) σ) : zM (d) 161 [.ref r0, .int x1] σ Q := by
  unfold zM
  refine zW_s rfl ?_
  refine zW_s rfl ?_
  have k : ∀ v : Int32, v = (if x1 = 0 then (-1) else nI 0) → zW (d) 161 9 [(0, .ref r0), (1, .int x1)] [.int v] σ Q := by
    intro v hv
    subst hv
    refine zW_r rfl trivial ?_
    exact h
  refine zW_if (fun (c101 : x1 = 0) => ?_) (fun (c101 : ¬ (x1 = 0)) => ?_)
  · replace k := k _ (if_pos c101).symm
    refine zW_s rfl ?_
    exact k
  · replace k := k _ (if_neg c101).symm
    refine zW_s rfl ?_
    refine zW_s rfl ?_
    exact k
set_option maxHeartbeats 4000000 in
theorem b162 {d : Nat} {r0 : Nat} {σ : zH} {Q : Option Value → zH → Prop} (h : (zK σ r0 = 13) ∧ zM d 163 [.ref r0] σ (fun r σ102 => zqi r (fun x103 => zW (d + 1) 162 5 [(0, .ref r0), (1, .int x103)] [] σ102 Q))) : zM (d + 1) 162 [.ref r0] σ Q := by
  unfold zM
  refine zW_s rfl ?_
  have hp101 := h.1; replace h := h.2
  refine zW_c rfl hp101 (zM_m h ?_)
  intro r σ102 h
  replace h := zqi_e h
  obtain ⟨x103, rfl, h⟩ := h
  refine zW_s rfl ?_
  exact h
set_option maxHeartbeats 4000000 in
theorem b162_5 {d : Nat} {r0 : Nat} {x1 : Int32} {σ : zH} {Q : Option Value → zH → Prop} (h : (if x1 < 0 then Q (some (.int x1)) σ else (zK σ r0 = 13) ∧ zM d 148 [.ref r0, .long (lN 28530)] σ (fun r σ103 => zqi r (fun x104 => (if x104 = 0 then Q (some (.int x1)) σ103 else (zK σ103 r0 = 13) ∧ zM d 142 [.ref r0] σ103 (fun r σ107 => zqv r ((zK σ107 r0 = 13) ∧ zM d 163 [.ref r0] σ107 (fun r σ109 => zqi r (fun x110 => (if 0 ≤ x110 then (zK σ109 r0 = 13) ∧ zM d 160 [.ref r0, .int (nI 0), .int x1, .int x110, .int (nI 0)] σ109 (fun r σ113 => zqi r (fun x114 => zW (d + 1) 162 5 [(0, .ref r0), (1, .int x114)] [] σ113 Q)) else zW (d + 1) 162 5 [(0, .ref r0), (1, .int x110)] [] σ109 Q)))))))))) : zW (d + 1) 162 5 [(0, .ref r0), (1, .int x1)] [] σ Q := by
  refine zW_s rfl ?_
  refine zW_s rfl ?_
  refine zW_if (fun (c101 : x1 < 0) => ?_) (fun (c101 : ¬ (x1 < 0)) => ?_)
  · rw [if_pos c101] at h
    refine zW_s rfl ?_
    refine zW_r rfl trivial ?_
    exact h
  · rw [if_neg c101] at h
    refine zW_s rfl ?_
    refine zW_s rfl ?_
    have hp102 := h.1; replace h := h.2
    refine zW_c rfl hp102 (zM_m h ?_)
    intro r σ103 h
    replace h := zqi_e h
    obtain ⟨x104, rfl, h⟩ := h
    refine zW_s rfl ?_
    refine zW_if (fun (c105 : x104 = 0) => ?_) (fun (c105 : ¬ (x104 = 0)) => ?_)
    · rw [if_pos c105] at h
      refine zW_s rfl ?_
      refine zW_r rfl trivial ?_
      exact h
    · rw [if_neg c105] at h
      refine zW_s rfl ?_
      have hp106 := h.1; replace h := h.2
      refine zW_c rfl hp106 (zM_m h ?_)
      intro r σ107 h
      replace h := zqv_e h
      obtain ⟨rfl, h⟩ := h
      refine zW_s rfl ?_
      have hp108 := h.1; replace h := h.2
      refine zW_c rfl hp108 (zM_m h ?_)
      intro r σ109 h
      replace h := zqi_e h
      obtain ⟨x110, rfl, h⟩ := h
      refine zW_s rfl ?_
      refine zW_s rfl ?_
      refine zW_s rfl ?_
      refine zW_if (fun (c111 : 0 ≤ x110) => ?_) (fun (c111 : ¬ (0 ≤ x110)) => ?_)
      · rw [if_pos c111] at h
        refine zW_s rfl ?_
        refine zW_s rfl ?_
        refine zW_s rfl ?_
        refine zW_s rfl ?_
        refine zW_s rfl ?_
        have hp112 := h.1; replace h := h.2
        refine zW_c rfl hp112 (zM_m h ?_)
        intro r σ113 h
        replace h := zqi_e h
        obtain ⟨x114, rfl, h⟩ := h
        refine zW_s rfl ?_
        refine zW_s rfl ?_
        refine zW_k [0, 1] rfl ?_
        exact h
      · rw [if_neg c111] at h
        refine zW_s rfl ?_
        refine zW_s rfl ?_
        refine zW_s rfl ?_
        refine zW_s rfl ?_
        refine zW_k [0, 1] rfl ?_
        exact h
set_option maxHeartbeats 4000000 in
theorem b163 {d : Nat} {r0 : Nat} {σ : zH} {Q : Option Value → zH → Prop} (h : (zK σ r0 = 13) ∧ zM d 164 [.ref r0] σ (fun r σ102 => zqi r (fun x103 => zW (d + 1) 163 5 [(0, .ref r0), (1, .int x103)] [] σ102 Q))) : zM (d + 1) 163 [.ref r0] σ Q := by
  unfold zM
  refine zW_s rfl ?_
  have hp101 := h.1; replace h := h.2
  refine zW_c rfl hp101 (zM_m h ?_)
  intro r σ102 h
  replace h := zqi_e h
  obtain ⟨x103, rfl, h⟩ := h
  refine zW_s rfl ?_
  exact h
set_option maxHeartbeats 4000000 in
theorem b163_5 {d : Nat} {r0 : Nat} {x1 : Int32} {σ : zH} {Q : Option Value → zH → Prop} (h : (if x1 < 0 then Q (some (.int x1)) σ else (zK σ r0 = 13) ∧ zM d 148 [.ref r0, .long (lN 6385252)] σ (fun r σ103 => zqi r (fun x104 => (if x104 = 0 then Q (some (.int x1)) σ103 else (zK σ103 r0 = 13) ∧ zM d 142 [.ref r0] σ103 (fun r σ107 => zqv r ((zK σ107 r0 = 13) ∧ zM d 164 [.ref r0] σ107 (fun r σ109 => zqi r (fun x110 => (if 0 ≤ x110 then (zK σ109 r0 = 13) ∧ zM d 160 [.ref r0, .int (nI 1), .int x1, .int x110, .int (nI 0)] σ109 (fun r σ113 => zqi r (fun x114 => zW (d + 1) 163 5 [(0, .ref r0), (1, .int x114)] [] σ113 Q)) else zW (d + 1) 163 5 [(0, .ref r0), (1, .int x110)] [] σ109 Q)))))))))) : zW (d + 1) 163 5 [(0, .ref r0), (1, .int x1)] [] σ Q := by
  refine zW_s rfl ?_
  refine zW_s rfl ?_
  refine zW_if (fun (c101 : x1 < 0) => ?_) (fun (c101 : ¬ (x1 < 0)) => ?_)
  · rw [if_pos c101] at h
    refine zW_s rfl ?_
    refine zW_r rfl trivial ?_
    exact h
  · rw [if_neg c101] at h
    refine zW_s rfl ?_
    refine zW_s rfl ?_
    have hp102 := h.1; replace h := h.2
    refine zW_c rfl hp102 (zM_m h ?_)
    intro r σ103 h
    replace h := zqi_e h
    obtain ⟨x104, rfl, h⟩ := h
    refine zW_s rfl ?_
    refine zW_if (fun (c105 : x104 = 0) => ?_) (fun (c105 : ¬ (x104 = 0)) => ?_)
    · rw [if_pos c105] at h
      refine zW_s rfl ?_
      refine zW_r rfl trivial ?_
      exact h
    · rw [if_neg c105] at h
      refine zW_s rfl ?_
      have hp106 := h.1; replace h := h.2
      refine zW_c rfl hp106 (zM_m h ?_)
      intro r σ107 h
      replace h := zqv_e h
      obtain ⟨rfl, h⟩ := h
      refine zW_s rfl ?_
      have hp108 := h.1; replace h := h.2
      refine zW_c rfl hp108 (zM_m h ?_)
      intro r σ109 h
      replace h := zqi_e h
      obtain ⟨x110, rfl, h⟩ := h
      refine zW_s rfl ?_
      refine zW_s rfl ?_
      refine zW_s rfl ?_
      refine zW_if (fun (c111 : 0 ≤ x110) => ?_) (fun (c111 : ¬ (0 ≤ x110)) => ?_)
      · rw [if_pos c111] at h
        refine zW_s rfl ?_
        refine zW_s rfl ?_
        refine zW_s rfl ?_
        refine zW_s rfl ?_
        refine zW_s rfl ?_
        have hp112 := h.1; replace h := h.2
        refine zW_c rfl hp112 (zM_m h ?_)
        intro r σ113 h
        replace h := zqi_e h
        obtain ⟨x114, rfl, h⟩ := h
        refine zW_s rfl ?_
        refine zW_s rfl ?_
        refine zW_k [0, 1] rfl ?_
        exact h
      · rw [if_neg c111] at h
        refine zW_s rfl ?_
        refine zW_s rfl ?_
        refine zW_s rfl ?_
        refine zW_s rfl ?_
        refine zW_k [0, 1] rfl ?_
        exact h
set_option maxHeartbeats 4000000 in
theorem b164 {d : Nat} {r0 : Nat} {σ : zH} {Q : Option Value → zH → Prop} (h : (zK σ r0 = 13) ∧ zM d 148 [.ref r0, .long (lN 7237492)] σ (fun r σ102 => zqi r (fun x103 => (if ¬ x103 = 0 then zW (d + 1) 164 19 [(0, .ref r0)] [] σ102 Q else (zK σ102 r0 = 13) ∧ zM d 146 [.ref r0, .int (nI 40)] σ102 (fun r σ106 => zqi r (fun x107 => (if x107 = 0 then (zK σ106 r0 = 13) ∧ zM d 148 [.ref r0, .long (lN 418430675813)] σ106 (fun r σ110 => zqi r (fun x111 => (if x111 = 0 then (zK σ110 r0 = 13) ∧ zM d 148 [.ref r0, .long (lN 1700881256)] σ110 (fun r σ114 => zqi r (fun x115 => (if x115 = 0 then (zK σ114 r0 = 13) ∧ zM d 148 [.ref r0, .long (lN 125797233421927)] σ114 (fun r σ118 => zqi r (fun x119 => (if x119 = 0 then (zK σ118 r0 = 13) ∧ zM d 166 [.ref r0] σ118 (fun r σ122 => zqi r (fun x123 => (if 0 ≤ x123 then (zK σ122 r0 = 13) ∧ (if ¬ (zI σ122 r0 13) = (nI 3) then zW (d + 1) 164 332 [(0, .ref r0), (1, .int x123)] [.int (nI 0)] σ122 Q else (if (zI σ122 r0 15) = (nI 61) then zW (d + 1) 164 332 [(0, .ref r0), (1, .int x123)] [.int (nI 1)] σ122 Q else (if (zI σ122 r0 15) = (nI 60) then zW (d + 1) 164 332 [(0, .ref r0), (1, .int x123)] [.int (nI 1)] σ122 Q else (if (zI σ122 r0 15) = (nI 62) then zW (d + 1) 164 332 [(0, .ref r0), (1, .int x123)] [.int (nI 1)] σ122 Q else (if ¬ (if (zI σ122 r0 15) ≤ (nI 256) then nI 0 else nI 1) = 0 then zM d 142 [.ref r0] σ122 (fun r σ132 => zqv r ((zK σ132 r0 = 13) ∧ zM d 166 [.ref r0] σ132 (fun r σ134 => zqi r (fun x135 => (if 0 ≤ x135 then (zK σ134 r0 = 13) ∧ zM d 160 [.ref r0, .int (nI 3), .int x123, .int x135, .int (zI σ122 r0 15)] σ134 (fun r σ138 => zqi r (fun x139 => Q (some (.int x139)) σ138)) else Q (some (.int x135)) σ134))))) else zM d 145 [.ref r0] σ122 (fun r σ140 => zqi r (fun x141 => (zK σ140 r0 = 13) ∧ zM d 161 [.ref r0, .int x141] σ140 (fun r σ143 => zqi r (fun x144 => Q (some (.int x144)) σ143))))))))) else Q (some (.int x123)) σ122))) else (zK σ118 r0 = 13) ∧ zM d 142 [.ref r0] σ118 (fun r σ146 => zqv r ((zK σ146 r0 = 13) ∧ zM d 150 [.ref r0] σ146 (fun r σ148 => zqi r (fun x149 => (if x149 = 0 then Q (some (.int (-1))) σ148 else (zK σ148 r0 = 13) ∧ zM d 160 [.ref r0, .int (nI 6), .int (zI σ148 r0 19), .int (-1), .int (nI 0)] σ148 (fun r σ152 => zqi r (fun x153 => Q (some (.int x153)) σ152)))))))))) else (zK σ114 r0 = 13) ∧ zM d 142 [.ref r0] σ114 (fun r σ155 => zqv r ((zK σ155 r0 = 13) ∧ zM d 151 [.ref r0, .int (nI 2), .int (nI 9)] σ155 (fun r σ157 => zqi r (fun x158 => (if ¬ x158 = 0 then (zK σ157 r0 = 13) ∧ zM d 165 [.ref r0] σ157 (fun r σ161 => zqi r (fun x162 => (if x162 < 0 then Q (some (.int (-1))) σ161 else (zK σ161 r0 = 13) ∧ zM d 150 [.ref r0] σ161 (fun r σ165 => zqi r (fun x166 => (if ¬ x166 = 0 then (zK σ165 r0 = 13) ∧ zM d 160 [.ref r0, .int (nI 5), .int (zI σ165 r0 19), .int (zI σ157 r0 20), .int x162] σ165 (fun r σ169 => zqi r (fun x170 => Q (some (.int x170)) σ169)) else Q (some (.int (-1))) σ165)))))) else Q (some (.int (-1))) σ157)))))))) else (zK σ110 r0 = 13) ∧ zM d 142 [.ref r0] σ110 (fun r σ172 => zqv r ((zK σ172 r0 = 13) ∧ zM d 165 [.ref r0] σ172 (fun r σ174 => zqi r (fun x175 => (if x175 < 0 then Q (some (.int (-1))) σ174 else (zK σ174 r0 = 13) ∧ zM d 150 [.ref r0] σ174 (fun r σ178 => zqi r (fun x179 => (if ¬ x179 = 0 then (zK σ178 r0 = 13) ∧ zM d 160 [.ref r0, .int (nI 4), .int (zI σ178 r0 19), .int (-1), .int x175] σ178 (fun r σ182 => zqi r (fun x183 => Q (some (.int x183)) σ182)) else Q (some (.int (-1))) σ178))))))))))) else zW (d + 1) 164 19 [(0, .ref r0)] [] σ106 Q))))))) : zM (d + 1) 164 [.ref r0] σ Q := by
  unfold zM
  refine zW_s rfl ?_
  refine zW_s rfl ?_
  have hp101 := h.1; replace h := h.2
  refine zW_c rfl hp101 (zM_m h ?_)
  intro r σ102 h
  replace h := zqi_e h
  obtain ⟨x103, rfl, h⟩ := h
  refine zW_s rfl ?_
  refine zW_if (fun (c104 : ¬ x103 = 0) => ?_) (fun (c104 : ¬ (¬ x103 = 0)) => ?_)
  · rw [if_pos c104] at h
    exact h
  · rw [if_neg c104] at h
    refine zW_s rfl ?_
    refine zW_s rfl ?_
    have hp105 := h.1; replace h := h.2
    refine zW_c rfl hp105 (zM_m h ?_)
    intro r σ106 h
    replace h := zqi_e h
    obtain ⟨x107, rfl, h⟩ := h
    refine zW_s rfl ?_
    refine zW_if (fun (c108 : x107 = 0) => ?_) (fun (c108 : ¬ (x107 = 0)) => ?_)
    · rw [if_pos c108] at h
      refine zW_s rfl ?_
      refine zW_s rfl ?_
      have hp109 := h.1; replace h := h.2
      refine zW_c rfl hp109 (zM_m h ?_)
      intro r σ110 h
      replace h := zqi_e h
      obtain ⟨x111, rfl, h⟩ := h
      refine zW_s rfl ?_
      refine zW_if (fun (c112 : x111 = 0) => ?_) (fun (c112 : ¬ (x111 = 0)) => ?_)
      · rw [if_pos c112] at h
        refine zW_s rfl ?_
        refine zW_s rfl ?_
        have hp113 := h.1; replace h := h.2
        refine zW_c rfl hp113 (zM_m h ?_)
        intro r σ114 h
        replace h := zqi_e h
        obtain ⟨x115, rfl, h⟩ := h
        refine zW_s rfl ?_
        refine zW_if (fun (c116 : x115 = 0) => ?_) (fun (c116 : ¬ (x115 = 0)) => ?_)
        · rw [if_pos c116] at h
          refine zW_s rfl ?_
          refine zW_s rfl ?_
          have hp117 := h.1; replace h := h.2
          refine zW_c rfl hp117 (zM_m h ?_)
          intro r σ118 h
          replace h := zqi_e h
          obtain ⟨x119, rfl, h⟩ := h
          refine zW_s rfl ?_
          refine zW_if (fun (c120 : x119 = 0) => ?_) (fun (c120 : ¬ (x119 = 0)) => ?_)
          · rw [if_pos c120] at h
            refine zW_s rfl ?_
            have hp121 := h.1; replace h := h.2
            refine zW_c rfl hp121 (zM_m h ?_)
            intro r σ122 h
            replace h := zqi_e h
            obtain ⟨x123, rfl, h⟩ := h
            refine zW_s rfl ?_
            refine zW_s rfl ?_
            refine zW_s rfl ?_
            refine zW_if (fun (c124 : 0 ≤ x123) => ?_) (fun (c124 : ¬ (0 ≤ x123)) => ?_)
            · rw [if_pos c124] at h
              refine zW_s rfl ?_
              have hp125 := h.1; replace h := h.2
              refine zW_p rfl hp125 ?_
              refine zW_s rfl ?_
              refine zW_s rfl ?_
              refine zW_if (fun (c126 : ¬ (zI σ122 r0 13) = (nI 3)) => ?_) (fun (c126 : ¬ (¬ (zI σ122 r0 13) = (nI 3))) => ?_)
              · rw [if_pos c126] at h
                refine zW_s rfl ?_
                exact h
              · rw [if_neg c126] at h
                refine zW_s rfl ?_
                refine zW_p rfl hp125 ?_
                refine zW_s rfl ?_
                refine zW_s rfl ?_
                refine zW_if (fun (c127 : (zI σ122 r0 15) = (nI 61)) => ?_) (fun (c127 : ¬ ((zI σ122 r0 15) = (nI 61))) => ?_)
                · rw [if_pos c127] at h
                  refine zW_s rfl ?_
                  refine zW_s rfl ?_
                  exact h
                · rw [if_neg c127] at h
                  refine zW_s rfl ?_
                  refine zW_p rfl hp125 ?_
                  refine zW_s rfl ?_
                  refine zW_s rfl ?_
                  refine zW_if (fun (c128 : (zI σ122 r0 15) = (nI 60)) => ?_) (fun (c128 : ¬ ((zI σ122 r0 15) = (nI 60))) => ?_)
                  · rw [if_pos c128] at h
                    refine zW_s rfl ?_
                    refine zW_s rfl ?_
                    exact h
                  · rw [if_neg c128] at h
                    refine zW_s rfl ?_
                    refine zW_p rfl hp125 ?_
                    refine zW_s rfl ?_
                    refine zW_s rfl ?_
                    refine zW_if (fun (c129 : (zI σ122 r0 15) = (nI 62)) => ?_) (fun (c129 : ¬ ((zI σ122 r0 15) = (nI 62))) => ?_)
                    · rw [if_pos c129] at h
                      refine zW_s rfl ?_
                      refine zW_s rfl ?_
                      exact h
                    · rw [if_neg c129] at h
                      refine zW_s rfl ?_
                      refine zW_p rfl hp125 ?_
                      refine zW_s rfl ?_
                      refine zW_s rfl ?_
                      have k : ∀ v : Int32, v = (if (zI σ122 r0 15) ≤ (nI 256) then nI 0 else nI 1) → zW (d + 1) 164 332 [(0, .ref r0), (1, .int x123)] [.int v] σ122 Q := by
                        intro v hv
                        subst hv
                        refine zW_s rfl ?_
                        refine zW_s rfl ?_
                        refine zW_s rfl ?_
                        refine zW_if (fun (c131 : ¬ (if (zI σ122 r0 15) ≤ (nI 256) then nI 0 else nI 1) = 0) => ?_) (fun (c131 : ¬ (¬ (if (zI σ122 r0 15) ≤ (nI 256) then nI 0 else nI 1) = 0)) => ?_)
                        · rw [if_pos c131] at h
                          refine zW_s rfl ?_
                          refine zW_p rfl hp125 ?_
                          refine zW_s rfl ?_
                          refine zW_s rfl ?_
                          refine zW_c rfl hp125 (zM_m h ?_)
                          intro r σ132 h
                          replace h := zqv_e h
                          obtain ⟨rfl, h⟩ := h
                          refine zW_s rfl ?_
                          have hp133 := h.1; replace h := h.2
                          refine zW_c rfl hp133 (zM_m h ?_)
                          intro r σ134 h
                          replace h := zqi_e h
                          obtain ⟨x135, rfl, h⟩ := h
                          refine zW_s rfl ?_
                          refine zW_s rfl ?_
                          refine zW_s rfl ?_
                          refine zW_if (fun (c136 : 0 ≤ x135) => ?_) (fun (c136 : ¬ (0 ≤ x135)) => ?_)
                          · rw [if_pos c136] at h
                            refine zW_s rfl ?_
                            refine zW_s rfl ?_
                            refine zW_s rfl ?_
                            refine zW_s rfl ?_
                            refine zW_s rfl ?_
                            have hp137 := h.1; replace h := h.2
                            refine zW_c rfl hp137 (zM_m h ?_)
                            intro r σ138 h
                            replace h := zqi_e h
                            obtain ⟨x139, rfl, h⟩ := h
                            refine zW_r rfl trivial ?_
                            exact h
                          · rw [if_neg c136] at h
                            refine zW_s rfl ?_
                            refine zW_s rfl ?_
                            refine zW_r rfl trivial ?_
                            exact h
                        · rw [if_neg c131] at h
                          refine zW_s rfl ?_
                          refine zW_s rfl ?_
                          refine zW_c rfl hp125 (zM_m h ?_)
                          intro r σ140 h
                          replace h := zqi_e h
                          obtain ⟨x141, rfl, h⟩ := h
                          have hp142 := h.1; replace h := h.2
                          refine zW_c rfl hp142 (zM_m h ?_)
                          intro r σ143 h
                          replace h := zqi_e h
                          obtain ⟨x144, rfl, h⟩ := h
                          refine zW_r rfl trivial ?_
                          exact h
                      refine zW_if (fun (c130 : (zI σ122 r0 15) ≤ (nI 256)) => ?_) (fun (c130 : ¬ ((zI σ122 r0 15) ≤ (nI 256))) => ?_)
                      · replace k := k _ (if_pos c130).symm
                        refine zW_s rfl ?_
                        exact k
                      · replace k := k _ (if_neg c130).symm
                        refine zW_s rfl ?_
                        refine zW_s rfl ?_
                        exact k
            · rw [if_neg c124] at h
              refine zW_s rfl ?_
              refine zW_r rfl trivial ?_
              exact h
          · rw [if_neg c120] at h
            refine zW_s rfl ?_
            have hp145 := h.1; replace h := h.2
            refine zW_c rfl hp145 (zM_m h ?_)
            intro r σ146 h
            replace h := zqv_e h
            obtain ⟨rfl, h⟩ := h
            refine zW_s rfl ?_
            have hp147 := h.1; replace h := h.2
            refine zW_c rfl hp147 (zM_m h ?_)
            intro r σ148 h
            replace h := zqi_e h
            obtain ⟨x149, rfl, h⟩ := h
            refine zW_s rfl ?_
            refine zW_if (fun (c150 : x149 = 0) => ?_) (fun (c150 : ¬ (x149 = 0)) => ?_)
            · rw [if_pos c150] at h
              refine zW_s rfl ?_
              refine zW_r rfl trivial ?_
              exact h
            · rw [if_neg c150] at h
              refine zW_s rfl ?_
              refine zW_s rfl ?_
              refine zW_s rfl ?_
              have hp151 := h.1; replace h := h.2
              refine zW_p rfl hp151 ?_
              refine zW_s rfl ?_
              refine zW_s rfl ?_
              refine zW_c rfl hp151 (zM_m h ?_)
              intro r σ152 h
              replace h := zqi_e h
              obtain ⟨x153, rfl, h⟩ := h
              refine zW_s rfl ?_
              refine zW_r rfl trivial ?_
              exact h
        · rw [if_neg c116] at h
          refine zW_s rfl ?_
          have hp154 := h.1; replace h := h.2
          refine zW_c rfl hp154 (zM_m h ?_)
          intro r σ155 h
          replace h := zqv_e h
          obtain ⟨rfl, h⟩ := h
          refine zW_s rfl ?_
          refine zW_s rfl ?_
          refine zW_s rfl ?_
          have hp156 := h.1; replace h := h.2
          refine zW_c rfl hp156 (zM_m h ?_)
          intro r σ157 h
          replace h := zqi_e h
          obtain ⟨x158, rfl, h⟩ := h
          refine zW_s rfl ?_
          refine zW_if (fun (c159 : ¬ x158 = 0) => ?_) (fun (c159 : ¬ (¬ x158 = 0)) => ?_)
          · rw [if_pos c159] at h
            refine zW_s rfl ?_
            have hp160 := h.1; replace h := h.2
            refine zW_p rfl hp160 ?_
            refine zW_s rfl ?_
            refine zW_s rfl ?_
            refine zW_c rfl hp160 (zM_m h ?_)
            intro r σ161 h
            replace h := zqi_e h
            obtain ⟨x162, rfl, h⟩ := h
            refine zW_s rfl ?_
            refine zW_s rfl ?_
            refine zW_s rfl ?_
            refine zW_if (fun (c163 : x162 < 0) => ?_) (fun (c163 : ¬ (x162 < 0)) => ?_)
            · rw [if_pos c163] at h
              refine zW_s rfl ?_
              refine zW_s rfl ?_
              refine zW_r rfl trivial ?_
              exact h
            · rw [if_neg c163] at h
              refine zW_s rfl ?_
              have hp164 := h.1; replace h := h.2
              refine zW_c rfl hp164 (zM_m h ?_)
              intro r σ165 h
              replace h := zqi_e h
              obtain ⟨x166, rfl, h⟩ := h
              refine zW_s rfl ?_
              refine zW_if (fun (c167 : ¬ x166 = 0) => ?_) (fun (c167 : ¬ (¬ x166 = 0)) => ?_)
              · rw [if_pos c167] at h
                refine zW_s rfl ?_
                refine zW_s rfl ?_
                refine zW_s rfl ?_
                have hp168 := h.1; replace h := h.2
                refine zW_p rfl hp168 ?_
                refine zW_s rfl ?_
                refine zW_s rfl ?_
                refine zW_c rfl hp168 (zM_m h ?_)
                intro r σ169 h
                replace h := zqi_e h
                obtain ⟨x170, rfl, h⟩ := h
                refine zW_r rfl trivial ?_
                exact h
              · rw [if_neg c167] at h
                refine zW_s rfl ?_
                refine zW_s rfl ?_
                refine zW_r rfl trivial ?_
                exact h
          · rw [if_neg c159] at h
            refine zW_s rfl ?_
            refine zW_r rfl trivial ?_
            exact h
      · rw [if_neg c112] at h
        refine zW_s rfl ?_
        have hp171 := h.1; replace h := h.2
        refine zW_c rfl hp171 (zM_m h ?_)
        intro r σ172 h
        replace h := zqv_e h
        obtain ⟨rfl, h⟩ := h
        refine zW_s rfl ?_
        have hp173 := h.1; replace h := h.2
        refine zW_c rfl hp173 (zM_m h ?_)
        intro r σ174 h
        replace h := zqi_e h
        obtain ⟨x175, rfl, h⟩ := h
        refine zW_s rfl ?_
        refine zW_s rfl ?_
        refine zW_s rfl ?_
        refine zW_if (fun (c176 : x175 < 0) => ?_) (fun (c176 : ¬ (x175 < 0)) => ?_)
        · rw [if_pos c176] at h
          refine zW_s rfl ?_
          refine zW_s rfl ?_
          refine zW_r rfl trivial ?_
          exact h
        · rw [if_neg c176] at h
          refine zW_s rfl ?_
          have hp177 := h.1; replace h := h.2
          refine zW_c rfl hp177 (zM_m h ?_)
          intro r σ178 h
          replace h := zqi_e h
          obtain ⟨x179, rfl, h⟩ := h
          refine zW_s rfl ?_
          refine zW_if (fun (c180 : ¬ x179 = 0) => ?_) (fun (c180 : ¬ (¬ x179 = 0)) => ?_)
          · rw [if_pos c180] at h
            refine zW_s rfl ?_
            refine zW_s rfl ?_
            refine zW_s rfl ?_
            have hp181 := h.1; replace h := h.2
            refine zW_p rfl hp181 ?_
            refine zW_s rfl ?_
            refine zW_s rfl ?_
            refine zW_c rfl hp181 (zM_m h ?_)
            intro r σ182 h
            replace h := zqi_e h
            obtain ⟨x183, rfl, h⟩ := h
            refine zW_r rfl trivial ?_
            exact h
          · rw [if_neg c180] at h
            refine zW_s rfl ?_
            refine zW_s rfl ?_
            refine zW_r rfl trivial ?_
            exact h
    · rw [if_neg c108] at h
      exact h
set_option maxHeartbeats 4000000 in
theorem b164_19 {d : Nat} {r0 : Nat} {σ : zH} {Q : Option Value → zH → Prop} (h : (zK σ r0 = 13) ∧ zM d 148 [.ref r0, .long (lN 7237492)] σ (fun r σ102 => zqi r (fun x103 => (zK σ102 r0 = 13) ∧ (if ¬ (zI σ102 r0 39) = (nI 8) then zM d 142 [.ref r0] (zsI σ102 r0 39 ((zI σ102 r0 39) + (nI 1))) (fun r σ106 => zqv r ((if x103 = 0 then (zK σ106 r0 = 13) ∧ zM d 162 [.ref r0] σ106 (fun r σ109 => zqi r (fun x110 => zW (d + 1) 164 79 [(0, .ref r0), (1, .int x103)] [.int x110] σ109 Q)) else (zK σ106 r0 = 13) ∧ zM d 164 [.ref r0] σ106 (fun r σ112 => zqi r (fun x113 => zW (d + 1) 164 79 [(0, .ref r0), (1, .int x103)] [.int x113] σ112 Q))))) else zM d 144 [.ref r0, .int (nI 4), .int (zI σ102 r0 14)] σ102 (fun r σ114 => zqi r (fun x115 => (zK σ114 r0 = 13) ∧ zM d 161 [.ref r0, .int x115] σ114 (fun r σ117 => zqi r (fun x118 => Q (some (.int x118)) σ117)))))))) : zW (d + 1) 164 19 [(0, .ref r0)] [] σ Q := by
  refine zW_s rfl ?_
  refine zW_s rfl ?_
  have hp101 := h.1; replace h := h.2
  refine zW_c rfl hp101 (zM_m h ?_)
  intro r σ102 h
  replace h := zqi_e h
  obtain ⟨x103, rfl, h⟩ := h
  refine zW_s rfl ?_
  refine zW_s rfl ?_
  have hp104 := h.1; replace h := h.2
  refine zW_p rfl hp104 ?_
  refine zW_s rfl ?_
  refine zW_s rfl ?_
  refine zW_if (fun (c105 : ¬ (zI σ102 r0 39) = (nI 8)) => ?_) (fun (c105 : ¬ (¬ (zI σ102 r0 39) = (nI 8))) => ?_)
  · rw [if_pos c105] at h
    refine zW_s rfl ?_
    refine zW_s rfl ?_
    refine zW_p rfl hp104 ?_
    refine zW_s rfl ?_
    refine zW_s rfl ?_
    refine zW_p rfl hp104 ?_
    refine zW_s rfl ?_
    refine zW_c rfl hp104 (zM_m h ?_)
    intro r σ106 h
    replace h := zqv_e h
    obtain ⟨rfl, h⟩ := h
    refine zW_s rfl ?_
    refine zW_s rfl ?_
    refine zW_if (fun (c107 : x103 = 0) => ?_) (fun (c107 : ¬ (x103 = 0)) => ?_)
    · rw [if_pos c107] at h
      refine zW_s rfl ?_
      have hp108 := h.1; replace h := h.2
      refine zW_c rfl hp108 (zM_m h ?_)
      intro r σ109 h
      replace h := zqi_e h
      obtain ⟨x110, rfl, h⟩ := h
      exact h
    · rw [if_neg c107] at h
      refine zW_s rfl ?_
      have hp111 := h.1; replace h := h.2
      refine zW_c rfl hp111 (zM_m h ?_)
      intro r σ112 h
      replace h := zqi_e h
      obtain ⟨x113, rfl, h⟩ := h
      refine zW_s rfl ?_
      exact h
  · rw [if_neg c105] at h
    refine zW_s rfl ?_
    refine zW_s rfl ?_
    refine zW_s rfl ?_
    refine zW_s rfl ?_
    refine zW_p rfl hp104 ?_
    refine zW_c rfl hp104 (zM_m h ?_)
    intro r σ114 h
    replace h := zqi_e h
    obtain ⟨x115, rfl, h⟩ := h
    have hp116 := h.1; replace h := h.2
    refine zW_c rfl hp116 (zM_m h ?_)
    intro r σ117 h
    replace h := zqi_e h
    obtain ⟨x118, rfl, h⟩ := h
    refine zW_r rfl trivial ?_
    exact h
set_option maxHeartbeats 4000000 in
theorem b164_332 {d : Nat} {r0 : Nat} {x1 : Int32} {v0 : Int32} {σ : zH} {Q : Option Value → zH → Prop} (h : (if ¬ v0 = 0 then (zK σ r0 = 13) ∧ zM d 142 [.ref r0] σ (fun r σ103 => zqv r ((zK σ103 r0 = 13) ∧ zM d 166 [.ref r0] σ103 (fun r σ105 => zqi r (fun x106 => (if 0 ≤ x106 then (zK σ105 r0 = 13) ∧ zM d 160 [.ref r0, .int (nI 3), .int x1, .int x106, .int (zI σ r0 15)] σ105 (fun r σ109 => zqi r (fun x110 => Q (some (.int x110)) σ109)) else Q (some (.int x106)) σ105))))) else (zK σ r0 = 13) ∧ zM d 145 [.ref r0] σ (fun r σ112 => zqi r (fun x113 => (zK σ112 r0 = 13) ∧ zM d 161 [.ref r0, .int x113] σ112 (fun r σ115 => zqi r (fun x116 => Q (some (.int x116)) σ115)))))) : zW (d + 1) 164 332 [(0, .ref r0), (1, .int x1)] [.int v0] σ Q := by
  refine zW_s rfl ?_
  refine zW_s rfl ?_
  refine zW_s rfl ?_
  refine zW_if (fun (c101 : ¬ v0 = 0) => ?_) (fun (c101 : ¬ (¬ v0 = 0)) => ?_)
  · rw [if_pos c101] at h
    refine zW_s rfl ?_
    have hp102 := h.1; replace h := h.2
    refine zW_p rfl hp102 ?_
    refine zW_s rfl ?_
    refine zW_s rfl ?_
    refine zW_c rfl hp102 (zM_m h ?_)
    intro r σ103 h
    replace h := zqv_e h
    obtain ⟨rfl, h⟩ := h
    refine zW_s rfl ?_
    have hp104 := h.1; replace h := h.2
    refine zW_c rfl hp104 (zM_m h ?_)
    intro r σ105 h
    replace h := zqi_e h
    obtain ⟨x106, rfl, h⟩ := h
    refine zW_s rfl ?_
    refine zW_s rfl ?_
    refine zW_s rfl ?_
    refine zW_if (fun (c107 : 0 ≤ x106) => ?_) (fun (c107 : ¬ (0 ≤ x106)) => ?_)
    · rw [if_pos c107] at h
      refine zW_s rfl ?_
      refine zW_s rfl ?_
      refine zW_s rfl ?_
      refine zW_s rfl ?_
      refine zW_s rfl ?_
      have hp108 := h.1; replace h := h.2
      refine zW_c rfl hp108 (zM_m h ?_)
      intro r σ109 h
      replace h := zqi_e h
      obtain ⟨x110, rfl, h⟩ := h
      refine zW_r rfl trivial ?_
      exact h
    · rw [if_neg c107] at h
      refine zW_s rfl ?_
      refine zW_s rfl ?_
      refine zW_r rfl trivial ?_
      exact h
  · rw [if_neg c101] at h
    refine zW_s rfl ?_
    refine zW_s rfl ?_
    have hp111 := h.1; replace h := h.2
    refine zW_c rfl hp111 (zM_m h ?_)
    intro r σ112 h
    replace h := zqi_e h
    obtain ⟨x113, rfl, h⟩ := h
    have hp114 := h.1; replace h := h.2
    refine zW_c rfl hp114 (zM_m h ?_)
    intro r σ115 h
    replace h := zqi_e h
    obtain ⟨x116, rfl, h⟩ := h
    refine zW_r rfl trivial ?_
    exact h
set_option maxHeartbeats 4000000 in
theorem b164_79 {d : Nat} {r0 : Nat} {x1 : Int32} {v0 : Int32} {σ : zH} {Q : Option Value → zH → Prop} (h : (if 0 ≤ v0 then (zK σ r0 = 13) ∧ (if x1 = 0 then zM d 147 [.ref r0, .int (nI 41)] (zsI σ r0 39 ((zI σ r0 39) - (nI 1))) (fun r σ104 => zqi r (fun x105 => Q (some (.int (if x105 = 0 then (-1) else v0))) σ104)) else zM d 160 [.ref r0, .int (nI 2), .int v0, .int (-1), .int (nI 0)] (zsI σ r0 39 ((zI σ r0 39) - (nI 1))) (fun r σ107 => zqi r (fun x108 => Q (some (.int x108)) σ107))) else Q (some (.int v0)) σ)) : zW (d + 1) 164 79 [(0, .ref r0), (1, .int x1)] [.int v0] σ Q := by
  refine zW_s rfl ?_
  refine zW_s rfl ?_
  refine zW_s rfl ?_
  refine zW_if (fun (c101 : 0 ≤ v0) => ?_) (fun (c101 : ¬ (0 ≤ v0)) => ?_)
  · rw [if_pos c101] at h
    refine zW_s rfl ?_
    refine zW_s rfl ?_
    have hp102 := h.1; replace h := h.2
    refine zW_p rfl hp102 ?_
    refine zW_s rfl ?_
    refine zW_s rfl ?_
    refine zW_p rfl hp102 ?_
    refine zW_s rfl ?_
    refine zW_s rfl ?_
    refine zW_if (fun (c103 : x1 = 0) => ?_) (fun (c103 : ¬ (x1 = 0)) => ?_)
    · rw [if_pos c103] at h
      refine zW_s rfl ?_
      refine zW_s rfl ?_
      refine zW_c rfl hp102 (zM_m h ?_)
      intro r σ104 h
      replace h := zqi_e h
      obtain ⟨x105, rfl, h⟩ := h
      refine zW_s rfl ?_
      have k : ∀ v : Int32, v = (if x105 = 0 then (-1) else v0) → zW (d + 1) 164 123 [(0, .ref r0), (1, .int x1), (2, .int v0)] [.int v] σ104 Q := by
        intro v hv
        subst hv
        refine zW_r rfl trivial ?_
        exact h
      refine zW_if (fun (c106 : x105 = 0) => ?_) (fun (c106 : ¬ (x105 = 0)) => ?_)
      · replace k := k _ (if_pos c106).symm
        refine zW_s rfl ?_
        exact k
      · replace k := k _ (if_neg c106).symm
        refine zW_s rfl ?_
        refine zW_s rfl ?_
        exact k
    · rw [if_neg c103] at h
      refine zW_s rfl ?_
      refine zW_s rfl ?_
      refine zW_s rfl ?_
      refine zW_s rfl ?_
      refine zW_s rfl ?_
      refine zW_c rfl hp102 (zM_m h ?_)
      intro r σ107 h
      replace h := zqi_e h
      obtain ⟨x108, rfl, h⟩ := h
      refine zW_r rfl trivial ?_
      exact h
  · rw [if_neg c101] at h
    refine zW_s rfl ?_
    refine zW_r rfl trivial ?_
    exact h
