set_option maxHeartbeats 4000000 in
theorem b37 {d : Nat} {r0 : Nat} {σ : zH} {Q : Option Value → zH → Prop} (h : (zK σ r0 = 3) ∧ (if (zI σ r0 2) < (nI 31) then zM d 19 [.ref r0, .int (nI 2)] σ (fun r σ103 => zqv r (Q (some (.int (nI 31))) σ103)) else (if (zI σ r0 2) ≤ (nI 33) then zM d 18 [.ref r0] σ (fun r σ105 => zqv r (Q (some (.int (zI σ r0 2))) σ105)) else zM d 19 [.ref r0, .int (nI 2)] σ (fun r σ106 => zqv r (Q (some (.int (nI 31))) σ106))))) : zM (d + 1) 37 [.ref r0] σ Q := by
  unfold zM
  refine zW_s rfl ?_
  have hp101 := h.1; replace h := h.2
  refine zW_p rfl hp101 ?_
  refine zW_s rfl ?_
  refine zW_s rfl ?_
  refine zW_s rfl ?_
  refine zW_s rfl ?_
  refine zW_if (fun (c102 : (zI σ r0 2) < (nI 31)) => ?_) (fun (c102 : ¬ ((zI σ r0 2) < (nI 31))) => ?_)
  · rw [if_pos c102] at h
    refine zW_s rfl ?_
    refine zW_s rfl ?_
    refine zW_c rfl hp101 (zM_m h ?_)
    intro r σ103 h
    replace h := zqv_e h
    obtain ⟨rfl, h⟩ := h
    refine zW_s rfl ?_
    refine zW_r rfl trivial ?_
    exact h
  · rw [if_neg c102] at h
    refine zW_s rfl ?_
    refine zW_s rfl ?_
    refine zW_s rfl ?_
    refine zW_if (fun (c104 : (zI σ r0 2) ≤ (nI 33)) => ?_) (fun (c104 : ¬ ((zI σ r0 2) ≤ (nI 33))) => ?_)
    · rw [if_pos c104] at h
      refine zW_s rfl ?_
      refine zW_c rfl hp101 (zM_m h ?_)
      intro r σ105 h
      replace h := zqv_e h
      obtain ⟨rfl, h⟩ := h
      refine zW_s rfl ?_
      refine zW_r rfl trivial ?_
      exact h
    · rw [if_neg c104] at h
      refine zW_s rfl ?_
      refine zW_s rfl ?_
      refine zW_c rfl hp101 (zM_m h ?_)
      intro r σ106 h
      replace h := zqv_e h
      obtain ⟨rfl, h⟩ := h
      refine zW_s rfl ?_
      refine zW_r rfl trivial ?_
      exact h
set_option maxHeartbeats 4000000 in
theorem b38 {d : Nat} {r0 : Nat} {r1 : Nat} {σ : zH} {Q : Option Value → zH → Prop} (h : (zK σ r0 = 3) ∧ zM d 39 [.ref r0] σ (fun r σ102 => zqi r (fun x103 => (zK σ102 r0 = 3) ∧ (if (zI σ102 r0 2) < (nI 42) then zM d 19 [.ref r0, .int (nI 2)] σ102 (fun r σ106 => zqv r (Q none σ106)) else (if (zI σ102 r0 2) ≤ (nI 47) then zM d 18 [.ref r0] σ102 (fun r σ108 => zqv r ((zK σ108 r0 = 3) ∧ zM d 39 [.ref r0] σ108 (fun r σ110 => zqi r (fun x111 => (zK σ110 r1 = 1) ∧ zM d 1 [.ref r1, .int (zI σ102 r0 2), .int x103, .int x111] σ110 (fun r σ113 => zqv r (Q none σ113)))))) else zM d 19 [.ref r0, .int (nI 2)] σ102 (fun r σ114 => zqv r (Q none σ114))))))) : zM (d + 1) 38 [.ref r0, .ref r1] σ Q := by
  unfold zM
  refine zW_s rfl ?_
  have hp101 := h.1; replace h := h.2
  refine zW_c rfl hp101 (zM_m h ?_)
  intro r σ102 h
  replace h := zqi_e h
  obtain ⟨x103, rfl, h⟩ := h
  refine zW_s rfl ?_
  refine zW_s rfl ?_
  have hp104 := h.1; replace h := h.2
  refine zW_p rfl hp104 ?_
  refine zW_s rfl ?_
  refine zW_s rfl ?_
  refine zW_s rfl ?_
  refine zW_s rfl ?_
  refine zW_if (fun (c105 : (zI σ102 r0 2) < (nI 42)) => ?_) (fun (c105 : ¬ ((zI σ102 r0 2) < (nI 42))) => ?_)
  · rw [if_pos c105] at h
    refine zW_s rfl ?_
    refine zW_s rfl ?_
    refine zW_c rfl hp104 (zM_m h ?_)
    intro r σ106 h
    replace h := zqv_e h
    obtain ⟨rfl, h⟩ := h
    refine zW_r rfl trivial ?_
    exact h
  · rw [if_neg c105] at h
    refine zW_s rfl ?_
    refine zW_s rfl ?_
    refine zW_s rfl ?_
    refine zW_if (fun (c107 : (zI σ102 r0 2) ≤ (nI 47)) => ?_) (fun (c107 : ¬ ((zI σ102 r0 2) ≤ (nI 47))) => ?_)
    · rw [if_pos c107] at h
      refine zW_s rfl ?_
      refine zW_c rfl hp104 (zM_m h ?_)
      intro r σ108 h
      replace h := zqv_e h
      obtain ⟨rfl, h⟩ := h
      refine zW_s rfl ?_
      have hp109 := h.1; replace h := h.2
      refine zW_c rfl hp109 (zM_m h ?_)
      intro r σ110 h
      replace h := zqi_e h
      obtain ⟨x111, rfl, h⟩ := h
      refine zW_s rfl ?_
      refine zW_s rfl ?_
      refine zW_s rfl ?_
      refine zW_s rfl ?_
      refine zW_s rfl ?_
      have hp112 := h.1; replace h := h.2
      refine zW_c rfl hp112 (zM_m h ?_)
      intro r σ113 h
      replace h := zqv_e h
      obtain ⟨rfl, h⟩ := h
      refine zW_r rfl trivial ?_
      exact h
    · rw [if_neg c107] at h
      refine zW_s rfl ?_
      refine zW_s rfl ?_
      refine zW_c rfl hp104 (zM_m h ?_)
      intro r σ114 h
      replace h := zqv_e h
      obtain ⟨rfl, h⟩ := h
      refine zW_r rfl trivial ?_
      exact h
set_option maxHeartbeats 4000000 in
theorem b39 {d : Nat} {r0 : Nat} {σ : zH} {Q : Option Value → zH → Prop} (h : (zK σ r0 = 3) ∧ (if ¬ (zI σ r0 2) = (nI 36) then (if (zI σ r0 2) < (nI 27) then zM d 19 [.ref r0, .int (nI 2)] σ (fun r σ104 => zqv r (Q (some (.int (nI 0))) σ104)) else (if (zI σ r0 2) ≤ (nI 34) then zM d 18 [.ref r0] σ (fun r σ106 => zqv r ((zK σ106 r0 = 3) ∧ zM d 26 [.ref r0, .int (-1)] σ106 (fun r σ108 => zqi r (fun x109 => (if (zI σ r0 2) < (nI 30) then zM d 3 [.int (zI σ r0 2), .int x109, .int (nI 0)] σ108 (fun r σ111 => zqi r (fun x112 => Q (some (.int x112)) σ111)) else (zK σ108 r0 = 3) ∧ zM d 31 [.ref r0, .int (nI 1), .int (nI 9)] σ108 (fun r σ114 => zqi r (fun x115 => zM d 3 [.int (zI σ r0 2), .int x109, .int x115] σ114 (fun r σ116 => zqi r (fun x117 => Q (some (.int x117)) σ116))))))))) else zM d 19 [.ref r0, .int (nI 2)] σ (fun r σ118 => zqv r (Q (some (.int (nI 0))) σ118)))) else zM d 31 [.ref r0, .int (nI 0), .int (nI 99)] σ (fun r σ119 => zqi r (fun x120 => zM d 2 [.int x120] σ119 (fun r σ121 => zqi r (fun x122 => Q (some (.int x122)) σ121)))))) : zM (d + 1) 39 [.ref r0] σ Q := by
  unfold zM
  refine zW_s rfl ?_
  have hp101 := h.1; replace h := h.2
  refine zW_p rfl hp101 ?_
  refine zW_s rfl ?_
  refine zW_s rfl ?_
  refine zW_s rfl ?_
  refine zW_s rfl ?_
  refine zW_if (fun (c102 : ¬ (zI σ r0 2) = (nI 36)) => ?_) (fun (c102 : ¬ (¬ (zI σ r0 2) = (nI 36))) => ?_)
  · rw [if_pos c102] at h
    refine zW_s rfl ?_
    refine zW_s rfl ?_
    refine zW_s rfl ?_
    refine zW_if (fun (c103 : (zI σ r0 2) < (nI 27)) => ?_) (fun (c103 : ¬ ((zI σ r0 2) < (nI 27))) => ?_)
    · rw [if_pos c103] at h
      refine zW_s rfl ?_
      refine zW_s rfl ?_
      refine zW_c rfl hp101 (zM_m h ?_)
      intro r σ104 h
      replace h := zqv_e h
      obtain ⟨rfl, h⟩ := h
      refine zW_s rfl ?_
      refine zW_r rfl trivial ?_
      exact h
    · rw [if_neg c103] at h
      refine zW_s rfl ?_
      refine zW_s rfl ?_
      refine zW_s rfl ?_
      refine zW_if (fun (c105 : (zI σ r0 2) ≤ (nI 34)) => ?_) (fun (c105 : ¬ ((zI σ r0 2) ≤ (nI 34))) => ?_)
      · rw [if_pos c105] at h
        refine zW_s rfl ?_
        refine zW_c rfl hp101 (zM_m h ?_)
        intro r σ106 h
        replace h := zqv_e h
        obtain ⟨rfl, h⟩ := h
        refine zW_s rfl ?_
        refine zW_s rfl ?_
        have hp107 := h.1; replace h := h.2
        refine zW_c rfl hp107 (zM_m h ?_)
        intro r σ108 h
        replace h := zqi_e h
        obtain ⟨x109, rfl, h⟩ := h
        refine zW_s rfl ?_
        refine zW_s rfl ?_
        refine zW_s rfl ?_
        refine zW_s rfl ?_
        refine zW_if (fun (c110 : (zI σ r0 2) < (nI 30)) => ?_) (fun (c110 : ¬ ((zI σ r0 2) < (nI 30))) => ?_)
        · rw [if_pos c110] at h
          refine zW_s rfl ?_
          refine zW_s rfl ?_
          refine zW_s rfl ?_
          refine zW_s rfl ?_
          refine zW_s rfl ?_
          refine zW_c rfl trivial (zM_m h ?_)
          intro r σ111 h
          replace h := zqi_e h
          obtain ⟨x112, rfl, h⟩ := h
          refine zW_r rfl trivial ?_
          exact h
        · rw [if_neg c110] at h
          refine zW_s rfl ?_
          refine zW_s rfl ?_
          refine zW_s rfl ?_
          have hp113 := h.1; replace h := h.2
          refine zW_c rfl hp113 (zM_m h ?_)
          intro r σ114 h
          replace h := zqi_e h
          obtain ⟨x115, rfl, h⟩ := h
          refine zW_s rfl ?_
          refine zW_s rfl ?_
          refine zW_s rfl ?_
          refine zW_s rfl ?_
          refine zW_s rfl ?_
          refine zW_c rfl trivial (zM_m h ?_)
          intro r σ116 h
          replace h := zqi_e h
          obtain ⟨x117, rfl, h⟩ := h
          refine zW_r rfl trivial ?_
          exact h
      · rw [if_neg c105] at h
        refine zW_s rfl ?_
        refine zW_s rfl ?_
        refine zW_c rfl hp101 (zM_m h ?_)
        intro r σ118 h
        replace h := zqv_e h
        obtain ⟨rfl, h⟩ := h
        refine zW_s rfl ?_
        refine zW_r rfl trivial ?_
        exact h
  · rw [if_neg c102] at h
    refine zW_s rfl ?_
    refine zW_s rfl ?_
    refine zW_s rfl ?_
    refine zW_c rfl hp101 (zM_m h ?_)
    intro r σ119 h
    replace h := zqi_e h
    obtain ⟨x120, rfl, h⟩ := h
    refine zW_c rfl trivial (zM_m h ?_)
    intro r σ121 h
    replace h := zqi_e h
    obtain ⟨x122, rfl, h⟩ := h
    refine zW_r rfl trivial ?_
    exact h
set_option maxHeartbeats 4000000 in
theorem b41 {d : Nat} {r0 : Nat} {σ : zH} {Q : Option Value → zH → Prop} (h : (zK σ r0 = 4) ∧ Q none (zsI (zsI (zsI (zsI σ r0 3 (nI 0)) r0 4 (nI 0)) r0 5 (nI 0)) r0 6 (nI 0))) : zM (d) 41 [.ref r0] σ Q := by
  unfold zM
  refine zW_s rfl ?_
  refine zW_s rfl ?_
  have hp101 := h.1; replace h := h.2
  refine zW_p rfl ⟨hp101, by decide⟩ ?_
  refine zW_s rfl ?_
  refine zW_s rfl ?_
  refine zW_p rfl ⟨hp101, by decide⟩ ?_
  refine zW_s rfl ?_
  refine zW_s rfl ?_
  refine zW_p rfl hp101 ?_
  refine zW_s rfl ?_
  refine zW_s rfl ?_
  refine zW_p rfl hp101 ?_
  refine zW_r rfl trivial ?_
  exact h
set_option maxHeartbeats 4000000 in
theorem b42 {d : Nat} {r0 : Nat} {r1 : Nat} {σ : zH} {Q : Option Value → zH → Prop} (h : (zK σ r0 = 4) ∧ zM d 41 [.ref r0] σ (fun r σ102 => zqv r ((zK σ102 r0 = 4) ∧ (zK σ102 (zQ σ102 r0 0) = 2) ∧ (zK σ102 (zQ σ102 r0 2) = 7) ∧ zM d 57 [.ref (zQ σ102 r0 2), .ref (zQ σ102 (zQ σ102 r0 0) 3)] (zsI σ102 r0 3 (nI 1)) (fun r σ106 => zqv r ((zK σ106 r1 = 10) ∧ (zK σ106 r0 = 4) ∧ zM d 43 [.ref r0, .ref r1, .int (nI 0), .int (zI σ106 r1 2), .int (nI 0)] σ106 (fun r σ109 => zqv r (Q none σ109))))))) : zM (d + 1) 42 [.ref r0, .ref r1] σ Q := by
  unfold zM
  refine zW_s rfl ?_
  have hp101 := h.1; replace h := h.2
  refine zW_c rfl hp101 (zM_m h ?_)
  intro r σ102 h
  replace h := zqv_e h
  obtain ⟨rfl, h⟩ := h
  refine zW_s rfl ?_
  refine zW_s rfl ?_
  have hp103 := h.1; replace h := h.2
  refine zW_p rfl ⟨hp103, by decide⟩ ?_
  refine zW_s rfl ?_
  refine zW_p rfl hp103 ?_
  refine zW_s rfl ?_
  refine zW_p rfl hp103 ?_
  have hp104 := h.1; replace h := h.2
  refine zW_p rfl hp104 ?_
  have hp105 := h.1; replace h := h.2
  refine zW_c rfl hp105 (zM_m h ?_)
  intro r σ106 h
  replace h := zqv_e h
  obtain ⟨rfl, h⟩ := h
  refine zW_s rfl ?_
  refine zW_s rfl ?_
  refine zW_s rfl ?_
  refine zW_s rfl ?_
  have hp107 := h.1; replace h := h.2
  refine zW_p rfl hp107 ?_
  refine zW_s rfl ?_
  have hp108 := h.1; replace h := h.2
  refine zW_c rfl hp108 (zM_m h ?_)
  intro r σ109 h
  replace h := zqv_e h
  obtain ⟨rfl, h⟩ := h
  refine zW_r rfl trivial ?_
  exact h
set_option maxHeartbeats 4000000 in
theorem b43 {d : Nat} {r0 : Nat} {r1 : Nat} {x2 : Int32} {x3 : Int32} {x4 : Int32} {σ : zH} {Q : Option Value → zH → Prop} (h : (if x4 ≤ (nI 4) then zW (d + 1) 43 13 [(0, .ref r0), (1, .ref r1), (3, .int x3), (4, .int x4), (5, .int x2), (6, .int (nI 0))] [] σ Q else Q none σ)) : zM (d + 1) 43 [.ref r0, .ref r1, .int x2, .int x3, .int x4] σ Q := by
  unfold zM
  refine zW_s rfl ?_
  refine zW_s rfl ?_
  refine zW_s rfl ?_
  refine zW_if (fun (c101 : x4 ≤ (nI 4)) => ?_) (fun (c101 : ¬ (x4 ≤ (nI 4))) => ?_)
  · rw [if_pos c101] at h
    refine zW_s rfl ?_
    refine zW_s rfl ?_
    refine zW_s rfl ?_
    refine zW_s rfl ?_
    refine zW_k [0, 1, 3, 4, 5, 6] rfl ?_
    exact h
  · rw [if_neg c101] at h
    refine zW_r rfl trivial ?_
    exact h
set_option maxHeartbeats 4000000 in
theorem b43_13 {d : Nat} {r0 : Nat} {r1 : Nat} {x3 : Int32} {x4 : Int32} {x5 : Int32} {x6 : Int32} {σ : zH} {Q : Option Value → zH → Prop} (h : (if (nI 40) ≤ x6 then Q none σ else (if x3 ≤ x5 then Q none σ else (zK σ r0 = 4) ∧ (if ¬ (zI σ r0 4) = 0 then Q none σ else (zK σ r1 = 10) ∧ (zK σ (zQ σ r1 0) = 23 ∨ zK σ (zQ σ r1 0) = 24) ∧ (vp_in x5 (zN σ (zQ σ r1 0))) ∧ (zK σ (zS σ (zQ σ r1 0) x5.toNatClampNeg) = 6) ∧ (if ¬ (zI σ (zS σ (zQ σ r1 0) x5.toNatClampNeg) 0) = (nI 11) then (if ¬ (zI σ (zS σ (zQ σ r1 0) x5.toNatClampNeg) 0) = (nI 12) then zM d 45 [.ref r0, .ref (zS σ (zQ σ r1 0) x5.toNatClampNeg)] σ (fun r σ111 => zqv r (zW (d + 1) 43 120 [(0, .ref r0), (1, .ref r1), (3, .int x3), (4, .int x4), (6, .int x6), (7, .ref (zS σ (zQ σ r1 0) x5.toNatClampNeg))] [] σ111 Q)) else zM d 44 [.ref r0, .ref r1, .int x5, .int x4] σ (fun r σ112 => zqv r (zW (d + 1) 43 120 [(0, .ref r0), (1, .ref r1), (3, .int x3), (4, .int x4), (6, .int x6), (7, .ref (zS σ (zQ σ r1 0) x5.toNatClampNeg))] [] σ112 Q))) else zW (d + 1) 43 55 [(0, .ref r0), (1, .ref r1), (3, .int x3), (4, .int x4), (5, .int x5), (6, .int x6), (7, .ref (zS σ (zQ σ r1 0) x5.toNatClampNeg)), (8, .int (nI 0))] [] σ Q))))) : zW (d + 1) 43 13 [(0, .ref r0), (1, .ref r1), (3, .int x3), (4, .int x4), (5, .int x5), (6, .int x6)] [] σ Q := by
  refine zW_s rfl ?_
  refine zW_s rfl ?_
  refine zW_s rfl ?_
  refine zW_if (fun (c101 : (nI 40) ≤ x6) => ?_) (fun (c101 : ¬ ((nI 40) ≤ x6)) => ?_)
  · rw [if_pos c101] at h
    refine zW_r rfl trivial ?_
    exact h
  · rw [if_neg c101] at h
    refine zW_s rfl ?_
    refine zW_s rfl ?_
    refine zW_s rfl ?_
    refine zW_if (fun (c102 : x3 ≤ x5) => ?_) (fun (c102 : ¬ (x3 ≤ x5)) => ?_)
    · rw [if_pos c102] at h
      refine zW_r rfl trivial ?_
      exact h
    · rw [if_neg c102] at h
      refine zW_s rfl ?_
      have hp103 := h.1; replace h := h.2
      refine zW_p rfl hp103 ?_
      refine zW_s rfl ?_
      refine zW_if (fun (c104 : ¬ (zI σ r0 4) = 0) => ?_) (fun (c104 : ¬ (¬ (zI σ r0 4) = 0)) => ?_)
      · rw [if_pos c104] at h
        refine zW_r rfl trivial ?_
        exact h
      · rw [if_neg c104] at h
        refine zW_s rfl ?_
        have hp105 := h.1; replace h := h.2
        refine zW_p rfl hp105 ?_
        refine zW_s rfl ?_
        have hp106 := h.1; replace h := h.2
        have hp107 := h.1; replace h := h.2
        refine zW_p rfl ⟨hp106, hp107⟩ ?_
        refine zW_s rfl ?_
        refine zW_s rfl ?_
        have hp108 := h.1; replace h := h.2
        refine zW_p rfl hp108 ?_
        refine zW_s rfl ?_
        refine zW_s rfl ?_
        refine zW_if (fun (c109 : ¬ (zI σ (zS σ (zQ σ r1 0) x5.toNatClampNeg) 0) = (nI 11)) => ?_) (fun (c109 : ¬ (¬ (zI σ (zS σ (zQ σ r1 0) x5.toNatClampNeg) 0) = (nI 11))) => ?_)
        · rw [if_pos c109] at h
          refine zW_s rfl ?_
          refine zW_p rfl hp108 ?_
          refine zW_s rfl ?_
          refine zW_s rfl ?_
          refine zW_if (fun (c110 : ¬ (zI σ (zS σ (zQ σ r1 0) x5.toNatClampNeg) 0) = (nI 12)) => ?_) (fun (c110 : ¬ (¬ (zI σ (zS σ (zQ σ r1 0) x5.toNatClampNeg) 0) = (nI 12))) => ?_)
          · rw [if_pos c110] at h
            refine zW_s rfl ?_
            refine zW_s rfl ?_
            refine zW_c rfl hp103 (zM_m h ?_)
            intro r σ111 h
            replace h := zqv_e h
            obtain ⟨rfl, h⟩ := h
            refine zW_k [0, 1, 2, 3, 5, 6] rfl ?_
            exact h
          · rw [if_neg c110] at h
            refine zW_s rfl ?_
            refine zW_s rfl ?_
            refine zW_s rfl ?_
            refine zW_s rfl ?_
            refine zW_c rfl hp103 (zM_m h ?_)
            intro r σ112 h
            replace h := zqv_e h
            obtain ⟨rfl, h⟩ := h
            refine zW_s rfl ?_
            refine zW_k [0, 1, 2, 3, 5, 6] rfl ?_
            exact h
        · rw [if_neg c109] at h
          refine zW_s rfl ?_
          refine zW_s rfl ?_
          exact h
set_option maxHeartbeats 4000000 in
theorem b43_120 {d : Nat} {r0 : Nat} {r1 : Nat} {x3 : Int32} {x4 : Int32} {x6 : Int32} {r7 : Nat} {σ : zH} {Q : Option Value → zH → Prop} (h : (zK σ r0 = 4) ∧ (zK σ r7 = 6) ∧ zW (d + 1) 43 13 [(0, .ref r0), (1, .ref r1), (3, .int x3), (4, .int x4), (5, .int (zI (zsI σ r0 5 ((zI σ r0 5) + (if (zI σ r0 4) = 0 then nI 1 else nI 0))) r7 6)), (6, .int (x6 + nI 1))] [] (zsI σ r0 5 ((zI σ r0 5) + (if (zI σ r0 4) = 0 then nI 1 else nI 0))) Q) : zW (d + 1) 43 120 [(0, .ref r0), (1, .ref r1), (3, .int x3), (4, .int x4), (6, .int x6), (7, .ref r7)] [] σ Q := by
  refine zW_s rfl ?_
  refine zW_s rfl ?_
  have hp101 := h.1; replace h := h.2
  refine zW_p rfl hp101 ?_
  refine zW_s rfl ?_
  refine zW_p rfl hp101 ?_
  refine zW_s rfl ?_
  have k : ∀ v : Int32, v = (if (zI σ r0 4) = 0 then nI 1 else nI 0) → zW (d + 1) 43 137 [(0, .ref r0), (1, .ref r1), (3, .int x3), (4, .int x4), (6, .int x6), (7, .ref r7)] [.int v, .int (zI σ r0 5), .ref r0] σ Q := by
    intro v hv
    subst hv
    refine zW_s rfl ?_
    refine zW_p rfl hp101 ?_
    refine zW_s rfl ?_
    have hp103 := h.1; replace h := h.2
    refine zW_p rfl hp103 ?_
    refine zW_s rfl ?_
    refine zW_s rfl ?_
    refine zW_s rfl ?_
    refine zW_k [0, 1, 2, 3, 6, 4] rfl ?_
    exact h
  refine zW_if (fun (c102 : (zI σ r0 4) = 0) => ?_) (fun (c102 : ¬ ((zI σ r0 4) = 0)) => ?_)
  · replace k := k _ (if_pos c102).symm
    refine zW_s rfl ?_
    exact k
  · replace k := k _ (if_neg c102).symm
    refine zW_s rfl ?_
    refine zW_s rfl ?_
    exact k
set_option maxHeartbeats 4000000 in
theorem b43_55 {d : Nat} {r0 : Nat} {r1 : Nat} {x3 : Int32} {x4 : Int32} {x5 : Int32} {x6 : Int32} {r7 : Nat} {x8 : Int32} {σ : zH} {Q : Option Value → zH → Prop} (h : (zK σ r7 = 6) ∧ (if (zI σ r7 4) ≤ x8 then zW (d + 1) 43 120 [(0, .ref r0), (1, .ref r1), (3, .int x3), (4, .int x4), (6, .int x6), (7, .ref r7)] [] σ Q else (zK σ r0 = 4) ∧ zM d 43 [.ref r0, .ref r1, .int (x5 + (nI 1)), .int (zI σ r7 6), .int (x4 + (nI 1))] σ (fun r σ104 => zqv r (zW (d + 1) 43 55 [(0, .ref r0), (1, .ref r1), (3, .int x3), (4, .int x4), (5, .int x5), (6, .int x6), (7, .ref r7), (8, .int (x8 + nI 1))] [] σ104 Q)))) : zW (d + 1) 43 55 [(0, .ref r0), (1, .ref r1), (3, .int x3), (4, .int x4), (5, .int x5), (6, .int x6), (7, .ref r7), (8, .int x8)] [] σ Q := by
  refine zW_s rfl ?_
  refine zW_s rfl ?_
  have hp101 := h.1; replace h := h.2
  refine zW_p rfl hp101 ?_
  refine zW_s rfl ?_
  refine zW_if (fun (c102 : (zI σ r7 4) ≤ x8) => ?_) (fun (c102 : ¬ ((zI σ r7 4) ≤ x8)) => ?_)
  · rw [if_pos c102] at h
    refine zW_s rfl ?_
    refine zW_k [0, 1, 2, 3, 5, 6] rfl ?_
    exact h
  · rw [if_neg c102] at h
    refine zW_s rfl ?_
    refine zW_s rfl ?_
    refine zW_s rfl ?_
    refine zW_s rfl ?_
    refine zW_s rfl ?_
    refine zW_s rfl ?_
    refine zW_p rfl hp101 ?_
    refine zW_s rfl ?_
    refine zW_s rfl ?_
    refine zW_s rfl ?_
    have hp103 := h.1; replace h := h.2
    refine zW_c rfl hp103 (zM_m h ?_)
    intro r σ104 h
    replace h := zqv_e h
    obtain ⟨rfl, h⟩ := h
    refine zW_s rfl ?_
    refine zW_s rfl ?_
    exact h
set_option maxHeartbeats 4000000 in
theorem b44 {d : Nat} {r0 : Nat} {r1 : Nat} {x2 : Int32} {x3 : Int32} {σ : zH} {Q : Option Value → zH → Prop} (h : (zK σ r1 = 10) ∧ (zK σ (zQ σ r1 0) = 23 ∨ zK σ (zQ σ r1 0) = 24) ∧ (vp_in x2 (zN σ (zQ σ r1 0))) ∧ (zK σ r0 = 4) ∧ (zK σ (zS σ (zQ σ r1 0) x2.toNatClampNeg) = 6) ∧ (zK σ (zQ σ r1 1) = 1) ∧ zM d 5 [.ref (zQ σ r1 1), .ref (zQ σ r0 2), .int (zI σ (zS σ (zQ σ r1 0) x2.toNatClampNeg) 7), .int (zI σ (zS σ (zQ σ r1 0) x2.toNatClampNeg) 8)] σ (fun r σ107 => zqi r (fun x108 => (if x108 = 0 then (zK σ107 (zS σ (zQ σ r1 0) x2.toNatClampNeg) = 6) ∧ (zK σ107 r0 = 4) ∧ zM d 43 [.ref r0, .ref r1, .int (zI σ107 (zS σ (zQ σ r1 0) x2.toNatClampNeg) 5), .int (zI σ107 (zS σ (zQ σ r1 0) x2.toNatClampNeg) 6), .int (x3 + (nI 1))] σ107 (fun r σ112 => zqv r (Q none σ112)) else (zK σ107 (zS σ (zQ σ r1 0) x2.toNatClampNeg) = 6) ∧ (zK σ107 r0 = 4) ∧ zM d 43 [.ref r0, .ref r1, .int (x2 + (nI 1)), .int (zI σ107 (zS σ (zQ σ r1 0) x2.toNatClampNeg) 5), .int (x3 + (nI 1))] σ107 (fun r σ115 => zqv r (Q none σ115)))))) : zM (d + 1) 44 [.ref r0, .ref r1, .int x2, .int x3] σ Q := by
  unfold zM
  refine zW_s rfl ?_
  have hp101 := h.1; replace h := h.2
  refine zW_p rfl hp101 ?_
  refine zW_s rfl ?_
  have hp102 := h.1; replace h := h.2
  have hp103 := h.1; replace h := h.2
  refine zW_p rfl ⟨hp102, hp103⟩ ?_
  refine zW_s rfl ?_
  refine zW_s rfl ?_
  refine zW_p rfl hp101 ?_
  refine zW_s rfl ?_
  have hp104 := h.1; replace h := h.2
  refine zW_p rfl hp104 ?_
  refine zW_s rfl ?_
  have hp105 := h.1; replace h := h.2
  refine zW_p rfl hp105 ?_
  refine zW_s rfl ?_
  refine zW_p rfl hp105 ?_
  have hp106 := h.1; replace h := h.2
  refine zW_c rfl hp106 (zM_m h ?_)
  intro r σ107 h
  replace h := zqi_e h
  obtain ⟨x108, rfl, h⟩ := h
  refine zW_s rfl ?_
  refine zW_if (fun (c109 : x108 = 0) => ?_) (fun (c109 : ¬ (x108 = 0)) => ?_)
  · rw [if_pos c109] at h
    refine zW_s rfl ?_
    refine zW_s rfl ?_
    refine zW_s rfl ?_
    have hp110 := h.1; replace h := h.2
    refine zW_p rfl hp110 ?_
    refine zW_s rfl ?_
    refine zW_p rfl hp110 ?_
    refine zW_s rfl ?_
    refine zW_s rfl ?_
    refine zW_s rfl ?_
    have hp111 := h.1; replace h := h.2
    refine zW_c rfl hp111 (zM_m h ?_)
    intro r σ112 h
    replace h := zqv_e h
    obtain ⟨rfl, h⟩ := h
    refine zW_r rfl trivial ?_
    exact h
  · rw [if_neg c109] at h
    refine zW_s rfl ?_
    refine zW_s rfl ?_
    refine zW_s rfl ?_
    refine zW_s rfl ?_
    refine zW_s rfl ?_
    refine zW_s rfl ?_
    have hp113 := h.1; replace h := h.2
    refine zW_p rfl hp113 ?_
    refine zW_s rfl ?_
    refine zW_s rfl ?_
    refine zW_s rfl ?_
    have hp114 := h.1; replace h := h.2
    refine zW_c rfl hp114 (zM_m h ?_)
    intro r σ115 h
    replace h := zqv_e h
    obtain ⟨rfl, h⟩ := h
    refine zW_s rfl ?_
    refine zW_r rfl trivial ?_
    exact h
set_option maxHeartbeats 4000000 in
theorem b45 {d : Nat} {r0 : Nat} {r1 : Nat} {σ : zH} {Q : Option Value → zH → Prop} (h : (zK σ r1 = 6) ∧ zM d 54 [.ref r1] σ (fun r σ102 => zqi r (fun x103 => (if x103 = 0 then (zK σ102 r0 = 4) ∧ (zK σ102 (zQ σ102 r0 2) = 7) ∧ zM d 69 [.ref (zQ σ102 r0 2), .ref r1, .int (nI 0)] σ102 (fun r σ107 => zqv r (Q none σ107)) else (zK σ102 r0 = 4) ∧ (zK σ102 (zQ σ102 r0 1) = 8) ∧ (if (zI σ102 (zQ σ102 r0 1) 1) ≤ (zI σ102 r0 6) then Q none (zsI σ102 r0 4 (nI 1)) else (zK σ102 (zQ σ102 (zQ σ102 r0 1) 0) = 20) ∧ (vp_in (zI σ102 r0 6) (zN σ102 (zQ σ102 (zQ σ102 r0 1) 0))) ∧ (zK σ102 (zQ σ102 r0 2) = 7) ∧ zM d 67 [.ref (zQ σ102 r0 2), .ref r1] σ102 (fun r σ114 => zqi r (fun x115 => (if (zA σ102 (zQ σ102 (zQ σ102 r0 1) 0) (zI σ102 r0 6).toNatClampNeg) < x115 then (zK σ114 r0 = 4) ∧ (zK σ114 (zQ σ114 r0 1) = 8) ∧ (zK σ114 (zQ σ114 (zQ σ114 r0 1) 0) = 20) ∧ (vp_in (zI σ114 r0 6) (zN σ114 (zQ σ114 (zQ σ114 r0 1) 0))) ∧ (zK σ114 (zQ σ114 r0 2) = 7) ∧ zM d 69 [.ref (zQ σ114 r0 2), .ref r1, .int (zA σ114 (zQ σ114 (zQ σ114 r0 1) 0) (zI σ114 r0 6).toNatClampNeg)] (zsI σ114 r0 6 ((zI σ114 r0 6) + (nI 1))) (fun r σ122 => zqv r (Q none σ122)) else (zK σ114 r0 = 4) ∧ Q none (zsI σ114 r0 4 (nI 1)))))))))) : zM (d + 1) 45 [.ref r0, .ref r1] σ Q := by
  unfold zM
  refine zW_s rfl ?_
  refine zW_s rfl ?_
  refine zW_s rfl ?_
  have hp101 := h.1; replace h := h.2
  refine zW_c rfl hp101 (zM_m h ?_)
  intro r σ102 h
  replace h := zqi_e h
  obtain ⟨x103, rfl, h⟩ := h
  refine zW_s rfl ?_
  refine zW_if (fun (c104 : x103 = 0) => ?_) (fun (c104 : ¬ (x103 = 0)) => ?_)
  · rw [if_pos c104] at h
    refine zW_s rfl ?_
    have hp105 := h.1; replace h := h.2
    refine zW_p rfl hp105 ?_
    refine zW_s rfl ?_
    refine zW_s rfl ?_
    have hp106 := h.1; replace h := h.2
    refine zW_c rfl hp106 (zM_m h ?_)
    intro r σ107 h
    replace h := zqv_e h
    obtain ⟨rfl, h⟩ := h
    refine zW_r rfl trivial ?_
    exact h
  · rw [if_neg c104] at h
    refine zW_s rfl ?_
    have hp108 := h.1; replace h := h.2
    refine zW_p rfl hp108 ?_
    refine zW_s rfl ?_
    refine zW_p rfl hp108 ?_
    have hp109 := h.1; replace h := h.2
    refine zW_p rfl hp109 ?_
    refine zW_s rfl ?_
    refine zW_if (fun (c110 : (zI σ102 (zQ σ102 r0 1) 1) ≤ (zI σ102 r0 6)) => ?_) (fun (c110 : ¬ ((zI σ102 (zQ σ102 r0 1) 1) ≤ (zI σ102 r0 6))) => ?_)
    · rw [if_pos c110] at h
      refine zW_s rfl ?_
      refine zW_s rfl ?_
      refine zW_p rfl ⟨hp108, by decide⟩ ?_
      refine zW_r rfl trivial ?_
      exact h
    · rw [if_neg c110] at h
      refine zW_s rfl ?_
      refine zW_p rfl hp108 ?_
      refine zW_p rfl hp109 ?_
      refine zW_s rfl ?_
      refine zW_p rfl hp108 ?_
      have hp111 := h.1; replace h := h.2
      have hp112 := h.1; replace h := h.2
      refine zW_p rfl ⟨hp111, hp112⟩ ?_
      refine zW_s rfl ?_
      refine zW_p rfl hp108 ?_
      refine zW_s rfl ?_
      have hp113 := h.1; replace h := h.2
      refine zW_c rfl hp113 (zM_m h ?_)
      intro r σ114 h
      replace h := zqi_e h
      obtain ⟨x115, rfl, h⟩ := h
      refine zW_s rfl ?_
      refine zW_if (fun (c116 : (zA σ102 (zQ σ102 (zQ σ102 r0 1) 0) (zI σ102 r0 6).toNatClampNeg) < x115) => ?_) (fun (c116 : ¬ ((zA σ102 (zQ σ102 (zQ σ102 r0 1) 0) (zI σ102 r0 6).toNatClampNeg) < x115)) => ?_)
      · rw [if_pos c116] at h
        refine zW_s rfl ?_
        have hp117 := h.1; replace h := h.2
        refine zW_p rfl hp117 ?_
        have hp118 := h.1; replace h := h.2
        refine zW_p rfl hp118 ?_
        refine zW_s rfl ?_
        refine zW_p rfl hp117 ?_
        have hp119 := h.1; replace h := h.2
        have hp120 := h.1; replace h := h.2
        refine zW_p rfl ⟨hp119, hp120⟩ ?_
        refine zW_s rfl ?_
        refine zW_s rfl ?_
        refine zW_s rfl ?_
        refine zW_p rfl hp117 ?_
        refine zW_s rfl ?_
        refine zW_s rfl ?_
        refine zW_p rfl hp117 ?_
        refine zW_s rfl ?_
        refine zW_p rfl hp117 ?_
        refine zW_s rfl ?_
        refine zW_s rfl ?_
        have hp121 := h.1; replace h := h.2
        refine zW_c rfl hp121 (zM_m h ?_)
        intro r σ122 h
        replace h := zqv_e h
        obtain ⟨rfl, h⟩ := h
        refine zW_r rfl trivial ?_
        exact h
      · rw [if_neg c116] at h
        refine zW_s rfl ?_
        refine zW_s rfl ?_
        have hp123 := h.1; replace h := h.2
        refine zW_p rfl ⟨hp123, by decide⟩ ?_
        refine zW_r rfl trivial ?_
        exact h
set_option maxHeartbeats 4000000 in
theorem b47 {d : Nat} {r0 : Nat} {r1 : Nat} {r2 : Nat} {r3 : Nat} {σ : zH} {Q : Option Value → zH → Prop} (h : (zK σ r0 = 5) ∧ (zK σ (zQ σ r0 1) = 11) ∧ zM d 99 [.ref (zQ σ r0 1)] (zsI σ r0 4 (nI 0)) (fun r σ103 => zqv r ((zK σ103 r0 = 5) ∧ (zK σ103 (zQ σ103 r0 0) = 7) ∧ zM d 57 [.ref (zQ σ103 r0 0), .ref r3] σ103 (fun r σ106 => zqv r ((zK σ106 r0 = 5) ∧ (zK σ106 (zQ σ106 r0 0) = 7) ∧ zM d 60 [.ref (zQ σ106 r0 0)] σ106 (fun r σ109 => zql r (fun x110 => (zK σ109 (zQ σ106 r0 1) = 11) ∧ zM d 100 [.ref (zQ σ106 r0 1), .long x110, .long (lN 0)] σ109 (fun r σ112 => zqi r (fun x113 => (zK σ112 r1 = 10) ∧ (zK σ112 r0 = 5) ∧ zM d 49 [.ref r0, .ref r1, .int (nI 0), .int (zI σ112 r1 2), .int (nI 0)] σ112 (fun r σ116 => zqv r ((zK σ116 r0 = 5) ∧ (if ¬ (zI σ116 r0 4) = 0 then Q none σ116 else zM d 48 [.ref r0, .ref r2] σ116 (fun r σ119 => zqv r (Q none σ119)))))))))))))) : zM (d + 1) 47 [.ref r0, .ref r1, .ref r2, .ref r3] σ Q := by
  unfold zM
  refine zW_s rfl ?_
  refine zW_s rfl ?_
  have hp101 := h.1; replace h := h.2
  refine zW_p rfl ⟨hp101, by decide⟩ ?_
  refine zW_s rfl ?_
  refine zW_p rfl hp101 ?_
  have hp102 := h.1; replace h := h.2
  refine zW_c rfl hp102 (zM_m h ?_)
  intro r σ103 h
  replace h := zqv_e h
  obtain ⟨rfl, h⟩ := h
  refine zW_s rfl ?_
  have hp104 := h.1; replace h := h.2
  refine zW_p rfl hp104 ?_
  refine zW_s rfl ?_
  have hp105 := h.1; replace h := h.2
  refine zW_c rfl hp105 (zM_m h ?_)
  intro r σ106 h
  replace h := zqv_e h
  obtain ⟨rfl, h⟩ := h
  refine zW_s rfl ?_
  have hp107 := h.1; replace h := h.2
  refine zW_p rfl hp107 ?_
  refine zW_s rfl ?_
  refine zW_p rfl hp107 ?_
  have hp108 := h.1; replace h := h.2
  refine zW_c rfl hp108 (zM_m h ?_)
  intro r σ109 h
  replace h := zql_e h
  obtain ⟨x110, rfl, h⟩ := h
  refine zW_s rfl ?_
  have hp111 := h.1; replace h := h.2
  refine zW_c rfl hp111 (zM_m h ?_)
  intro r σ112 h
  replace h := zqi_e h
  obtain ⟨x113, rfl, h⟩ := h
  refine zW_s rfl ?_
  refine zW_s rfl ?_
  refine zW_s rfl ?_
  refine zW_s rfl ?_
  refine zW_s rfl ?_
  have hp114 := h.1; replace h := h.2
  refine zW_p rfl hp114 ?_
  refine zW_s rfl ?_
  have hp115 := h.1; replace h := h.2
  refine zW_c rfl hp115 (zM_m h ?_)
  intro r σ116 h
  replace h := zqv_e h
  obtain ⟨rfl, h⟩ := h
  refine zW_s rfl ?_
  have hp117 := h.1; replace h := h.2
  refine zW_p rfl hp117 ?_
  refine zW_s rfl ?_
  refine zW_if (fun (c118 : ¬ (zI σ116 r0 4) = 0) => ?_) (fun (c118 : ¬ (¬ (zI σ116 r0 4) = 0)) => ?_)
  · rw [if_pos c118] at h
    refine zW_r rfl trivial ?_
    exact h
  · rw [if_neg c118] at h
    refine zW_s rfl ?_
    refine zW_s rfl ?_
    refine zW_c rfl hp117 (zM_m h ?_)
    intro r σ119 h
    replace h := zqv_e h
    obtain ⟨rfl, h⟩ := h
    refine zW_r rfl trivial ?_
    exact h
set_option maxHeartbeats 4000000 in
theorem b48 {d : Nat} {r0 : Nat} {r1 : Nat} {σ : zH} {Q : Option Value → zH → Prop} (h : (zK σ r0 = 5) ∧ (zK σ (zQ σ r0 1) = 11) ∧ zW (d + 1) 48 25 [(0, .ref r0), (1, .ref r1), (2, .int (nI 0))] [] (zsJ (zsI (zsI σ r0 5 (zI σ (zQ σ r0 1) 4)) r0 6 (nI 0)) r0 7 (Int64.ofInt (-1))) Q) : zM (d + 1) 48 [.ref r0, .ref r1] σ Q := by
  unfold zM
  refine zW_s rfl ?_
  refine zW_s rfl ?_
  have hp101 := h.1; replace h := h.2
  refine zW_p rfl hp101 ?_
  have hp102 := h.1; replace h := h.2
  refine zW_p rfl hp102 ?_
  refine zW_p rfl hp101 ?_
  refine zW_s rfl ?_
  refine zW_s rfl ?_
  refine zW_p rfl hp101 ?_
  refine zW_s rfl ?_
  refine zW_s rfl ?_
  refine zW_p rfl hp101 ?_
  refine zW_s rfl ?_
  refine zW_s rfl ?_
  exact h
set_option maxHeartbeats 4000000 in
theorem b48_25 {d : Nat} {r0 : Nat} {r1 : Nat} {x2 : Int32} {σ : zH} {Q : Option Value → zH → Prop} (h : (zK σ r0 = 5) ∧ (zK σ (zQ σ r0 1) = 11) ∧ (if (zI σ (zQ σ r0 1) 4) ≤ x2 then Q none σ else (zK σ (zQ σ (zQ σ r0 1) 0) = 21) ∧ (vp_in x2 (zN σ (zQ σ (zQ σ r0 1) 0))) ∧ (zK σ (zQ σ r0 0) = 7) ∧ zM d 59 [.ref (zQ σ r0 0), .long (zB σ (zQ σ (zQ σ r0 1) 0) x2.toNatClampNeg)] σ (fun r σ107 => zqv r ((zK σ107 r0 = 5) ∧ (zK σ107 r1 = 1) ∧ zM d 5 [.ref r1, .ref (zQ σ107 r0 0), .int (nI 0), .int (zI σ107 r1 3)] σ107 (fun r σ110 => zqi r (fun x111 => (if x111 = 0 then (zK σ110 r0 = 5) ∧ (if (lg_cmp (zJ σ110 r0 7) (Int64.ofInt (-1))) = 0 then (zK σ110 (zQ σ110 r0 1) = 11) ∧ (zK σ110 (zQ σ110 (zQ σ110 r0 1) 1) = 21) ∧ (vp_in x2 (zN σ110 (zQ σ110 (zQ σ110 r0 1) 1))) ∧ zW (d + 1) 48 25 [(0, .ref r0), (1, .ref r1), (2, .int (x2 + nI 1))] [] (zsJ σ110 r0 7 (zB σ110 (zQ σ110 (zQ σ110 r0 1) 1) x2.toNatClampNeg)) Q else (zK σ110 (zQ σ110 r0 1) = 11) ∧ (zK σ110 (zQ σ110 (zQ σ110 r0 1) 1) = 21) ∧ (vp_in x2 (zN σ110 (zQ σ110 (zQ σ110 r0 1) 1))) ∧ (if 0 ≤ (lg_cmp (zB σ110 (zQ σ110 (zQ σ110 r0 1) 1) x2.toNatClampNeg) (zJ σ110 r0 7)) then zW (d + 1) 48 25 [(0, .ref r0), (1, .ref r1), (2, .int (x2 + nI 1))] [] σ110 Q else zW (d + 1) 48 25 [(0, .ref r0), (1, .ref r1), (2, .int (x2 + nI 1))] [] (zsJ σ110 r0 7 (zB σ110 (zQ σ110 (zQ σ110 r0 1) 1) x2.toNatClampNeg)) Q)) else (zK σ110 r0 = 5) ∧ zW (d + 1) 48 25 [(0, .ref r0), (1, .ref r1), (2, .int (x2 + nI 1))] [] (zsI σ110 r0 6 ((zI σ110 r0 6) + (nI 1))) Q))))))) : zW (d + 1) 48 25 [(0, .ref r0), (1, .ref r1), (2, .int x2)] [] σ Q := by
  refine zW_s rfl ?_
  refine zW_s rfl ?_
  have hp101 := h.1; replace h := h.2
  refine zW_p rfl hp101 ?_
  have hp102 := h.1; replace h := h.2
  refine zW_p rfl hp102 ?_
  refine zW_s rfl ?_
  refine zW_if (fun (c103 : (zI σ (zQ σ r0 1) 4) ≤ x2) => ?_) (fun (c103 : ¬ ((zI σ (zQ σ r0 1) 4) ≤ x2)) => ?_)
  · rw [if_pos c103] at h
    refine zW_r rfl trivial ?_
    exact h
  · rw [if_neg c103] at h
    refine zW_s rfl ?_
    refine zW_p rfl hp101 ?_
    refine zW_s rfl ?_
    refine zW_p rfl hp101 ?_
    refine zW_p rfl hp102 ?_
    refine zW_s rfl ?_
    have hp104 := h.1; replace h := h.2
    have hp105 := h.1; replace h := h.2
    refine zW_p rfl ⟨hp104, hp105⟩ ?_
    have hp106 := h.1; replace h := h.2
    refine zW_c rfl hp106 (zM_m h ?_)
    intro r σ107 h
    replace h := zqv_e h
    obtain ⟨rfl, h⟩ := h
    refine zW_s rfl ?_
    refine zW_s rfl ?_
    have hp108 := h.1; replace h := h.2
    refine zW_p rfl hp108 ?_
    refine zW_s rfl ?_
    refine zW_s rfl ?_
    have hp109 := h.1; replace h := h.2
    refine zW_p rfl hp109 ?_
    refine zW_c rfl hp109 (zM_m h ?_)
    intro r σ110 h
    replace h := zqi_e h
    obtain ⟨x111, rfl, h⟩ := h
    refine zW_s rfl ?_
    refine zW_if (fun (c112 : x111 = 0) => ?_) (fun (c112 : ¬ (x111 = 0)) => ?_)
    · rw [if_pos c112] at h
      refine zW_s rfl ?_
      have hp113 := h.1; replace h := h.2
      refine zW_p rfl hp113 ?_
      refine zW_s rfl ?_
      refine zW_s rfl ?_
      refine zW_s rfl ?_
      refine zW_if (fun (c114 : (lg_cmp (zJ σ110 r0 7) (Int64.ofInt (-1))) = 0) => ?_) (fun (c114 : ¬ ((lg_cmp (zJ σ110 r0 7) (Int64.ofInt (-1))) = 0)) => ?_)
      · rw [if_pos c114] at h
        refine zW_s rfl ?_
        refine zW_s rfl ?_
        refine zW_p rfl hp113 ?_
        have hp115 := h.1; replace h := h.2
        refine zW_p rfl hp115 ?_
        refine zW_s rfl ?_
        have hp116 := h.1; replace h := h.2
        have hp117 := h.1; replace h := h.2
        refine zW_p rfl ⟨hp116, hp117⟩ ?_
        refine zW_p rfl hp113 ?_
        refine zW_s rfl ?_
        refine zW_s rfl ?_
        exact h
      · rw [if_neg c114] at h
        refine zW_s rfl ?_
        refine zW_p rfl hp113 ?_
        have hp118 := h.1; replace h := h.2
        refine zW_p rfl hp118 ?_
        refine zW_s rfl ?_
        have hp119 := h.1; replace h := h.2
        have hp120 := h.1; replace h := h.2
        refine zW_p rfl ⟨hp119, hp120⟩ ?_
        refine zW_s rfl ?_
        refine zW_p rfl hp113 ?_
        refine zW_s rfl ?_
        refine zW_s rfl ?_
        refine zW_if (fun (c121 : 0 ≤ (lg_cmp (zB σ110 (zQ σ110 (zQ σ110 r0 1) 1) x2.toNatClampNeg) (zJ σ110 r0 7))) => ?_) (fun (c121 : ¬ (0 ≤ (lg_cmp (zB σ110 (zQ σ110 (zQ σ110 r0 1) 1) x2.toNatClampNeg) (zJ σ110 r0 7)))) => ?_)
        · rw [if_pos c121] at h
          refine zW_s rfl ?_
          refine zW_s rfl ?_
          exact h
        · rw [if_neg c121] at h
          refine zW_s rfl ?_
          refine zW_s rfl ?_
          refine zW_p rfl hp113 ?_
          refine zW_p rfl hp118 ?_
          refine zW_s rfl ?_
          refine zW_p rfl ⟨hp119, hp120⟩ ?_
          refine zW_p rfl hp113 ?_
          refine zW_s rfl ?_
          refine zW_s rfl ?_
          exact h
    · rw [if_neg c112] at h
      refine zW_s rfl ?_
      refine zW_s rfl ?_
      have hp122 := h.1; replace h := h.2
      refine zW_p rfl hp122 ?_
      refine zW_s rfl ?_
      refine zW_s rfl ?_
      refine zW_p rfl hp122 ?_
      refine zW_s rfl ?_
      refine zW_s rfl ?_
      refine zW_s rfl ?_
      exact h
set_option maxHeartbeats 4000000 in
theorem b49 {d : Nat} {r0 : Nat} {r1 : Nat} {x2 : Int32} {x3 : Int32} {x4 : Int32} {σ : zH} {Q : Option Value → zH → Prop} (h : (if x4 ≤ (nI 4) then zW (d + 1) 49 13 [(0, .ref r0), (1, .ref r1), (3, .int x3), (4, .int x4), (5, .int x2), (6, .int (nI 0))] [] σ Q else Q none σ)) : zM (d + 1) 49 [.ref r0, .ref r1, .int x2, .int x3, .int x4] σ Q := by
  unfold zM
  refine zW_s rfl ?_
  refine zW_s rfl ?_
  refine zW_s rfl ?_
  refine zW_if (fun (c101 : x4 ≤ (nI 4)) => ?_) (fun (c101 : ¬ (x4 ≤ (nI 4))) => ?_)
  · rw [if_pos c101] at h
    refine zW_s rfl ?_
    refine zW_s rfl ?_
    refine zW_s rfl ?_
    refine zW_s rfl ?_
    refine zW_k [0, 1, 3, 4, 5, 6] rfl ?_
    exact h
  · rw [if_neg c101] at h
    refine zW_r rfl trivial ?_
    exact h
set_option maxHeartbeats 4000000 in
theorem b49_13 {d : Nat} {r0 : Nat} {r1 : Nat} {x3 : Int32} {x4 : Int32} {x5 : Int32} {x6 : Int32} {σ : zH} {Q : Option Value → zH → Prop} (h : (if (nI 40) ≤ x6 then Q none σ else (if x3 ≤ x5 then Q none σ else (zK σ r0 = 5) ∧ (if ¬ (zI σ r0 4) = 0 then Q none σ else (zK σ (zQ σ r0 1) = 11) ∧ (if (zI σ (zQ σ r0 1) 4) ≤ 0 then Q none σ else (zK σ r1 = 10) ∧ (zK σ (zQ σ r1 0) = 23 ∨ zK σ (zQ σ r1 0) = 24) ∧ (vp_in x5 (zN σ (zQ σ r1 0))) ∧ (zK σ (zS σ (zQ σ r1 0) x5.toNatClampNeg) = 6) ∧ (if ¬ (zI σ (zS σ (zQ σ r1 0) x5.toNatClampNeg) 0) = (nI 11) then (if ¬ (zI σ (zS σ (zQ σ r1 0) x5.toNatClampNeg) 0) = (nI 12) then zM d 50 [.ref r0, .ref (zS σ (zQ σ r1 0) x5.toNatClampNeg)] σ (fun r σ113 => zqv r ((zK σ113 (zS σ (zQ σ r1 0) x5.toNatClampNeg) = 6) ∧ zW (d + 1) 49 13 [(0, .ref r0), (1, .ref r1), (3, .int x3), (4, .int x4), (5, .int (zI σ113 (zS σ (zQ σ r1 0) x5.toNatClampNeg) 6)), (6, .int (x6 + nI 1))] [] σ113 Q)) else zM d 52 [.ref r0, .ref r1, .int x5, .int x4] σ (fun r σ115 => zqv r ((zK σ115 (zS σ (zQ σ r1 0) x5.toNatClampNeg) = 6) ∧ zW (d + 1) 49 13 [(0, .ref r0), (1, .ref r1), (3, .int x3), (4, .int x4), (5, .int (zI σ115 (zS σ (zQ σ r1 0) x5.toNatClampNeg) 6)), (6, .int (x6 + nI 1))] [] σ115 Q))) else zW (d + 1) 49 65 [(0, .ref r0), (1, .ref r1), (3, .int x3), (4, .int x4), (5, .int x5), (6, .int x6), (7, .ref (zS σ (zQ σ r1 0) x5.toNatClampNeg)), (8, .int (nI 0))] [] σ Q)))))) : zW (d + 1) 49 13 [(0, .ref r0), (1, .ref r1), (3, .int x3), (4, .int x4), (5, .int x5), (6, .int x6)] [] σ Q := by
  refine zW_s rfl ?_
  refine zW_s rfl ?_
  refine zW_s rfl ?_
  refine zW_if (fun (c101 : (nI 40) ≤ x6) => ?_) (fun (c101 : ¬ ((nI 40) ≤ x6)) => ?_)
  · rw [if_pos c101] at h
    refine zW_r rfl trivial ?_
    exact h
  · rw [if_neg c101] at h
    refine zW_s rfl ?_
    refine zW_s rfl ?_
    refine zW_s rfl ?_
    refine zW_if (fun (c102 : x3 ≤ x5) => ?_) (fun (c102 : ¬ (x3 ≤ x5)) => ?_)
    · rw [if_pos c102] at h
      refine zW_r rfl trivial ?_
      exact h
    · rw [if_neg c102] at h
      refine zW_s rfl ?_
      have hp103 := h.1; replace h := h.2
      refine zW_p rfl hp103 ?_
      refine zW_s rfl ?_
      refine zW_if (fun (c104 : ¬ (zI σ r0 4) = 0) => ?_) (fun (c104 : ¬ (¬ (zI σ r0 4) = 0)) => ?_)
      · rw [if_pos c104] at h
        refine zW_r rfl trivial ?_
        exact h
      · rw [if_neg c104] at h
        refine zW_s rfl ?_
        refine zW_p rfl hp103 ?_
        have hp105 := h.1; replace h := h.2
        refine zW_p rfl hp105 ?_
        refine zW_s rfl ?_
        refine zW_if (fun (c106 : (zI σ (zQ σ r0 1) 4) ≤ 0) => ?_) (fun (c106 : ¬ ((zI σ (zQ σ r0 1) 4) ≤ 0)) => ?_)
        · rw [if_pos c106] at h
          refine zW_r rfl trivial ?_
          exact h
        · rw [if_neg c106] at h
          refine zW_s rfl ?_
          have hp107 := h.1; replace h := h.2
          refine zW_p rfl hp107 ?_
          refine zW_s rfl ?_
          have hp108 := h.1; replace h := h.2
          have hp109 := h.1; replace h := h.2
          refine zW_p rfl ⟨hp108, hp109⟩ ?_
          refine zW_s rfl ?_
          refine zW_s rfl ?_
          have hp110 := h.1; replace h := h.2
          refine zW_p rfl hp110 ?_
          refine zW_s rfl ?_
          refine zW_s rfl ?_
          refine zW_if (fun (c111 : ¬ (zI σ (zS σ (zQ σ r1 0) x5.toNatClampNeg) 0) = (nI 11)) => ?_) (fun (c111 : ¬ (¬ (zI σ (zS σ (zQ σ r1 0) x5.toNatClampNeg) 0) = (nI 11))) => ?_)
          · rw [if_pos c111] at h
            refine zW_s rfl ?_
            refine zW_p rfl hp110 ?_
            refine zW_s rfl ?_
            refine zW_s rfl ?_
            refine zW_if (fun (c112 : ¬ (zI σ (zS σ (zQ σ r1 0) x5.toNatClampNeg) 0) = (nI 12)) => ?_) (fun (c112 : ¬ (¬ (zI σ (zS σ (zQ σ r1 0) x5.toNatClampNeg) 0) = (nI 12))) => ?_)
            · rw [if_pos c112] at h
              refine zW_s rfl ?_
              refine zW_s rfl ?_
              refine zW_c rfl hp103 (zM_m h ?_)
              intro r σ113 h
              replace h := zqv_e h
              obtain ⟨rfl, h⟩ := h
              refine zW_s rfl ?_
              have hp114 := h.1; replace h := h.2
              refine zW_p rfl hp114 ?_
              refine zW_s rfl ?_
              refine zW_s rfl ?_
              refine zW_s rfl ?_
              refine zW_k [0, 1, 2, 3, 4, 5] rfl ?_
              exact h
            · rw [if_neg c112] at h
              refine zW_s rfl ?_
              refine zW_s rfl ?_
              refine zW_s rfl ?_
              refine zW_s rfl ?_
              refine zW_c rfl hp103 (zM_m h ?_)
              intro r σ115 h
              replace h := zqv_e h
              obtain ⟨rfl, h⟩ := h
              refine zW_s rfl ?_
              refine zW_s rfl ?_
              have hp116 := h.1; replace h := h.2
              refine zW_p rfl hp116 ?_
              refine zW_s rfl ?_
              refine zW_s rfl ?_
              refine zW_s rfl ?_
              refine zW_k [0, 1, 2, 3, 4, 5] rfl ?_
              exact h
          · rw [if_neg c111] at h
            refine zW_s rfl ?_
            refine zW_s rfl ?_
            exact h
set_option maxHeartbeats 4000000 in
theorem b49_65 {d : Nat} {r0 : Nat} {r1 : Nat} {x3 : Int32} {x4 : Int32} {x5 : Int32} {x6 : Int32} {r7 : Nat} {x8 : Int32} {σ : zH} {Q : Option Value → zH → Prop} (h : (zK σ r7 = 6) ∧ (if (zI σ r7 4) ≤ x8 then zW (d + 1) 49 13 [(0, .ref r0), (1, .ref r1), (3, .int x3), (4, .int x4), (5, .int (zI σ r7 6)), (6, .int (x6 + nI 1))] [] σ Q else (zK σ r0 = 5) ∧ zM d 49 [.ref r0, .ref r1, .int (x5 + (nI 1)), .int (zI σ r7 6), .int (x4 + (nI 1))] σ (fun r σ104 => zqv r (zW (d + 1) 49 65 [(0, .ref r0), (1, .ref r1), (3, .int x3), (4, .int x4), (5, .int x5), (6, .int x6), (7, .ref r7), (8, .int (x8 + nI 1))] [] σ104 Q)))) : zW (d + 1) 49 65 [(0, .ref r0), (1, .ref r1), (3, .int x3), (4, .int x4), (5, .int x5), (6, .int x6), (7, .ref r7), (8, .int x8)] [] σ Q := by
  refine zW_s rfl ?_
  refine zW_s rfl ?_
  have hp101 := h.1; replace h := h.2
  refine zW_p rfl hp101 ?_
  refine zW_s rfl ?_
  refine zW_if (fun (c102 : (zI σ r7 4) ≤ x8) => ?_) (fun (c102 : ¬ ((zI σ r7 4) ≤ x8)) => ?_)
  · rw [if_pos c102] at h
    refine zW_s rfl ?_
    refine zW_s rfl ?_
    refine zW_p rfl hp101 ?_
    refine zW_s rfl ?_
    refine zW_s rfl ?_
    refine zW_s rfl ?_
    refine zW_k [0, 1, 2, 3, 4, 5] rfl ?_
    exact h
  · rw [if_neg c102] at h
    refine zW_s rfl ?_
    refine zW_s rfl ?_
    refine zW_s rfl ?_
    refine zW_s rfl ?_
    refine zW_s rfl ?_
    refine zW_s rfl ?_
    refine zW_p rfl hp101 ?_
    refine zW_s rfl ?_
    refine zW_s rfl ?_
    refine zW_s rfl ?_
    have hp103 := h.1; replace h := h.2
    refine zW_c rfl hp103 (zM_m h ?_)
    intro r σ104 h
    replace h := zqv_e h
    obtain ⟨rfl, h⟩ := h
    refine zW_s rfl ?_
    refine zW_s rfl ?_
    exact h
set_option maxHeartbeats 4000000 in
theorem b50 {d : Nat} {r0 : Nat} {r1 : Nat} {σ : zH} {Q : Option Value → zH → Prop} (h : (zK σ r1 = 6) ∧ zM d 54 [.ref r1] σ (fun r σ102 => zqi r (fun x103 => (zK σ102 r0 = 5) ∧ (zK σ102 (zQ σ102 r0 2) = 11) ∧ zM d 99 [.ref (zQ σ102 r0 2)] σ102 (fun r σ106 => zqv r (zW (d + 1) 50 14 [(0, .ref r0), (1, .ref r1), (2, .int x103), (3, .int (nI 0))] [] σ106 Q))))) : zM (d + 1) 50 [.ref r0, .ref r1] σ Q := by
  unfold zM
  refine zW_s rfl ?_
  have hp101 := h.1; replace h := h.2
  refine zW_c rfl hp101 (zM_m h ?_)
  intro r σ102 h
  replace h := zqi_e h
  obtain ⟨x103, rfl, h⟩ := h
  refine zW_s rfl ?_
  refine zW_s rfl ?_
  have hp104 := h.1; replace h := h.2
  refine zW_p rfl hp104 ?_
  have hp105 := h.1; replace h := h.2
  refine zW_c rfl hp105 (zM_m h ?_)
  intro r σ106 h
  replace h := zqv_e h
  obtain ⟨rfl, h⟩ := h
  refine zW_s rfl ?_
  refine zW_s rfl ?_
  exact h
set_option maxHeartbeats 4000000 in
theorem b50_14 {d : Nat} {r0 : Nat} {r1 : Nat} {x2 : Int32} {x3 : Int32} {σ : zH} {Q : Option Value → zH → Prop} (h : (zK σ r0 = 5) ∧ (zK σ (zQ σ r0 1) = 11) ∧ (if (zI σ (zQ σ r0 1) 4) ≤ x3 then zM d 51 [.ref r0] σ (fun r σ104 => zqv r (Q none σ104)) else (if ¬ (zI σ r0 4) = 0 then zM d 51 [.ref r0] σ (fun r σ106 => zqv r (Q none σ106)) else (zK σ (zQ σ (zQ σ r0 1) 0) = 21) ∧ (vp_in x3 (zN σ (zQ σ (zQ σ r0 1) 0))) ∧ (zK σ (zQ σ r0 0) = 7) ∧ zM d 59 [.ref (zQ σ r0 0), .long (zB σ (zQ σ (zQ σ r0 1) 0) x3.toNatClampNeg)] σ (fun r σ110 => zqv r ((if x2 = 0 then zW (d + 1) 50 69 [(0, .ref r0), (1, .ref r1), (2, .int x2), (3, .int x3), (4, .int (nI 1)), (5, .int (nI 0))] [] σ110 Q else (zK σ110 r0 = 5) ∧ (zK σ110 (zQ σ110 r0 0) = 7) ∧ zM d 67 [.ref (zQ σ110 r0 0), .ref r1] σ110 (fun r σ114 => zqi r (fun x115 => zW (d + 1) 50 69 [(0, .ref r0), (1, .ref r1), (2, .int x2), (3, .int x3), (4, .int x115), (5, .int (nI 0))] [] σ114 Q)))))))) : zW (d + 1) 50 14 [(0, .ref r0), (1, .ref r1), (2, .int x2), (3, .int x3)] [] σ Q := by
  refine zW_s rfl ?_
  refine zW_s rfl ?_
  have hp101 := h.1; replace h := h.2
  refine zW_p rfl hp101 ?_
  have hp102 := h.1; replace h := h.2
  refine zW_p rfl hp102 ?_
  refine zW_s rfl ?_
  refine zW_if (fun (c103 : (zI σ (zQ σ r0 1) 4) ≤ x3) => ?_) (fun (c103 : ¬ ((zI σ (zQ σ r0 1) 4) ≤ x3)) => ?_)
  · rw [if_pos c103] at h
    refine zW_s rfl ?_
    refine zW_c rfl hp101 (zM_m h ?_)
    intro r σ104 h
    replace h := zqv_e h
    obtain ⟨rfl, h⟩ := h
    refine zW_r rfl trivial ?_
    exact h
  · rw [if_neg c103] at h
    refine zW_s rfl ?_
    refine zW_p rfl hp101 ?_
    refine zW_s rfl ?_
    refine zW_if (fun (c105 : ¬ (zI σ r0 4) = 0) => ?_) (fun (c105 : ¬ (¬ (zI σ r0 4) = 0)) => ?_)
    · rw [if_pos c105] at h
      refine zW_s rfl ?_
      refine zW_c rfl hp101 (zM_m h ?_)
      intro r σ106 h
      replace h := zqv_e h
      obtain ⟨rfl, h⟩ := h
      refine zW_r rfl trivial ?_
      exact h
    · rw [if_neg c105] at h
      refine zW_s rfl ?_
      refine zW_p rfl hp101 ?_
      refine zW_s rfl ?_
      refine zW_p rfl hp101 ?_
      refine zW_p rfl hp102 ?_
      refine zW_s rfl ?_
      have hp107 := h.1; replace h := h.2
      have hp108 := h.1; replace h := h.2
      refine zW_p rfl ⟨hp107, hp108⟩ ?_
      have hp109 := h.1; replace h := h.2
      refine zW_c rfl hp109 (zM_m h ?_)
      intro r σ110 h
      replace h := zqv_e h
      obtain ⟨rfl, h⟩ := h
      refine zW_s rfl ?_
      refine zW_s rfl ?_
      refine zW_if (fun (c111 : x2 = 0) => ?_) (fun (c111 : ¬ (x2 = 0)) => ?_)
      · rw [if_pos c111] at h
        refine zW_s rfl ?_
        refine zW_s rfl ?_
        refine zW_s rfl ?_
        refine zW_s rfl ?_
        exact h
      · rw [if_neg c111] at h
        refine zW_s rfl ?_
        have hp112 := h.1; replace h := h.2
        refine zW_p rfl hp112 ?_
        refine zW_s rfl ?_
        have hp113 := h.1; replace h := h.2
        refine zW_c rfl hp113 (zM_m h ?_)
        intro r σ114 h
        replace h := zqi_e h
        obtain ⟨x115, rfl, h⟩ := h
        refine zW_s rfl ?_
        refine zW_s rfl ?_
        refine zW_s rfl ?_
        refine zW_s rfl ?_
        exact h
set_option maxHeartbeats 4000000 in
theorem b50_69 {d : Nat} {r0 : Nat} {r1 : Nat} {x2 : Int32} {x3 : Int32} {x4 : Int32} {x5 : Int32} {σ : zH} {Q : Option Value → zH → Prop} (h : (if x4 ≤ x5 then zW (d + 1) 50 14 [(0, .ref r0), (1, .ref r1), (2, .int x2), (3, .int (x3 + nI 1))] [] σ Q else (zK σ r0 = 5) ∧ (if ¬ (zI σ r0 4) = 0 then zW (d + 1) 50 14 [(0, .ref r0), (1, .ref r1), (2, .int x2), (3, .int (x3 + nI 1))] [] σ Q else (if x5 ≤ 0 then zW (d + 1) 50 104 [(0, .ref r0), (1, .ref r1), (2, .int x2), (3, .int x3), (4, .int x4), (5, .int x5)] [] σ Q else (zK σ (zQ σ r0 1) = 11) ∧ (zK σ (zQ σ (zQ σ r0 1) 0) = 21) ∧ (vp_in x3 (zN σ (zQ σ (zQ σ r0 1) 0))) ∧ (zK σ (zQ σ r0 0) = 7) ∧ zM d 59 [.ref (zQ σ r0 0), .long (zB σ (zQ σ (zQ σ r0 1) 0) x3.toNatClampNeg)] σ (fun r σ109 => zqv r (zW (d + 1) 50 104 [(0, .ref r0), (1, .ref r1), (2, .int x2), (3, .int x3), (4, .int x4), (5, .int x5)] [] σ109 Q)))))) : zW (d + 1) 50 69 [(0, .ref r0), (1, .ref r1), (2, .int x2), (3, .int x3), (4, .int x4), (5, .int x5)] [] σ Q := by
  refine zW_s rfl ?_
  refine zW_s rfl ?_
  refine zW_s rfl ?_
  refine zW_if (fun (c101 : x4 ≤ x5) => ?_) (fun (c101 : ¬ (x4 ≤ x5)) => ?_)
  · rw [if_pos c101] at h
    refine zW_s rfl ?_
    refine zW_s rfl ?_
    refine zW_k [0, 1, 2, 3] rfl ?_
    exact h
  · rw [if_neg c101] at h
    refine zW_s rfl ?_
    have hp102 := h.1; replace h := h.2
    refine zW_p rfl hp102 ?_
    refine zW_s rfl ?_
    refine zW_if (fun (c103 : ¬ (zI σ r0 4) = 0) => ?_) (fun (c103 : ¬ (¬ (zI σ r0 4) = 0)) => ?_)
    · rw [if_pos c103] at h
      refine zW_s rfl ?_
      refine zW_s rfl ?_
      refine zW_k [0, 1, 2, 3] rfl ?_
      exact h
    · rw [if_neg c103] at h
      refine zW_s rfl ?_
      refine zW_s rfl ?_
      refine zW_if (fun (c104 : x5 ≤ 0) => ?_) (fun (c104 : ¬ (x5 ≤ 0)) => ?_)
      · rw [if_pos c104] at h
        exact h
      · rw [if_neg c104] at h
        refine zW_s rfl ?_
        refine zW_p rfl hp102 ?_
        refine zW_s rfl ?_
        refine zW_p rfl hp102 ?_
        have hp105 := h.1; replace h := h.2
        refine zW_p rfl hp105 ?_
        refine zW_s rfl ?_
        have hp106 := h.1; replace h := h.2
        have hp107 := h.1; replace h := h.2
        refine zW_p rfl ⟨hp106, hp107⟩ ?_
        have hp108 := h.1; replace h := h.2
        refine zW_c rfl hp108 (zM_m h ?_)
        intro r σ109 h
        replace h := zqv_e h
        obtain ⟨rfl, h⟩ := h
        exact h
set_option maxHeartbeats 4000000 in
theorem b50_104 {d : Nat} {r0 : Nat} {r1 : Nat} {x2 : Int32} {x3 : Int32} {x4 : Int32} {x5 : Int32} {σ : zH} {Q : Option Value → zH → Prop} (h : (zK σ r0 = 5) ∧ (zK σ (zQ σ r0 0) = 7) ∧ zM d 69 [.ref (zQ σ r0 0), .ref r1, .int x5] σ (fun r σ103 => zqv r ((if x2 = 0 then (zK σ103 r0 = 5) ∧ (zK σ103 (zQ σ103 r0 1) = 11) ∧ (zK σ103 (zQ σ103 (zQ σ103 r0 1) 1) = 21) ∧ (vp_in x3 (zN σ103 (zQ σ103 (zQ σ103 r0 1) 1))) ∧ zW (d + 1) 50 144 [(0, .ref r0), (1, .ref r1), (2, .int x2), (3, .int x3), (4, .int x4), (5, .int x5)] [.long (zB σ103 (zQ σ103 (zQ σ103 r0 1) 1) x3.toNatClampNeg)] σ103 Q else (zK σ103 r0 = 5) ∧ (zK σ103 (zQ σ103 r0 1) = 11) ∧ (zK σ103 (zQ σ103 (zQ σ103 r0 1) 1) = 21) ∧ (vp_in x3 (zN σ103 (zQ σ103 (zQ σ103 r0 1) 1))) ∧ zM d 104 [.long (zB σ103 (zQ σ103 (zQ σ103 r0 1) 1) x3.toNatClampNeg), .int x5] σ103 (fun r σ113 => zql r (fun x114 => zW (d + 1) 50 144 [(0, .ref r0), (1, .ref r1), (2, .int x2), (3, .int x3), (4, .int x4), (5, .int x5)] [.long x114] σ113 Q)))))) : zW (d + 1) 50 104 [(0, .ref r0), (1, .ref r1), (2, .int x2), (3, .int x3), (4, .int x4), (5, .int x5)] [] σ Q := by
  refine zW_s rfl ?_
  have hp101 := h.1; replace h := h.2
  refine zW_p rfl hp101 ?_
  refine zW_s rfl ?_
  refine zW_s rfl ?_
  have hp102 := h.1; replace h := h.2
  refine zW_c rfl hp102 (zM_m h ?_)
  intro r σ103 h
  replace h := zqv_e h
  obtain ⟨rfl, h⟩ := h
  refine zW_s rfl ?_
  refine zW_s rfl ?_
  refine zW_if (fun (c104 : x2 = 0) => ?_) (fun (c104 : ¬ (x2 = 0)) => ?_)
  · rw [if_pos c104] at h
    refine zW_s rfl ?_
    have hp105 := h.1; replace h := h.2
    refine zW_p rfl hp105 ?_
    have hp106 := h.1; replace h := h.2
    refine zW_p rfl hp106 ?_
    refine zW_s rfl ?_
    have hp107 := h.1; replace h := h.2
    have hp108 := h.1; replace h := h.2
    refine zW_p rfl ⟨hp107, hp108⟩ ?_
    exact h
  · rw [if_neg c104] at h
    refine zW_s rfl ?_
    have hp109 := h.1; replace h := h.2
    refine zW_p rfl hp109 ?_
    have hp110 := h.1; replace h := h.2
    refine zW_p rfl hp110 ?_
    refine zW_s rfl ?_
    have hp111 := h.1; replace h := h.2
    have hp112 := h.1; replace h := h.2
    refine zW_p rfl ⟨hp111, hp112⟩ ?_
    refine zW_s rfl ?_
    refine zW_c rfl trivial (zM_m h ?_)
    intro r σ113 h
    replace h := zql_e h
    obtain ⟨x114, rfl, h⟩ := h
    refine zW_s rfl ?_
    exact h
set_option maxHeartbeats 4000000 in
theorem b50_144 {d : Nat} {r0 : Nat} {r1 : Nat} {x2 : Int32} {x3 : Int32} {x4 : Int32} {x5 : Int32} {v0 : Int64} {σ : zH} {Q : Option Value → zH → Prop} (h : (zK σ r0 = 5) ∧ (zK σ (zQ σ r0 0) = 7) ∧ zM d 60 [.ref (zQ σ r0 0)] σ (fun r σ103 => zql r (fun x104 => (zK σ103 (zQ σ r0 2) = 11) ∧ zM d 100 [.ref (zQ σ r0 2), .long x104, .long v0] σ103 (fun r σ106 => zqi r (fun x107 => (zK σ106 r0 = 5) ∧ zW (d + 1) 50 69 [(0, .ref r0), (1, .ref r1), (2, .int x2), (3, .int x3), (4, .int x4), (5, .int (x5 + nI 1))] [] (zsI σ106 r0 4 (if ¬ x107 = 0 then nI 0 else nI 1)) Q))))) : zW (d + 1) 50 144 [(0, .ref r0), (1, .ref r1), (2, .int x2), (3, .int x3), (4, .int x4), (5, .int x5)] [.long v0] σ Q := by
  refine zW_s rfl ?_
  refine zW_s rfl ?_
  refine zW_s rfl ?_
  have hp101 := h.1; replace h := h.2
  refine zW_p rfl hp101 ?_
  refine zW_s rfl ?_
  refine zW_p rfl hp101 ?_
  have hp102 := h.1; replace h := h.2
  refine zW_c rfl hp102 (zM_m h ?_)
  intro r σ103 h
  replace h := zql_e h
  obtain ⟨x104, rfl, h⟩ := h
  refine zW_s rfl ?_
  have hp105 := h.1; replace h := h.2
  refine zW_c rfl hp105 (zM_m h ?_)
  intro r σ106 h
  replace h := zqi_e h
  obtain ⟨x107, rfl, h⟩ := h
  refine zW_s rfl ?_
  have k : ∀ v : Int32, v = (if ¬ x107 = 0 then nI 0 else nI 1) → zW (d + 1) 50 171 [(0, .ref r0), (1, .ref r1), (2, .int x2), (3, .int x3), (4, .int x4), (5, .int x5), (6, .long v0)] [.int v, .ref r0] σ106 Q := by
    intro v hv
    subst hv
    have hp109 := h.1; replace h := h.2
    refine zW_p rfl ⟨hp109, zb01⟩ ?_
    refine zW_s rfl ?_
    refine zW_s rfl ?_
    refine zW_k [0, 1, 2, 3, 4, 5] rfl ?_
    exact h
  refine zW_if (fun (c108 : ¬ x107 = 0) => ?_) (fun (c108 : ¬ (¬ x107 = 0)) => ?_)
  · replace k := k _ (if_pos c108).symm
    refine zW_s rfl ?_
    exact k
  · replace k := k _ (if_neg c108).symm
    refine zW_s rfl ?_
    refine zW_s rfl ?_
    exact k
set_option maxHeartbeats 4000000 in
theorem b51 {d : Nat} {r0 : Nat} {σ : zH} {Q : Option Value → zH → Prop} (h : (zK σ r0 = 5) ∧ Q none (zsQ (zsQ σ r0 1 (zQ σ r0 2)) r0 2 (zQ σ r0 1))) : zM (d) 51 [.ref r0] σ Q := by
  unfold zM
  refine zW_s rfl ?_
  have hp101 := h.1; replace h := h.2
  refine zW_p rfl hp101 ?_
  refine zW_s rfl ?_
  refine zW_s rfl ?_
  refine zW_s rfl ?_
  refine zW_p rfl hp101 ?_
  refine zW_p rfl hp101 ?_
  refine zW_s rfl ?_
  refine zW_s rfl ?_
  refine zW_p rfl hp101 ?_
  refine zW_r rfl trivial ?_
  exact h
set_option maxHeartbeats 4000000 in
theorem b52 {d : Nat} {r0 : Nat} {r1 : Nat} {x2 : Int32} {x3 : Int32} {σ : zH} {Q : Option Value → zH → Prop} (h : (if x3 < (nI 4) then (zK σ r1 = 10) ∧ (zK σ (zQ σ r1 0) = 23 ∨ zK σ (zQ σ r1 0) = 24) ∧ (vp_in x2 (zN σ (zQ σ r1 0))) ∧ (zK σ r0 = 5) ∧ (zK σ (zQ σ r0 3) = 23 ∨ zK σ (zQ σ r0 3) = 24) ∧ (vp_in x3 (zN σ (zQ σ r0 3))) ∧ (zK σ (zS σ (zQ σ r0 3) x3.toNatClampNeg) = 11) ∧ zM d 99 [.ref (zS σ (zQ σ r0 3) x3.toNatClampNeg)] σ (fun r σ109 => zqv r ((zK σ109 r0 = 5) ∧ (zK σ109 (zQ σ109 r0 2) = 11) ∧ zM d 99 [.ref (zQ σ109 r0 2)] σ109 (fun r σ112 => zqv r (zW (d + 1) 52 37 [(0, .ref r0), (1, .ref r1), (2, .int x2), (3, .int x3), (4, .ref (zS σ (zQ σ r1 0) x2.toNatClampNeg)), (5, .ref (zS σ (zQ σ r0 3) x3.toNatClampNeg)), (6, .int (nI 0))] [] σ112 Q)))) else Q none σ)) : zM (d + 1) 52 [.ref r0, .ref r1, .int x2, .int x3] σ Q := by
  unfold zM
  refine zW_s rfl ?_
  refine zW_s rfl ?_
  refine zW_s rfl ?_
  refine zW_if (fun (c101 : x3 < (nI 4)) => ?_) (fun (c101 : ¬ (x3 < (nI 4))) => ?_)
  · rw [if_pos c101] at h
    refine zW_s rfl ?_
    have hp102 := h.1; replace h := h.2
    refine zW_p rfl hp102 ?_
    refine zW_s rfl ?_
    have hp103 := h.1; replace h := h.2
    have hp104 := h.1; replace h := h.2
    refine zW_p rfl ⟨hp103, hp104⟩ ?_
    refine zW_s rfl ?_
    refine zW_s rfl ?_
    have hp105 := h.1; replace h := h.2
    refine zW_p rfl hp105 ?_
    refine zW_s rfl ?_
    have hp106 := h.1; replace h := h.2
    have hp107 := h.1; replace h := h.2
    refine zW_p rfl ⟨hp106, hp107⟩ ?_
    refine zW_s rfl ?_
    refine zW_s rfl ?_
    have hp108 := h.1; replace h := h.2
    refine zW_c rfl hp108 (zM_m h ?_)
    intro r σ109 h
    replace h := zqv_e h
    obtain ⟨rfl, h⟩ := h
    refine zW_s rfl ?_
    have hp110 := h.1; replace h := h.2
    refine zW_p rfl hp110 ?_
    have hp111 := h.1; replace h := h.2
    refine zW_c rfl hp111 (zM_m h ?_)
    intro r σ112 h
    replace h := zqv_e h
    obtain ⟨rfl, h⟩ := h
    refine zW_s rfl ?_
    refine zW_s rfl ?_
    exact h
  · rw [if_neg c101] at h
    refine zW_r rfl trivial ?_
    exact h
set_option maxHeartbeats 4000000 in
theorem b52_37 {d : Nat} {r0 : Nat} {r1 : Nat} {x2 : Int32} {x3 : Int32} {r4 : Nat} {r5 : Nat} {x6 : Int32} {σ : zH} {Q : Option Value → zH → Prop} (h : (zK σ r0 = 5) ∧ (zK σ (zQ σ r0 1) = 11) ∧ (if (zI σ (zQ σ r0 1) 4) ≤ x6 then zM d 51 [.ref r0] σ (fun r σ104 => zqv r ((zK σ104 r4 = 6) ∧ (zK σ104 r0 = 5) ∧ zM d 49 [.ref r0, .ref r1, .int (x2 + (nI 1)), .int (zI σ104 r4 5), .int (x3 + (nI 1))] σ104 (fun r σ107 => zqv r ((zK σ107 r0 = 5) ∧ (zK σ107 r4 = 6) ∧ zM d 49 [.ref r0, .ref r1, .int (zI σ107 r4 5), .int (zI σ107 r4 6), .int (x3 + (nI 1))] (zsQ σ107 r0 1 r5) (fun r σ110 => zqv r (zW (d + 1) 52 190 [(0, .ref r0), (3, .int x3), (6, .ref (zQ σ107 r0 1)), (7, .int (nI 0))] [] σ110 Q)))))) else (zK σ (zQ σ (zQ σ r0 1) 0) = 21) ∧ (vp_in x6 (zN σ (zQ σ (zQ σ r0 1) 0))) ∧ (zK σ (zQ σ r0 0) = 7) ∧ zM d 59 [.ref (zQ σ r0 0), .long (zB σ (zQ σ (zQ σ r0 1) 0) x6.toNatClampNeg)] σ (fun r σ114 => zqv r ((zK σ114 r1 = 10) ∧ (zK σ114 r0 = 5) ∧ (zK σ114 r4 = 6) ∧ (zK σ114 (zQ σ114 r1 1) = 1) ∧ zM d 5 [.ref (zQ σ114 r1 1), .ref (zQ σ114 r0 0), .int (zI σ114 r4 7), .int (zI σ114 r4 8)] σ114 (fun r σ119 => zqi r (fun x120 => (if x120 = 0 then zW (d + 1) 52 103 [(0, .ref r0), (1, .ref r1), (2, .int x2), (3, .int x3), (4, .ref r4), (5, .ref r5), (6, .int x6)] [.ref r5] σ119 Q else (zK σ119 r0 = 5) ∧ zW (d + 1) 52 103 [(0, .ref r0), (1, .ref r1), (2, .int x2), (3, .int x3), (4, .ref r4), (5, .ref r5), (6, .int x6)] [.ref (zQ σ119 r0 2)] σ119 Q))))))) : zW (d + 1) 52 37 [(0, .ref r0), (1, .ref r1), (2, .int x2), (3, .int x3), (4, .ref r4), (5, .ref r5), (6, .int x6)] [] σ Q := by
  refine zW_s rfl ?_
  refine zW_s rfl ?_
  have hp101 := h.1; replace h := h.2
  refine zW_p rfl hp101 ?_
  have hp102 := h.1; replace h := h.2
  refine zW_p rfl hp102 ?_
  refine zW_s rfl ?_
  refine zW_if (fun (c103 : (zI σ (zQ σ r0 1) 4) ≤ x6) => ?_) (fun (c103 : ¬ ((zI σ (zQ σ r0 1) 4) ≤ x6)) => ?_)
  · rw [if_pos c103] at h
    refine zW_s rfl ?_
    refine zW_c rfl hp101 (zM_m h ?_)
    intro r σ104 h
    replace h := zqv_e h
    obtain ⟨rfl, h⟩ := h
    refine zW_s rfl ?_
    refine zW_s rfl ?_
    refine zW_s rfl ?_
    refine zW_s rfl ?_
    refine zW_s rfl ?_
    refine zW_s rfl ?_
    have hp105 := h.1; replace h := h.2
    refine zW_p rfl hp105 ?_
    refine zW_s rfl ?_
    refine zW_s rfl ?_
    refine zW_s rfl ?_
    have hp106 := h.1; replace h := h.2
    refine zW_c rfl hp106 (zM_m h ?_)
    intro r σ107 h
    replace h := zqv_e h
    obtain ⟨rfl, h⟩ := h
    refine zW_s rfl ?_
    have hp108 := h.1; replace h := h.2
    refine zW_p rfl hp108 ?_
    refine zW_s rfl ?_
    refine zW_s rfl ?_
    refine zW_s rfl ?_
    refine zW_p rfl hp108 ?_
    refine zW_s rfl ?_
    refine zW_s rfl ?_
    refine zW_s rfl ?_
    have hp109 := h.1; replace h := h.2
    refine zW_p rfl hp109 ?_
    refine zW_s rfl ?_
    refine zW_p rfl hp109 ?_
    refine zW_s rfl ?_
    refine zW_s rfl ?_
    refine zW_s rfl ?_
    refine zW_c rfl hp108 (zM_m h ?_)
    intro r σ110 h
    replace h := zqv_e h
    obtain ⟨rfl, h⟩ := h
    refine zW_s rfl ?_
    refine zW_s rfl ?_
    refine zW_k [0, 3, 6, 7] rfl ?_
    exact h
  · rw [if_neg c103] at h
    refine zW_s rfl ?_
    refine zW_p rfl hp101 ?_
    refine zW_s rfl ?_
    refine zW_p rfl hp101 ?_
    refine zW_p rfl hp102 ?_
    refine zW_s rfl ?_
    have hp111 := h.1; replace h := h.2
    have hp112 := h.1; replace h := h.2
    refine zW_p rfl ⟨hp111, hp112⟩ ?_
    have hp113 := h.1; replace h := h.2
    refine zW_c rfl hp113 (zM_m h ?_)
    intro r σ114 h
    replace h := zqv_e h
    obtain ⟨rfl, h⟩ := h
    refine zW_s rfl ?_
    have hp115 := h.1; replace h := h.2
    refine zW_p rfl hp115 ?_
    refine zW_s rfl ?_
    have hp116 := h.1; replace h := h.2
    refine zW_p rfl hp116 ?_
    refine zW_s rfl ?_
    have hp117 := h.1; replace h := h.2
    refine zW_p rfl hp117 ?_
    refine zW_s rfl ?_
    refine zW_p rfl hp117 ?_
    have hp118 := h.1; replace h := h.2
    refine zW_c rfl hp118 (zM_m h ?_)
    intro r σ119 h
    replace h := zqi_e h
    obtain ⟨x120, rfl, h⟩ := h
    refine zW_s rfl ?_
    refine zW_s rfl ?_
    refine zW_s rfl ?_
    refine zW_if (fun (c121 : x120 = 0) => ?_) (fun (c121 : ¬ (x120 = 0)) => ?_)
    · rw [if_pos c121] at h
      refine zW_s rfl ?_
      refine zW_k [0, 1, 2, 3, 4, 5, 6] rfl ?_
      exact h
    · rw [if_neg c121] at h
      refine zW_s rfl ?_
      have hp122 := h.1; replace h := h.2
      refine zW_p rfl hp122 ?_
      refine zW_s rfl ?_
      refine zW_k [0, 1, 2, 3, 4, 5, 6] rfl ?_
      exact h
set_option maxHeartbeats 4000000 in
theorem b52_190 {d : Nat} {r0 : Nat} {x3 : Int32} {r6 : Nat} {x7 : Int32} {σ : zH} {Q : Option Value → zH → Prop} (h : (zK σ r0 = 5) ∧ (zK σ (zQ σ r0 1) = 11) ∧ (if (zI σ (zQ σ r0 1) 4) ≤ x7 then zW (d + 1) 52 252 [(0, .ref r0), (3, .int x3), (6, .ref r6)] [] σ Q else (if ¬ (zI σ r0 4) = 0 then zW (d + 1) 52 252 [(0, .ref r0), (3, .int x3), (6, .ref r6)] [] σ Q else (zK σ (zQ σ (zQ σ r0 1) 0) = 21) ∧ (vp_in x7 (zN σ (zQ σ (zQ σ r0 1) 0))) ∧ (zK σ (zQ σ (zQ σ r0 1) 1) = 21) ∧ (vp_in x7 (zN σ (zQ σ (zQ σ r0 1) 1))) ∧ (zK σ r6 = 11) ∧ zM d 100 [.ref r6, .long (zB σ (zQ σ (zQ σ r0 1) 0) x7.toNatClampNeg), .long (zB σ (zQ σ (zQ σ r0 1) 1) x7.toNatClampNeg)] σ (fun r σ110 => zqi r (fun x111 => (zK σ110 r0 = 5) ∧ zW (d + 1) 52 190 [(0, .ref r0), (3, .int x3), (6, .ref r6), (7, .int (x7 + nI 1))] [] (zsI σ110 r0 4 (if ¬ x111 = 0 then nI 0 else nI 1)) Q))))) : zW (d + 1) 52 190 [(0, .ref r0), (3, .int x3), (6, .ref r6), (7, .int x7)] [] σ Q := by
  refine zW_s rfl ?_
  refine zW_s rfl ?_
  have hp101 := h.1; replace h := h.2
  refine zW_p rfl hp101 ?_
  have hp102 := h.1; replace h := h.2
  refine zW_p rfl hp102 ?_
  refine zW_s rfl ?_
  refine zW_if (fun (c103 : (zI σ (zQ σ r0 1) 4) ≤ x7) => ?_) (fun (c103 : ¬ ((zI σ (zQ σ r0 1) 4) ≤ x7)) => ?_)
  · rw [if_pos c103] at h
    refine zW_k [0, 1, 2] rfl ?_
    exact h
  · rw [if_neg c103] at h
    refine zW_s rfl ?_
    refine zW_p rfl hp101 ?_
    refine zW_s rfl ?_
    refine zW_if (fun (c104 : ¬ (zI σ r0 4) = 0) => ?_) (fun (c104 : ¬ (¬ (zI σ r0 4) = 0)) => ?_)
    · rw [if_pos c104] at h
      refine zW_k [0, 1, 2] rfl ?_
      exact h
    · rw [if_neg c104] at h
      refine zW_s rfl ?_
      refine zW_s rfl ?_
      refine zW_s rfl ?_
      refine zW_p rfl hp101 ?_
      refine zW_p rfl hp102 ?_
      refine zW_s rfl ?_
      have hp105 := h.1; replace h := h.2
      have hp106 := h.1; replace h := h.2
      refine zW_p rfl ⟨hp105, hp106⟩ ?_
      refine zW_s rfl ?_
      refine zW_p rfl hp101 ?_
      refine zW_p rfl hp102 ?_
      refine zW_s rfl ?_
      have hp107 := h.1; replace h := h.2
      have hp108 := h.1; replace h := h.2
      refine zW_p rfl ⟨hp107, hp108⟩ ?_
      have hp109 := h.1; replace h := h.2
      refine zW_c rfl hp109 (zM_m h ?_)
      intro r σ110 h
      replace h := zqi_e h
      obtain ⟨x111, rfl, h⟩ := h
      refine zW_s rfl ?_
      have k : ∀ v : Int32, v = (if ¬ x111 = 0 then nI 0 else nI 1) → zW (d + 1) 52 243 [(0, .ref r0), (3, .int x3), (6, .ref r6), (7, .int x7)] [.int v, .ref r0] σ110 Q := by
        intro v hv
        subst hv
        have hp113 := h.1; replace h := h.2
        refine zW_p rfl ⟨hp113, zb01⟩ ?_
        refine zW_s rfl ?_
        refine zW_s rfl ?_
        exact h
      refine zW_if (fun (c112 : ¬ x111 = 0) => ?_) (fun (c112 : ¬ (¬ x111 = 0)) => ?_)
      · replace k := k _ (if_pos c112).symm
        refine zW_s rfl ?_
        exact k
      · replace k := k _ (if_neg c112).symm
        refine zW_s rfl ?_
        refine zW_s rfl ?_
        exact k
set_option maxHeartbeats 4000000 in
theorem b52_103 {d : Nat} {r0 : Nat} {r1 : Nat} {x2 : Int32} {x3 : Int32} {r4 : Nat} {r5 : Nat} {x6 : Int32} {v0 : Nat} {σ : zH} {Q : Option Value → zH → Prop} (h : (zK σ r0 = 5) ∧ (zK σ (zQ σ r0 1) = 11) ∧ (zK σ (zQ σ (zQ σ r0 1) 0) = 21) ∧ (vp_in x6 (zN σ (zQ σ (zQ σ r0 1) 0))) ∧ (zK σ (zQ σ (zQ σ r0 1) 1) = 21) ∧ (vp_in x6 (zN σ (zQ σ (zQ σ r0 1) 1))) ∧ (zK σ v0 = 11) ∧ zM d 100 [.ref v0, .long (zB σ (zQ σ (zQ σ r0 1) 0) x6.toNatClampNeg), .long (zB σ (zQ σ (zQ σ r0 1) 1) x6.toNatClampNeg)] σ (fun r σ108 => zqi r (fun x109 => zW (d + 1) 52 37 [(0, .ref r0), (1, .ref r1), (2, .int x2), (3, .int x3), (4, .ref r4), (5, .ref r5), (6, .int (x6 + nI 1))] [] σ108 Q))) : zW (d + 1) 52 103 [(0, .ref r0), (1, .ref r1), (2, .int x2), (3, .int x3), (4, .ref r4), (5, .ref r5), (6, .int x6)] [.ref v0] σ Q := by
  refine zW_s rfl ?_
  refine zW_s rfl ?_
  refine zW_s rfl ?_
  have hp101 := h.1; replace h := h.2
  refine zW_p rfl hp101 ?_
  have hp102 := h.1; replace h := h.2
  refine zW_p rfl hp102 ?_
  refine zW_s rfl ?_
  have hp103 := h.1; replace h := h.2
  have hp104 := h.1; replace h := h.2
  refine zW_p rfl ⟨hp103, hp104⟩ ?_
  refine zW_s rfl ?_
  refine zW_p rfl hp101 ?_
  refine zW_p rfl hp102 ?_
  refine zW_s rfl ?_
  have hp105 := h.1; replace h := h.2
  have hp106 := h.1; replace h := h.2
  refine zW_p rfl ⟨hp105, hp106⟩ ?_
  have hp107 := h.1; replace h := h.2
  refine zW_c rfl hp107 (zM_m h ?_)
  intro r σ108 h
  replace h := zqi_e h
  obtain ⟨x109, rfl, h⟩ := h
  refine zW_s rfl ?_
  refine zW_s rfl ?_
  refine zW_s rfl ?_
  refine zW_k [0, 1, 2, 3, 4, 5, 6] rfl ?_
  exact h
set_option maxHeartbeats 4000000 in
theorem b52_252 {d : Nat} {r0 : Nat} {x3 : Int32} {r6 : Nat} {σ : zH} {Q : Option Value → zH → Prop} (h : (zK σ r0 = 5) ∧ (zK σ (zQ σ r0 3) = 23 ∧ zK σ (zQ σ r0 1) = 6 ∨ zK σ (zQ σ r0 3) = 24 ∧ zK σ (zQ σ r0 1) = 11) ∧ (vp_in x3 (zN σ (zQ σ r0 3))) ∧ Q none (zsQ (zsS σ (zQ σ r0 3) x3.toNatClampNeg (zQ σ r0 1)) r0 1 r6)) : zW (d + 1) 52 252 [(0, .ref r0), (3, .int x3), (6, .ref r6)] [] σ Q := by
  refine zW_s rfl ?_
  have hp101 := h.1; replace h := h.2
  refine zW_p rfl hp101 ?_
  refine zW_s rfl ?_
  refine zW_s rfl ?_
  refine zW_p rfl hp101 ?_
  have hp102 := h.1; replace h := h.2
  have hp103 := h.1; replace h := h.2
  refine zW_p rfl ⟨hp102, hp103⟩ ?_
  refine zW_s rfl ?_
  refine zW_s rfl ?_
  refine zW_p rfl hp101 ?_
  refine zW_r rfl trivial ?_
  exact h
