set_option maxHeartbeats 4000000 in
theorem b165 {d : Nat} {r0 : Nat} {σ : zH} {Q : Option Value → zH → Prop} (h : (zK σ r0 = 13) ∧ zM d 148 [.ref r0, .long (lN 508440638821)] σ (fun r σ102 => zqi r (fun x103 => (if x103 = 0 then (zK σ102 r0 = 13) ∧ zM d 148 [.ref r0, .long (lN 1937074548)] σ102 (fun r σ106 => zqi r (fun x107 => (if x107 = 0 then (zK σ106 r0 = 13) ∧ zM d 148 [.ref r0, .long (lN 109330211763570)] σ106 (fun r σ110 => zqi r (fun x111 => zW (d + 1) 165 43 [(0, .ref r0)] [.int (if x111 = 0 then (-1) else nI 2)] σ110 Q)) else zW (d + 1) 165 43 [(0, .ref r0)] [.int (nI 1)] σ106 Q))) else zW (d + 1) 165 43 [(0, .ref r0)] [.int (nI 0)] σ102 Q)))) : zM (d + 1) 165 [.ref r0] σ Q := by
  unfold zM
  refine zW_s rfl ?_
  refine zW_s rfl ?_
  have hp101 := h.1; replace h := h.2
  refine zW_c rfl hp101 (zM_m h ?_)
  intro r σ102 h
  replace h := zqi_e h
  obtain ⟨x103, rfl, h⟩ := h
  refine zW_s rfl ?_
  refine zW_if (fun (c104 : x103 = 0) => ?_) (fun (c104 : ¬ (x103 = 0)) => ?_)
  · rw [if_pos c104] at h
    refine zW_s rfl ?_
    refine zW_s rfl ?_
    have hp105 := h.1; replace h := h.2
    refine zW_c rfl hp105 (zM_m h ?_)
    intro r σ106 h
    replace h := zqi_e h
    obtain ⟨x107, rfl, h⟩ := h
    refine zW_s rfl ?_
    refine zW_if (fun (c108 : x107 = 0) => ?_) (fun (c108 : ¬ (x107 = 0)) => ?_)
    · rw [if_pos c108] at h
      refine zW_s rfl ?_
      refine zW_s rfl ?_
      have hp109 := h.1; replace h := h.2
      refine zW_c rfl hp109 (zM_m h ?_)
      intro r σ110 h
      replace h := zqi_e h
      obtain ⟨x111, rfl, h⟩ := h
      refine zW_s rfl ?_
      have k : ∀ v : Int32, v = (if x111 = 0 then (-1) else nI 2) → zW (d + 1) 165 43 [(0, .ref r0)] [.int v] σ110 Q := by
        intro v hv
        subst hv
        exact h
      refine zW_if (fun (c112 : x111 = 0) => ?_) (fun (c112 : ¬ (x111 = 0)) => ?_)
      · replace k := k _ (if_pos c112).symm
        refine zW_s rfl ?_
        exact k
      · replace k := k _ (if_neg c112).symm
        refine zW_s rfl ?_
        refine zW_s rfl ?_
        exact k
    · rw [if_neg c108] at h
      refine zW_s rfl ?_
      refine zW_s rfl ?_
      exact h
  · rw [if_neg c104] at h
    refine zW_s rfl ?_
    refine zW_s rfl ?_
    exact h
set_option maxHeartbeats 4000000 in
theorem b165_43 {d : Nat} {r0 : Nat} {v0 : Int32} {σ : zH} {Q : Option Value → zH → Prop} (h : (if 0 ≤ v0 then (zK σ r0 = 13) ∧ zM d 142 [.ref r0] σ (fun r σ103 => zqv r (Q (some (.int v0)) σ103)) else (zK σ r0 = 13) ∧ zM d 145 [.ref r0] σ (fun r σ105 => zqi r (fun x106 => (zK σ105 r0 = 13) ∧ zM d 161 [.ref r0, .int x106] σ105 (fun r σ108 => zqi r (fun x109 => Q (some (.int x109)) σ108)))))) : zW (d + 1) 165 43 [(0, .ref r0)] [.int v0] σ Q := by
  refine zW_s rfl ?_
  refine zW_s rfl ?_
  refine zW_s rfl ?_
  refine zW_if (fun (c101 : 0 ≤ v0) => ?_) (fun (c101 : ¬ (0 ≤ v0)) => ?_)
  · rw [if_pos c101] at h
    refine zW_s rfl ?_
    have hp102 := h.1; replace h := h.2
    refine zW_c rfl hp102 (zM_m h ?_)
    intro r σ103 h
    replace h := zqv_e h
    obtain ⟨rfl, h⟩ := h
    refine zW_s rfl ?_
    refine zW_r rfl trivial ?_
    exact h
  · rw [if_neg c101] at h
    refine zW_s rfl ?_
    refine zW_s rfl ?_
    have hp104 := h.1; replace h := h.2
    refine zW_c rfl hp104 (zM_m h ?_)
    intro r σ105 h
    replace h := zqi_e h
    obtain ⟨x106, rfl, h⟩ := h
    have hp107 := h.1; replace h := h.2
    refine zW_c rfl hp107 (zM_m h ?_)
    intro r σ108 h
    replace h := zqi_e h
    obtain ⟨x109, rfl, h⟩ := h
    refine zW_r rfl trivial ?_
    exact h
set_option maxHeartbeats 4000000 in
theorem b166 {d : Nat} {r0 : Nat} {σ : zH} {Q : Option Value → zH → Prop} (h : (zK σ r0 = 13) ∧ (if ¬ (zI σ r0 13) = (nI 2) then zM d 148 [.ref r0, .long (lN 1936292453)] σ (fun r σ103 => zqi r (fun x104 => (if x104 = 0 then (zK σ103 r0 = 13) ∧ zM d 148 [.ref r0, .long (lN 30064)] σ103 (fun r σ107 => zqi r (fun x108 => (if x108 = 0 then (zK σ107 r0 = 13) ∧ zM d 148 [.ref r0, .long (lN 512852587109)] σ107 (fun r σ111 => zqi r (fun x112 => (if x112 = 0 then (zK σ111 r0 = 13) ∧ zM d 148 [.ref r0, .long (lN 1667330660)] σ111 (fun r σ115 => zqi r (fun x116 => (if x116 = 0 then (zK σ115 r0 = 13) ∧ zM d 148 [.ref r0, .long (lN 508440638821)] σ115 (fun r σ119 => zqi r (fun x120 => (if x120 = 0 then (zK σ119 r0 = 13) ∧ zM d 148 [.ref r0, .long (lN 1937074548)] σ119 (fun r σ123 => zqi r (fun x124 => (if x124 = 0 then (zK σ123 r0 = 13) ∧ zM d 148 [.ref r0, .long (lN 109330211763570)] σ123 (fun r σ127 => zqi r (fun x128 => (if x128 = 0 then (zK σ127 r0 = 13) ∧ zM d 148 [.ref r0, .long (lN 1717658469)] σ127 (fun r σ131 => zqi r (fun x132 => zW (d + 1) 166 148 [(0, .ref r0)] [.int (if x132 = 0 then (-1) else nI 15)] σ131 Q)) else zW (d + 1) 166 148 [(0, .ref r0)] [.int (nI 14)] σ127 Q))) else zW (d + 1) 166 148 [(0, .ref r0)] [.int (nI 13)] σ123 Q))) else zW (d + 1) 166 148 [(0, .ref r0)] [.int (nI 12)] σ119 Q))) else zW (d + 1) 166 148 [(0, .ref r0)] [.int (nI 11)] σ115 Q))) else zW (d + 1) 166 148 [(0, .ref r0)] [.int (nI 10)] σ111 Q))) else zW (d + 1) 166 148 [(0, .ref r0)] [.int (nI 9)] σ107 Q))) else zW (d + 1) 166 148 [(0, .ref r0)] [.int (nI 8)] σ103 Q))) else zM d 142 [.ref r0] σ (fun r σ134 => zqv r ((zK σ134 r0 = 13) ∧ zM d 160 [.ref r0, .int (nI 7), .int (zI σ r0 15), .int (-1), .int (nI 0)] σ134 (fun r σ136 => zqi r (fun x137 => Q (some (.int x137)) σ136)))))) : zM (d + 1) 166 [.ref r0] σ Q := by
  unfold zM
  refine zW_s rfl ?_
  have hp101 := h.1; replace h := h.2
  refine zW_p rfl hp101 ?_
  refine zW_s rfl ?_
  refine zW_s rfl ?_
  refine zW_if (fun (c102 : ¬ (zI σ r0 13) = (nI 2)) => ?_) (fun (c102 : ¬ (¬ (zI σ r0 13) = (nI 2))) => ?_)
  · rw [if_pos c102] at h
    refine zW_s rfl ?_
    refine zW_s rfl ?_
    refine zW_c rfl hp101 (zM_m h ?_)
    intro r σ103 h
    replace h := zqi_e h
    obtain ⟨x104, rfl, h⟩ := h
    refine zW_s rfl ?_
    refine zW_if (fun (c105 : x104 = 0) => ?_) (fun (c105 : ¬ (x104 = 0)) => ?_)
    · rw [if_pos c105] at h
      refine zW_s rfl ?_
      refine zW_s rfl ?_
      have hp106 := h.1; replace h := h.2
      refine zW_c rfl hp106 (zM_m h ?_)
      intro r σ107 h
      replace h := zqi_e h
      obtain ⟨x108, rfl, h⟩ := h
      refine zW_s rfl ?_
      refine zW_if (fun (c109 : x108 = 0) => ?_) (fun (c109 : ¬ (x108 = 0)) => ?_)
      · rw [if_pos c109] at h
        refine zW_s rfl ?_
        refine zW_s rfl ?_
        have hp110 := h.1; replace h := h.2
        refine zW_c rfl hp110 (zM_m h ?_)
        intro r σ111 h
        replace h := zqi_e h
        obtain ⟨x112, rfl, h⟩ := h
        refine zW_s rfl ?_
        refine zW_if (fun (c113 : x112 = 0) => ?_) (fun (c113 : ¬ (x112 = 0)) => ?_)
        · rw [if_pos c113] at h
          refine zW_s rfl ?_
          refine zW_s rfl ?_
          have hp114 := h.1; replace h := h.2
          refine zW_c rfl hp114 (zM_m h ?_)
          intro r σ115 h
          replace h := zqi_e h
          obtain ⟨x116, rfl, h⟩ := h
          refine zW_s rfl ?_
          refine zW_if (fun (c117 : x116 = 0) => ?_) (fun (c117 : ¬ (x116 = 0)) => ?_)
          · rw [if_pos c117] at h
            refine zW_s rfl ?_
            refine zW_s rfl ?_
            have hp118 := h.1; replace h := h.2
            refine zW_c rfl hp118 (zM_m h ?_)
            intro r σ119 h
            replace h := zqi_e h
            obtain ⟨x120, rfl, h⟩ := h
            refine zW_s rfl ?_
            refine zW_if (fun (c121 : x120 = 0) => ?_) (fun (c121 : ¬ (x120 = 0)) => ?_)
            · rw [if_pos c121] at h
              refine zW_s rfl ?_
              refine zW_s rfl ?_
              have hp122 := h.1; replace h := h.2
              refine zW_c rfl hp122 (zM_m h ?_)
              intro r σ123 h
              replace h := zqi_e h
              obtain ⟨x124, rfl, h⟩ := h
              refine zW_s rfl ?_
              refine zW_if (fun (c125 : x124 = 0) => ?_) (fun (c125 : ¬ (x124 = 0)) => ?_)
              · rw [if_pos c125] at h
                refine zW_s rfl ?_
                refine zW_s rfl ?_
                have hp126 := h.1; replace h := h.2
                refine zW_c rfl hp126 (zM_m h ?_)
                intro r σ127 h
                replace h := zqi_e h
                obtain ⟨x128, rfl, h⟩ := h
                refine zW_s rfl ?_
                refine zW_if (fun (c129 : x128 = 0) => ?_) (fun (c129 : ¬ (x128 = 0)) => ?_)
                · rw [if_pos c129] at h
                  refine zW_s rfl ?_
                  refine zW_s rfl ?_
                  have hp130 := h.1; replace h := h.2
                  refine zW_c rfl hp130 (zM_m h ?_)
                  intro r σ131 h
                  replace h := zqi_e h
                  obtain ⟨x132, rfl, h⟩ := h
                  refine zW_s rfl ?_
                  have k : ∀ v : Int32, v = (if x132 = 0 then (-1) else nI 15) → zW (d + 1) 166 148 [(0, .ref r0)] [.int v] σ131 Q := by
                    intro v hv
                    subst hv
                    exact h
                  refine zW_if (fun (c133 : x132 = 0) => ?_) (fun (c133 : ¬ (x132 = 0)) => ?_)
                  · replace k := k _ (if_pos c133).symm
                    refine zW_s rfl ?_
                    exact k
                  · replace k := k _ (if_neg c133).symm
                    refine zW_s rfl ?_
                    refine zW_s rfl ?_
                    exact k
                · rw [if_neg c129] at h
                  refine zW_s rfl ?_
                  refine zW_s rfl ?_
                  exact h
              · rw [if_neg c125] at h
                refine zW_s rfl ?_
                refine zW_s rfl ?_
                exact h
            · rw [if_neg c121] at h
              refine zW_s rfl ?_
              refine zW_s rfl ?_
              exact h
          · rw [if_neg c117] at h
            refine zW_s rfl ?_
            refine zW_s rfl ?_
            exact h
        · rw [if_neg c113] at h
          refine zW_s rfl ?_
          refine zW_s rfl ?_
          exact h
      · rw [if_neg c109] at h
        refine zW_s rfl ?_
        refine zW_s rfl ?_
        exact h
    · rw [if_neg c105] at h
      refine zW_s rfl ?_
      refine zW_s rfl ?_
      exact h
  · rw [if_neg c102] at h
    refine zW_s rfl ?_
    refine zW_p rfl hp101 ?_
    refine zW_s rfl ?_
    refine zW_s rfl ?_
    refine zW_c rfl hp101 (zM_m h ?_)
    intro r σ134 h
    replace h := zqv_e h
    obtain ⟨rfl, h⟩ := h
    refine zW_s rfl ?_
    refine zW_s rfl ?_
    refine zW_s rfl ?_
    refine zW_s rfl ?_
    refine zW_s rfl ?_
    have hp135 := h.1; replace h := h.2
    refine zW_c rfl hp135 (zM_m h ?_)
    intro r σ136 h
    replace h := zqi_e h
    obtain ⟨x137, rfl, h⟩ := h
    refine zW_r rfl trivial ?_
    exact h
set_option maxHeartbeats 4000000 in
theorem b166_148 {d : Nat} {r0 : Nat} {v0 : Int32} {σ : zH} {Q : Option Value → zH → Prop} (h : (if 0 ≤ v0 then (zK σ r0 = 13) ∧ zM d 142 [.ref r0] σ (fun r σ103 => zqv r ((zK σ103 r0 = 13) ∧ zM d 150 [.ref r0] σ103 (fun r σ105 => zqi r (fun x106 => (if ¬ x106 = 0 then (zK σ105 r0 = 13) ∧ (if (nI 11) ≤ v0 then zM d 151 [.ref r0, .int (nI 1), .int (nI 9)] σ105 (fun r σ110 => zqi r (fun x111 => (if x111 = 0 then Q (some (.int (-1))) σ110 else (zK σ110 r0 = 13) ∧ zM d 160 [.ref r0, .int v0, .int (zI σ105 r0 19), .int (zI σ110 r0 20), .int (nI 0)] σ110 (fun r σ114 => zqi r (fun x115 => Q (some (.int x115)) σ114))))) else zM d 160 [.ref r0, .int v0, .int (zI σ105 r0 19), .int (-1), .int (nI 0)] σ105 (fun r σ116 => zqi r (fun x117 => Q (some (.int x117)) σ116))) else Q (some (.int (-1))) σ105))))) else (zK σ r0 = 13) ∧ zM d 145 [.ref r0] σ (fun r σ119 => zqi r (fun x120 => (zK σ119 r0 = 13) ∧ zM d 161 [.ref r0, .int x120] σ119 (fun r σ122 => zqi r (fun x123 => Q (some (.int x123)) σ122)))))) : zW (d + 1) 166 148 [(0, .ref r0)] [.int v0] σ Q := by
  refine zW_s rfl ?_
  refine zW_s rfl ?_
  refine zW_s rfl ?_
  refine zW_if (fun (c101 : 0 ≤ v0) => ?_) (fun (c101 : ¬ (0 ≤ v0)) => ?_)
  · rw [if_pos c101] at h
    refine zW_s rfl ?_
    have hp102 := h.1; replace h := h.2
    refine zW_c rfl hp102 (zM_m h ?_)
    intro r σ103 h
    replace h := zqv_e h
    obtain ⟨rfl, h⟩ := h
    refine zW_s rfl ?_
    have hp104 := h.1; replace h := h.2
    refine zW_c rfl hp104 (zM_m h ?_)
    intro r σ105 h
    replace h := zqi_e h
    obtain ⟨x106, rfl, h⟩ := h
    refine zW_s rfl ?_
    refine zW_if (fun (c107 : ¬ x106 = 0) => ?_) (fun (c107 : ¬ (¬ x106 = 0)) => ?_)
    · rw [if_pos c107] at h
      refine zW_s rfl ?_
      have hp108 := h.1; replace h := h.2
      refine zW_p rfl hp108 ?_
      refine zW_s rfl ?_
      refine zW_s rfl ?_
      refine zW_s rfl ?_
      refine zW_s rfl ?_
      refine zW_if (fun (c109 : (nI 11) ≤ v0) => ?_) (fun (c109 : ¬ ((nI 11) ≤ v0)) => ?_)
      · rw [if_pos c109] at h
        refine zW_s rfl ?_
        refine zW_s rfl ?_
        refine zW_s rfl ?_
        refine zW_c rfl hp108 (zM_m h ?_)
        intro r σ110 h
        replace h := zqi_e h
        obtain ⟨x111, rfl, h⟩ := h
        refine zW_s rfl ?_
        refine zW_if (fun (c112 : x111 = 0) => ?_) (fun (c112 : ¬ (x111 = 0)) => ?_)
        · rw [if_pos c112] at h
          refine zW_s rfl ?_
          refine zW_r rfl trivial ?_
          exact h
        · rw [if_neg c112] at h
          refine zW_s rfl ?_
          refine zW_s rfl ?_
          refine zW_s rfl ?_
          refine zW_s rfl ?_
          have hp113 := h.1; replace h := h.2
          refine zW_p rfl hp113 ?_
          refine zW_s rfl ?_
          refine zW_c rfl hp113 (zM_m h ?_)
          intro r σ114 h
          replace h := zqi_e h
          obtain ⟨x115, rfl, h⟩ := h
          refine zW_s rfl ?_
          refine zW_r rfl trivial ?_
          exact h
      · rw [if_neg c109] at h
        refine zW_s rfl ?_
        refine zW_s rfl ?_
        refine zW_s rfl ?_
        refine zW_s rfl ?_
        refine zW_s rfl ?_
        refine zW_c rfl hp108 (zM_m h ?_)
        intro r σ116 h
        replace h := zqi_e h
        obtain ⟨x117, rfl, h⟩ := h
        refine zW_r rfl trivial ?_
        exact h
    · rw [if_neg c107] at h
      refine zW_s rfl ?_
      refine zW_r rfl trivial ?_
      exact h
  · rw [if_neg c101] at h
    refine zW_s rfl ?_
    refine zW_s rfl ?_
    have hp118 := h.1; replace h := h.2
    refine zW_c rfl hp118 (zM_m h ?_)
    intro r σ119 h
    replace h := zqi_e h
    obtain ⟨x120, rfl, h⟩ := h
    have hp121 := h.1; replace h := h.2
    refine zW_c rfl hp121 (zM_m h ?_)
    intro r σ122 h
    replace h := zqi_e h
    obtain ⟨x123, rfl, h⟩ := h
    refine zW_r rfl trivial ?_
    exact h
set_option maxHeartbeats 4000000 in
theorem b167 {d : Nat} {r0 : Nat} {σ : zH} {Q : Option Value → zH → Prop} (h : (zK σ r0 = 13) ∧ zM d 142 [.ref r0] (zsI (zsI (zsI (zsI (zsI (zsI (zsI σ r0 0 (nI 0)) r0 3 (zI (zsI σ r0 0 (nI 0)) r0 2)) r0 2 (nI 0)) r0 4 (nI 0)) r0 16 (nI 0)) r0 36 ((nI 800) * ((nI 5) - (zI (zsI (zsI (zsI (zsI (zsI σ r0 0 (nI 0)) r0 3 (zI (zsI σ r0 0 (nI 0)) r0 2)) r0 2 (nI 0)) r0 4 (nI 0)) r0 16 (nI 0)) r0 37)))) r0 39 (nI 0)) (fun r σ102 => zqv r ((zK σ102 r0 = 13) ∧ zM d 162 [.ref r0] σ102 (fun r σ104 => zqi r (fun x105 => (if x105 < 0 then zW (d + 1) 167 78 [(0, .ref r0), (1, .int ((nI 5) - (zI (zsI (zsI (zsI (zsI (zsI σ r0 0 (nI 0)) r0 3 (zI (zsI σ r0 0 (nI 0)) r0 2)) r0 2 (nI 0)) r0 4 (nI 0)) r0 16 (nI 0)) r0 37))), (2, .int x105)] [] σ104 Q else (zK σ104 r0 = 13) ∧ (if (zI σ104 r0 13) = 0 then zW (d + 1) 167 78 [(0, .ref r0), (1, .int ((nI 5) - (zI (zsI (zsI (zsI (zsI (zsI σ r0 0 (nI 0)) r0 3 (zI (zsI σ r0 0 (nI 0)) r0 2)) r0 2 (nI 0)) r0 4 (nI 0)) r0 16 (nI 0)) r0 37))), (2, .int x105)] [] σ104 Q else zM d 145 [.ref r0] σ104 (fun r σ109 => zqi r (fun x110 => (zK σ109 r0 = 13) ∧ zM d 161 [.ref r0, .int x110] σ109 (fun r σ112 => zqi r (fun x113 => zW (d + 1) 167 78 [(0, .ref r0), (1, .int ((nI 5) - (zI (zsI (zsI (zsI (zsI (zsI σ r0 0 (nI 0)) r0 3 (zI (zsI σ r0 0 (nI 0)) r0 2)) r0 2 (nI 0)) r0 4 (nI 0)) r0 16 (nI 0)) r0 37))), (2, .int x113)] [] σ112 Q))))))))))) : zM (d + 1) 167 [.ref r0] σ Q := by
  unfold zM
  refine zW_s rfl ?_
  refine zW_s rfl ?_
  have hp101 := h.1; replace h := h.2
  refine zW_p rfl hp101 ?_
  refine zW_s rfl ?_
  refine zW_s rfl ?_
  refine zW_p rfl hp101 ?_
  refine zW_p rfl hp101 ?_
  refine zW_s rfl ?_
  refine zW_s rfl ?_
  refine zW_p rfl hp101 ?_
  refine zW_s rfl ?_
  refine zW_s rfl ?_
  refine zW_p rfl hp101 ?_
  refine zW_s rfl ?_
  refine zW_s rfl ?_
  refine zW_p rfl hp101 ?_
  refine zW_s rfl ?_
  refine zW_s rfl ?_
  refine zW_p rfl hp101 ?_
  refine zW_s rfl ?_
  refine zW_s rfl ?_
  refine zW_s rfl ?_
  refine zW_s rfl ?_
  refine zW_s rfl ?_
  refine zW_s rfl ?_
  refine zW_p rfl hp101 ?_
  refine zW_s rfl ?_
  refine zW_s rfl ?_
  refine zW_p rfl hp101 ?_
  refine zW_s rfl ?_
  refine zW_c rfl hp101 (zM_m h ?_)
  intro r σ102 h
  replace h := zqv_e h
  obtain ⟨rfl, h⟩ := h
  refine zW_s rfl ?_
  have hp103 := h.1; replace h := h.2
  refine zW_c rfl hp103 (zM_m h ?_)
  intro r σ104 h
  replace h := zqi_e h
  obtain ⟨x105, rfl, h⟩ := h
  refine zW_s rfl ?_
  refine zW_s rfl ?_
  refine zW_s rfl ?_
  refine zW_if (fun (c106 : x105 < 0) => ?_) (fun (c106 : ¬ (x105 < 0)) => ?_)
  · rw [if_pos c106] at h
    exact h
  · rw [if_neg c106] at h
    refine zW_s rfl ?_
    have hp107 := h.1; replace h := h.2
    refine zW_p rfl hp107 ?_
    refine zW_s rfl ?_
    refine zW_if (fun (c108 : (zI σ104 r0 13) = 0) => ?_) (fun (c108 : ¬ ((zI σ104 r0 13) = 0)) => ?_)
    · rw [if_pos c108] at h
      exact h
    · rw [if_neg c108] at h
      refine zW_s rfl ?_
      refine zW_s rfl ?_
      refine zW_c rfl hp107 (zM_m h ?_)
      intro r σ109 h
      replace h := zqi_e h
      obtain ⟨x110, rfl, h⟩ := h
      have hp111 := h.1; replace h := h.2
      refine zW_c rfl hp111 (zM_m h ?_)
      intro r σ112 h
      replace h := zqi_e h
      obtain ⟨x113, rfl, h⟩ := h
      refine zW_s rfl ?_
      exact h
set_option maxHeartbeats 4000000 in
theorem b167_78 {d : Nat} {r0 : Nat} {x1 : Int32} {x2 : Int32} {σ : zH} {Q : Option Value → zH → Prop} (h : (if 0 ≤ x2 then (zK σ r0 = 13) ∧ Q (some (.int (nI 0))) (zsI (zsI σ r0 37 x1) r0 38 x2) else (zK σ r0 = 13) ∧ Q (some (.int ((-1) - (zI σ r0 17)))) σ)) : zW (d + 1) 167 78 [(0, .ref r0), (1, .int x1), (2, .int x2)] [] σ Q := by
  refine zW_s rfl ?_
  refine zW_s rfl ?_
  refine zW_if (fun (c101 : 0 ≤ x2) => ?_) (fun (c101 : ¬ (0 ≤ x2)) => ?_)
  · rw [if_pos c101] at h
    refine zW_s rfl ?_
    refine zW_s rfl ?_
    have hp102 := h.1; replace h := h.2
    refine zW_p rfl hp102 ?_
    refine zW_s rfl ?_
    refine zW_s rfl ?_
    refine zW_p rfl hp102 ?_
    refine zW_s rfl ?_
    refine zW_r rfl trivial ?_
    exact h
  · rw [if_neg c101] at h
    refine zW_s rfl ?_
    refine zW_s rfl ?_
    have hp103 := h.1; replace h := h.2
    refine zW_p rfl hp103 ?_
    refine zW_s rfl ?_
    refine zW_r rfl trivial ?_
    exact h
set_option maxHeartbeats 4000000 in
theorem b168 {d : Nat} {r0 : Nat} {σ : zH} {Q : Option Value → zH → Prop} (h : (zK σ r0 = 13) ∧ Q (some (.int (zI (zsI σ r0 0 (nI 0)) r0 16))) (zsI σ r0 0 (nI 0))) : zM (d) 168 [.ref r0] σ Q := by
  unfold zM
  refine zW_s rfl ?_
  refine zW_s rfl ?_
  have hp101 := h.1; replace h := h.2
  refine zW_p rfl hp101 ?_
  refine zW_s rfl ?_
  refine zW_p rfl hp101 ?_
  refine zW_r rfl trivial ?_
  exact h
set_option maxHeartbeats 4000000 in
theorem b169 {d : Nat} {r0 : Nat} {x1 : Int32} {x2 : Int32} {σ : zH} {Q : Option Value → zH → Prop} (h : (if ¬ x2 = 0 then (if ¬ x2 = (nI 1) then (zK σ r0 = 13) ∧ (zK σ (zQ σ r0 8) = 20) ∧ (vp_in x1 (zN σ (zQ σ r0 8))) ∧ Q (some (.int (zA σ (zQ σ r0 8) x1.toNatClampNeg))) σ else (zK σ r0 = 13) ∧ (zK σ (zQ σ r0 7) = 20) ∧ (vp_in x1 (zN σ (zQ σ r0 7))) ∧ Q (some (.int (zA σ (zQ σ r0 7) x1.toNatClampNeg))) σ) else (zK σ r0 = 13) ∧ (zK σ (zQ σ r0 6) = 20) ∧ (vp_in x1 (zN σ (zQ σ r0 6))) ∧ Q (some (.int (zA σ (zQ σ r0 6) x1.toNatClampNeg))) σ)) : zM (d) 169 [.ref r0, .int x1, .int x2] σ Q := by
  unfold zM
  refine zW_s rfl ?_
  refine zW_s rfl ?_
  refine zW_if (fun (c101 : ¬ x2 = 0) => ?_) (fun (c101 : ¬ (¬ x2 = 0)) => ?_)
  · rw [if_pos c101] at h
    refine zW_s rfl ?_
    refine zW_s rfl ?_
    refine zW_s rfl ?_
    refine zW_if (fun (c102 : ¬ x2 = (nI 1)) => ?_) (fun (c102 : ¬ (¬ x2 = (nI 1))) => ?_)
    · rw [if_pos c102] at h
      refine zW_s rfl ?_
      have hp103 := h.1; replace h := h.2
      refine zW_p rfl hp103 ?_
      refine zW_s rfl ?_
      have hp104 := h.1; replace h := h.2
      have hp105 := h.1; replace h := h.2
      refine zW_p rfl ⟨hp104, hp105⟩ ?_
      refine zW_r rfl trivial ?_
      exact h
    · rw [if_neg c102] at h
      refine zW_s rfl ?_
      have hp106 := h.1; replace h := h.2
      refine zW_p rfl hp106 ?_
      refine zW_s rfl ?_
      have hp107 := h.1; replace h := h.2
      have hp108 := h.1; replace h := h.2
      refine zW_p rfl ⟨hp107, hp108⟩ ?_
      refine zW_s rfl ?_
      refine zW_r rfl trivial ?_
      exact h
  · rw [if_neg c101] at h
    refine zW_s rfl ?_
    have hp109 := h.1; replace h := h.2
    refine zW_p rfl hp109 ?_
    refine zW_s rfl ?_
    have hp110 := h.1; replace h := h.2
    have hp111 := h.1; replace h := h.2
    refine zW_p rfl ⟨hp110, hp111⟩ ?_
    refine zW_s rfl ?_
    refine zW_r rfl trivial ?_
    exact h
set_option maxHeartbeats 4000000 in
theorem b170 {d : Nat} {r0 : Nat} {x1 : Int32} {x2 : Int32} {σ : zH} {Q : Option Value → zH → Prop} (h : (zK σ r0 = 13) ∧ (zK σ (zQ σ r0 10) = 20) ∧ (vp_in (((nI 10) * x1) + x2) (zN σ (zQ σ r0 10))) ∧ Q (some (.int ((zA σ (zQ σ r0 10) (((nI 10) * x1) + x2).toNatClampNeg) &&& (nI 15)))) σ) : zM (d) 170 [.ref r0, .int x1, .int x2] σ Q := by
  unfold zM
  refine zW_s rfl ?_
  have hp101 := h.1; replace h := h.2
  refine zW_p rfl hp101 ?_
  refine zW_s rfl ?_
  refine zW_s rfl ?_
  refine zW_s rfl ?_
  refine zW_s rfl ?_
  refine zW_s rfl ?_
  have hp102 := h.1; replace h := h.2
  have hp103 := h.1; replace h := h.2
  refine zW_p rfl ⟨hp102, hp103⟩ ?_
  refine zW_s rfl ?_
  refine zW_s rfl ?_
  refine zW_r rfl trivial ?_
  exact h
set_option maxHeartbeats 4000000 in
theorem b171 {d : Nat} {r0 : Nat} {x1 : Int32} {σ : zH} {Q : Option Value → zH → Prop} (h : (zK σ r0 = 13) ∧ (zK σ (zQ σ r0 33) = 20) ∧ (vp_in x1 (zN σ (zQ σ r0 33))) ∧ (zK σ (zQ σ r0 34) = 20) ∧ (vp_in x1 (zN σ (zQ σ r0 34))) ∧ (zK σ (zQ σ r0 32) = 20) ∧ (vp_in x1 (zN σ (zQ σ r0 32))) ∧ (if (zA σ (zQ σ r0 32) x1.toNatClampNeg) = nI 7 then Q (some (.int (zA σ (zQ σ r0 33) x1.toNatClampNeg))) σ else (if (zA σ (zQ σ r0 32) x1.toNatClampNeg) = nI 8 then (zK σ (zQ σ r0 11) = 20) ∧ (vp_in (zA σ (zQ σ r0 33) x1.toNatClampNeg) (zN σ (zQ σ r0 11))) ∧ Q (some (.int (zA σ (zQ σ r0 11) (zA σ (zQ σ r0 33) x1.toNatClampNeg).toNatClampNeg))) σ else (if (zA σ (zQ σ r0 32) x1.toNatClampNeg) = nI 9 then zW (d + 1) 171 67 [(0, .ref r0), (2, .int (zA σ (zQ σ r0 33) x1.toNatClampNeg)), (4, .int (nI 0)), (5, .int (nI 0))] [] σ Q else (if (zA σ (zQ σ r0 32) x1.toNatClampNeg) = nI 10 then zW (d + 1) 171 109 [(0, .ref r0), (2, .int (zA σ (zQ σ r0 33) x1.toNatClampNeg)), (4, .int (nI 0))] [] σ Q else (zK σ (zQ σ r0 11) = 20) ∧ (vp_in (zA σ (zQ σ r0 33) x1.toNatClampNeg) (zN σ (zQ σ r0 11))) ∧ (if ((zA σ (zQ σ r0 34) x1.toNatClampNeg) - (nI 1)) < (zA σ (zQ σ r0 11) (zA σ (zQ σ r0 33) x1.toNatClampNeg).toNatClampNeg) then (if ¬ (zA σ (zQ σ r0 32) x1.toNatClampNeg) = (nI 11) then (if ¬ (zA σ (zQ σ r0 32) x1.toNatClampNeg) = (nI 15) then zM d 170 [.ref r0, .int (zA σ (zQ σ r0 33) x1.toNatClampNeg), .int ((zA σ (zQ σ r0 34) x1.toNatClampNeg) - (nI 1))] σ (fun r σ119 => zqi r (fun x120 => (zK σ119 r0 = 13) ∧ (zK σ119 (zQ σ119 r0 32) = 20) ∧ (vp_in x1 (zN σ119 (zQ σ119 r0 32))) ∧ zM d 169 [.ref r0, .int x120, .int ((zA σ119 (zQ σ119 r0 32) x1.toNatClampNeg) - (nI 12))] σ119 (fun r σ124 => zqi r (fun x125 => Q (some (.int x125)) σ124)))) else (zK σ (zQ σ r0 10) = 20) ∧ (vp_in (((nI 10) * (zA σ (zQ σ r0 33) x1.toNatClampNeg)) + ((zA σ (zQ σ r0 34) x1.toNatClampNeg) - (nI 1))) (zN σ (zQ σ r0 10))) ∧ Q (some (.int ((zA σ (zQ σ r0 10) (((nI 10) * (zA σ (zQ σ r0 33) x1.toNatClampNeg)) + ((zA σ (zQ σ r0 34) x1.toNatClampNeg) - (nI 1))).toNatClampNeg) >>> ((nI 4) &&& 31)))) σ) else zM d 170 [.ref r0, .int (zA σ (zQ σ r0 33) x1.toNatClampNeg), .int ((zA σ (zQ σ r0 34) x1.toNatClampNeg) - (nI 1))] σ (fun r σ128 => zqi r (fun x129 => Q (some (.int x129)) σ128))) else Q (some (.int (nI 0))) σ)))))) : zM (d + 1) 171 [.ref r0, .int x1] σ Q := by
  unfold zM
  refine zW_s rfl ?_
  have hp101 := h.1; replace h := h.2
  refine zW_p rfl hp101 ?_
  refine zW_s rfl ?_
  have hp102 := h.1; replace h := h.2
  have hp103 := h.1; replace h := h.2
  refine zW_p rfl ⟨hp102, hp103⟩ ?_
  refine zW_s rfl ?_
  refine zW_s rfl ?_
  refine zW_p rfl hp101 ?_
  refine zW_s rfl ?_
  have hp104 := h.1; replace h := h.2
  have hp105 := h.1; replace h := h.2
  refine zW_p rfl ⟨hp104, hp105⟩ ?_
  refine zW_s rfl ?_
  refine zW_s rfl ?_
  refine zW_s rfl ?_
  refine zW_s rfl ?_
  refine zW_p rfl hp101 ?_
  refine zW_s rfl ?_
  have hp106 := h.1; replace h := h.2
  have hp107 := h.1; replace h := h.2
  refine zW_p rfl ⟨hp106, hp107⟩ ?_
  refine zW_s rfl ?_
  refine zW_sw (fun (c108 : (zA σ (zQ σ r0 32) x1.toNatClampNeg) = nI 7) => ?_) (fun (c108 : ¬ ((zA σ (zQ σ r0 32) x1.toNatClampNeg) = nI 7)) => ?_)
  · rw [if_pos c108] at h
    refine zW_s rfl ?_
    refine zW_r rfl trivial ?_
    exact h
  · rw [if_neg c108] at h
    refine zW_sw (fun (c109 : (zA σ (zQ σ r0 32) x1.toNatClampNeg) = nI 8) => ?_) (fun (c109 : ¬ ((zA σ (zQ σ r0 32) x1.toNatClampNeg) = nI 8)) => ?_)
    · rw [if_pos c109] at h
      refine zW_s rfl ?_
      refine zW_p rfl hp101 ?_
      refine zW_s rfl ?_
      have hp110 := h.1; replace h := h.2
      have hp111 := h.1; replace h := h.2
      refine zW_p rfl ⟨hp110, hp111⟩ ?_
      refine zW_r rfl trivial ?_
      exact h
    · rw [if_neg c109] at h
      refine zW_sw (fun (c112 : (zA σ (zQ σ r0 32) x1.toNatClampNeg) = nI 9) => ?_) (fun (c112 : ¬ ((zA σ (zQ σ r0 32) x1.toNatClampNeg) = nI 9)) => ?_)
      · rw [if_pos c112] at h
        refine zW_s rfl ?_
        refine zW_s rfl ?_
        refine zW_s rfl ?_
        refine zW_s rfl ?_
        refine zW_k [0, 2, 4, 5] rfl ?_
        exact h
      · rw [if_neg c112] at h
        refine zW_sw (fun (c113 : (zA σ (zQ σ r0 32) x1.toNatClampNeg) = nI 10) => ?_) (fun (c113 : ¬ ((zA σ (zQ σ r0 32) x1.toNatClampNeg) = nI 10)) => ?_)
        · rw [if_pos c113] at h
          refine zW_s rfl ?_
          refine zW_s rfl ?_
          refine zW_k [0, 2, 4] rfl ?_
          exact h
        · rw [if_neg c113] at h
          refine zW_s rfl ?_
          refine zW_s rfl ?_
          refine zW_p rfl hp101 ?_
          refine zW_s rfl ?_
          have hp114 := h.1; replace h := h.2
          have hp115 := h.1; replace h := h.2
          refine zW_p rfl ⟨hp114, hp115⟩ ?_
          refine zW_s rfl ?_
          refine zW_if (fun (c116 : ((zA σ (zQ σ r0 34) x1.toNatClampNeg) - (nI 1)) < (zA σ (zQ σ r0 11) (zA σ (zQ σ r0 33) x1.toNatClampNeg).toNatClampNeg)) => ?_) (fun (c116 : ¬ (((zA σ (zQ σ r0 34) x1.toNatClampNeg) - (nI 1)) < (zA σ (zQ σ r0 11) (zA σ (zQ σ r0 33) x1.toNatClampNeg).toNatClampNeg))) => ?_)
          · rw [if_pos c116] at h
            refine zW_s rfl ?_
            refine zW_p rfl hp101 ?_
            refine zW_s rfl ?_
            refine zW_p rfl ⟨hp106, hp107⟩ ?_
            refine zW_s rfl ?_
            refine zW_s rfl ?_
            refine zW_if (fun (c117 : ¬ (zA σ (zQ σ r0 32) x1.toNatClampNeg) = (nI 11)) => ?_) (fun (c117 : ¬ (¬ (zA σ (zQ σ r0 32) x1.toNatClampNeg) = (nI 11))) => ?_)
            · rw [if_pos c117] at h
              refine zW_s rfl ?_
              refine zW_p rfl hp101 ?_
              refine zW_s rfl ?_
              refine zW_p rfl ⟨hp106, hp107⟩ ?_
              refine zW_s rfl ?_
              refine zW_s rfl ?_
              refine zW_if (fun (c118 : ¬ (zA σ (zQ σ r0 32) x1.toNatClampNeg) = (nI 15)) => ?_) (fun (c118 : ¬ (¬ (zA σ (zQ σ r0 32) x1.toNatClampNeg) = (nI 15))) => ?_)
              · rw [if_pos c118] at h
                refine zW_s rfl ?_
                refine zW_s rfl ?_
                refine zW_s rfl ?_
                refine zW_s rfl ?_
                refine zW_c rfl hp101 (zM_m h ?_)
                intro r σ119 h
                replace h := zqi_e h
                obtain ⟨x120, rfl, h⟩ := h
                refine zW_s rfl ?_
                have hp121 := h.1; replace h := h.2
                refine zW_p rfl hp121 ?_
                refine zW_s rfl ?_
                have hp122 := h.1; replace h := h.2
                have hp123 := h.1; replace h := h.2
                refine zW_p rfl ⟨hp122, hp123⟩ ?_
                refine zW_s rfl ?_
                refine zW_s rfl ?_
                refine zW_c rfl hp121 (zM_m h ?_)
                intro r σ124 h
                replace h := zqi_e h
                obtain ⟨x125, rfl, h⟩ := h
                refine zW_r rfl trivial ?_
                exact h
              · rw [if_neg c118] at h
                refine zW_s rfl ?_
                refine zW_p rfl hp101 ?_
                refine zW_s rfl ?_
                refine zW_s rfl ?_
                refine zW_s rfl ?_
                refine zW_s rfl ?_
                refine zW_s rfl ?_
                have hp126 := h.1; replace h := h.2
                have hp127 := h.1; replace h := h.2
                refine zW_p rfl ⟨hp126, hp127⟩ ?_
                refine zW_s rfl ?_
                refine zW_s rfl ?_
                refine zW_s rfl ?_
                refine zW_r rfl trivial ?_
                exact h
            · rw [if_neg c117] at h
              refine zW_s rfl ?_
              refine zW_s rfl ?_
              refine zW_s rfl ?_
              refine zW_c rfl hp101 (zM_m h ?_)
              intro r σ128 h
              replace h := zqi_e h
              obtain ⟨x129, rfl, h⟩ := h
              refine zW_s rfl ?_
              refine zW_r rfl trivial ?_
              exact h
          · rw [if_neg c116] at h
            refine zW_s rfl ?_
            refine zW_r rfl trivial ?_
            exact h
set_option maxHeartbeats 4000000 in
theorem b171_67 {d : Nat} {r0 : Nat} {x2 : Int32} {x4 : Int32} {x5 : Int32} {σ : zH} {Q : Option Value → zH → Prop} (h : (zK σ r0 = 13) ∧ (zK σ (zQ σ r0 11) = 20) ∧ (vp_in x2 (zN σ (zQ σ r0 11))) ∧ (if (zA σ (zQ σ r0 11) x2.toNatClampNeg) ≤ x5 then Q (some (.int x4)) σ else (zK σ (zQ σ r0 10) = 20) ∧ (vp_in (((nI 10) * x2) + x5) (zN σ (zQ σ r0 10))) ∧ zW (d + 1) 171 67 [(0, .ref r0), (2, .int x2), (4, .int (x4 + ((zA σ (zQ σ r0 10) (((nI 10) * x2) + x5).toNatClampNeg) >>> ((nI 4) &&& 31)))), (5, .int (x5 + nI 1))] [] σ Q)) : zW (d + 1) 171 67 [(0, .ref r0), (2, .int x2), (4, .int x4), (5, .int x5)] [] σ Q := by
  refine zW_s rfl ?_
  refine zW_s rfl ?_
  have hp101 := h.1; replace h := h.2
  refine zW_p rfl hp101 ?_
  refine zW_s rfl ?_
  have hp102 := h.1; replace h := h.2
  have hp103 := h.1; replace h := h.2
  refine zW_p rfl ⟨hp102, hp103⟩ ?_
  refine zW_s rfl ?_
  refine zW_if (fun (c104 : (zA σ (zQ σ r0 11) x2.toNatClampNeg) ≤ x5) => ?_) (fun (c104 : ¬ ((zA σ (zQ σ r0 11) x2.toNatClampNeg) ≤ x5)) => ?_)
  · rw [if_pos c104] at h
    refine zW_s rfl ?_
    refine zW_r rfl trivial ?_
    exact h
  · rw [if_neg c104] at h
    refine zW_s rfl ?_
    refine zW_s rfl ?_
    refine zW_p rfl hp101 ?_
    refine zW_s rfl ?_
    refine zW_s rfl ?_
    refine zW_s rfl ?_
    refine zW_s rfl ?_
    refine zW_s rfl ?_
    have hp105 := h.1; replace h := h.2
    have hp106 := h.1; replace h := h.2
    refine zW_p rfl ⟨hp105, hp106⟩ ?_
    refine zW_s rfl ?_
    refine zW_s rfl ?_
    refine zW_s rfl ?_
    refine zW_s rfl ?_
    refine zW_s rfl ?_
    refine zW_s rfl ?_
    exact h
set_option maxHeartbeats 4000000 in
theorem b171_109 {d : Nat} {r0 : Nat} {x2 : Int32} {x4 : Int32} {σ : zH} {Q : Option Value → zH → Prop} (h : (zK σ r0 = 13) ∧ (zK σ (zQ σ r0 11) = 20) ∧ (vp_in x2 (zN σ (zQ σ r0 11))) ∧ (if (zA σ (zQ σ r0 11) x2.toNatClampNeg) ≤ x4 then Q (some (.int (nI 0))) σ else zM d 170 [.ref r0, .int x2, .int x4] σ (fun r σ105 => zqi r (fun x106 => (zK σ105 r0 = 13) ∧ (if ¬ x106 = (zI σ105 r0 12) then zW (d + 1) 171 109 [(0, .ref r0), (2, .int x2), (4, .int (x4 + nI 1))] [] σ105 Q else Q (some (.int (x4 + (nI 1)))) σ105))))) : zW (d + 1) 171 109 [(0, .ref r0), (2, .int x2), (4, .int x4)] [] σ Q := by
  refine zW_s rfl ?_
  refine zW_s rfl ?_
  have hp101 := h.1; replace h := h.2
  refine zW_p rfl hp101 ?_
  refine zW_s rfl ?_
  have hp102 := h.1; replace h := h.2
  have hp103 := h.1; replace h := h.2
  refine zW_p rfl ⟨hp102, hp103⟩ ?_
  refine zW_s rfl ?_
  refine zW_if (fun (c104 : (zA σ (zQ σ r0 11) x2.toNatClampNeg) ≤ x4) => ?_) (fun (c104 : ¬ ((zA σ (zQ σ r0 11) x2.toNatClampNeg) ≤ x4)) => ?_)
  · rw [if_pos c104] at h
    refine zW_s rfl ?_
    refine zW_r rfl trivial ?_
    exact h
  · rw [if_neg c104] at h
    refine zW_s rfl ?_
    refine zW_s rfl ?_
    refine zW_s rfl ?_
    refine zW_c rfl hp101 (zM_m h ?_)
    intro r σ105 h
    replace h := zqi_e h
    obtain ⟨x106, rfl, h⟩ := h
    refine zW_s rfl ?_
    have hp107 := h.1; replace h := h.2
    refine zW_p rfl hp107 ?_
    refine zW_s rfl ?_
    refine zW_if (fun (c108 : ¬ x106 = (zI σ105 r0 12)) => ?_) (fun (c108 : ¬ (¬ x106 = (zI σ105 r0 12))) => ?_)
    · rw [if_pos c108] at h
      refine zW_s rfl ?_
      refine zW_s rfl ?_
      exact h
    · rw [if_neg c108] at h
      refine zW_s rfl ?_
      refine zW_s rfl ?_
      refine zW_s rfl ?_
      refine zW_r rfl trivial ?_
      exact h
set_option maxHeartbeats 4000000 in
theorem b172 {d : Nat} {r0 : Nat} {x1 : Int32} {σ : zH} {Q : Option Value → zH → Prop} (h : zW (d + 1) 172 2 [(0, .ref r0), (2, .int x1)] [] σ Q) : zM (d + 1) 172 [.ref r0, .int x1] σ Q := by
  unfold zM
  refine zW_s rfl ?_
  refine zW_s rfl ?_
  refine zW_k [0, 2] rfl ?_
  exact h
set_option maxHeartbeats 4000000 in
theorem b172_2 {d : Nat} {r0 : Nat} {x2 : Int32} {σ : zH} {Q : Option Value → zH → Prop} (h : (zK σ r0 = 13) ∧ (zK σ (zQ σ r0 32) = 20) ∧ (vp_in x2 (zN σ (zQ σ r0 32))) ∧ (if ¬ (zA σ (zQ σ r0 32) x2.toNatClampNeg) = 0 then (if ¬ (zA σ (zQ σ r0 32) x2.toNatClampNeg) = (nI 1) then (zK σ (zQ σ r0 33) = 20) ∧ (vp_in x2 (zN σ (zQ σ r0 33))) ∧ (if (zA σ (zQ σ r0 32) x2.toNatClampNeg) = nI 2 then zM d 172 [.ref r0, .int (zA σ (zQ σ r0 33) x2.toNatClampNeg)] σ (fun r σ109 => zqi r (fun x110 => Q (some (.int (if ¬ x110 = 0 then nI 0 else nI 1))) σ109)) else (if (zA σ (zQ σ r0 32) x2.toNatClampNeg) = nI 3 then zM d 171 [.ref r0, .int (zA σ (zQ σ r0 33) x2.toNatClampNeg)] σ (fun r σ113 => zqi r (fun x114 => (zK σ113 r0 = 13) ∧ (zK σ113 (zQ σ113 r0 34) = 20) ∧ (vp_in x2 (zN σ113 (zQ σ113 r0 34))) ∧ zM d 171 [.ref r0, .int (zA σ113 (zQ σ113 r0 34) x2.toNatClampNeg)] σ113 (fun r σ118 => zqi r (fun x119 => (zK σ118 r0 = 13) ∧ (zK σ118 (zQ σ118 r0 35) = 20) ∧ (vp_in x2 (zN σ118 (zQ σ118 r0 35))) ∧ (if ¬ (zA σ118 (zQ σ118 r0 35) x2.toNatClampNeg) = (nI 61) then (if ¬ (zA σ118 (zQ σ118 r0 35) x2.toNatClampNeg) = (nI 289) then (if ¬ (zA σ118 (zQ σ118 r0 35) x2.toNatClampNeg) = (nI 60) then (if ¬ (zA σ118 (zQ σ118 r0 35) x2.toNatClampNeg) = (nI 316) then (if ¬ (zA σ118 (zQ σ118 r0 35) x2.toNatClampNeg) = (nI 62) then Q (some (.int (if x114 < x119 then nI 0 else nI 1))) σ118 else Q (some (.int (if x114 ≤ x119 then nI 0 else nI 1))) σ118) else Q (some (.int (if x119 < x114 then nI 0 else nI 1))) σ118) else Q (some (.int (if x119 ≤ x114 then nI 0 else nI 1))) σ118) else Q (some (.int (if x114 = x119 then nI 0 else nI 1))) σ118) else Q (some (.int (if ¬ x114 = x119 then nI 0 else nI 1))) σ118))))) else (if (zA σ (zQ σ r0 32) x2.toNatClampNeg) = nI 4 then zW (d + 1) 172 311 [(0, .ref r0), (2, .int x2), (3, .int (zA σ (zQ σ r0 33) x2.toNatClampNeg)), (4, .int (nI 1))] [] σ Q else (if (zA σ (zQ σ r0 32) x2.toNatClampNeg) = nI 5 then (zK σ (zQ σ r0 34) = 20) ∧ (vp_in x2 (zN σ (zQ σ r0 34))) ∧ zW (d + 1) 172 379 [(0, .ref r0), (2, .int x2), (3, .int (zA σ (zQ σ r0 33) x2.toNatClampNeg)), (4, .int (zA σ (zQ σ r0 34) x2.toNatClampNeg)), (5, .int (nI 0))] [] σ Q else zW (d + 1) 172 484 [(0, .ref r0), (3, .int (zA σ (zQ σ r0 33) x2.toNatClampNeg)), (4, .int (nI 1))] [] σ Q)))) else zW (d + 1) 172 46 [(0, .ref r0), (2, .int x2)] [] σ Q) else (zK σ (zQ σ r0 34) = 20) ∧ (vp_in x2 (zN σ (zQ σ r0 34))) ∧ zM d 172 [.ref r0, .int (zA σ (zQ σ r0 34) x2.toNatClampNeg)] σ (fun r σ140 => zqi r (fun x141 => (if x141 = 0 then (zK σ140 r0 = 13) ∧ (zK σ140 (zQ σ140 r0 33) = 20) ∧ (vp_in x2 (zN σ140 (zQ σ140 r0 33))) ∧ zW (d + 1) 172 2 [(0, .ref r0), (2, .int (zA σ140 (zQ σ140 r0 33) x2.toNatClampNeg))] [] σ140 Q else Q (some (.int (nI 1))) σ140))))) : zW (d + 1) 172 2 [(0, .ref r0), (2, .int x2)] [] σ Q := by
  refine zW_s rfl ?_
  have hp101 := h.1; replace h := h.2
  refine zW_p rfl hp101 ?_
  refine zW_s rfl ?_
  have hp102 := h.1; replace h := h.2
  have hp103 := h.1; replace h := h.2
  refine zW_p rfl ⟨hp102, hp103⟩ ?_
  refine zW_s rfl ?_
  refine zW_if (fun (c104 : ¬ (zA σ (zQ σ r0 32) x2.toNatClampNeg) = 0) => ?_) (fun (c104 : ¬ (¬ (zA σ (zQ σ r0 32) x2.toNatClampNeg) = 0)) => ?_)
  · rw [if_pos c104] at h
    refine zW_s rfl ?_
    refine zW_p rfl hp101 ?_
    refine zW_s rfl ?_
    refine zW_p rfl ⟨hp102, hp103⟩ ?_
    refine zW_s rfl ?_
    refine zW_s rfl ?_
    refine zW_if (fun (c105 : ¬ (zA σ (zQ σ r0 32) x2.toNatClampNeg) = (nI 1)) => ?_) (fun (c105 : ¬ (¬ (zA σ (zQ σ r0 32) x2.toNatClampNeg) = (nI 1))) => ?_)
    · rw [if_pos c105] at h
      refine zW_s rfl ?_
      refine zW_p rfl hp101 ?_
      refine zW_s rfl ?_
      have hp106 := h.1; replace h := h.2
      have hp107 := h.1; replace h := h.2
      refine zW_p rfl ⟨hp106, hp107⟩ ?_
      refine zW_s rfl ?_
      refine zW_s rfl ?_
      refine zW_p rfl hp101 ?_
      refine zW_s rfl ?_
      refine zW_p rfl ⟨hp102, hp103⟩ ?_
      refine zW_s rfl ?_
      refine zW_sw (fun (c108 : (zA σ (zQ σ r0 32) x2.toNatClampNeg) = nI 2) => ?_) (fun (c108 : ¬ ((zA σ (zQ σ r0 32) x2.toNatClampNeg) = nI 2)) => ?_)
      · rw [if_pos c108] at h
        refine zW_s rfl ?_
        refine zW_s rfl ?_
        refine zW_p rfl hp101 ?_
        refine zW_s rfl ?_
        refine zW_p rfl ⟨hp106, hp107⟩ ?_
        refine zW_c rfl hp101 (zM_m h ?_)
        intro r σ109 h
        replace h := zqi_e h
        obtain ⟨x110, rfl, h⟩ := h
        refine zW_s rfl ?_
        have k : ∀ v : Int32, v = (if ¬ x110 = 0 then nI 0 else nI 1) → zW (d + 1) 172 150 [(0, .ref r0), (2, .int x2), (3, .int (zA σ (zQ σ r0 33) x2.toNatClampNeg))] [.int v] σ109 Q := by
          intro v hv
          subst hv
          refine zW_r rfl zb01 ?_
          exact h
        refine zW_if (fun (c111 : ¬ x110 = 0) => ?_) (fun (c111 : ¬ (¬ x110 = 0)) => ?_)
        · replace k := k _ (if_pos c111).symm
          refine zW_s rfl ?_
          exact k
        · replace k := k _ (if_neg c111).symm
          refine zW_s rfl ?_
          refine zW_s rfl ?_
          exact k
      · rw [if_neg c108] at h
        refine zW_sw (fun (c112 : (zA σ (zQ σ r0 32) x2.toNatClampNeg) = nI 3) => ?_) (fun (c112 : ¬ ((zA σ (zQ σ r0 32) x2.toNatClampNeg) = nI 3)) => ?_)
        · rw [if_pos c112] at h
          refine zW_s rfl ?_
          refine zW_s rfl ?_
          refine zW_p rfl hp101 ?_
          refine zW_s rfl ?_
          refine zW_p rfl ⟨hp106, hp107⟩ ?_
          refine zW_c rfl hp101 (zM_m h ?_)
          intro r σ113 h
          replace h := zqi_e h
          obtain ⟨x114, rfl, h⟩ := h
          refine zW_s rfl ?_
          refine zW_s rfl ?_
          refine zW_s rfl ?_
          have hp115 := h.1; replace h := h.2
          refine zW_p rfl hp115 ?_
          refine zW_s rfl ?_
          have hp116 := h.1; replace h := h.2
          have hp117 := h.1; replace h := h.2
          refine zW_p rfl ⟨hp116, hp117⟩ ?_
          refine zW_c rfl hp115 (zM_m h ?_)
          intro r σ118 h
          replace h := zqi_e h
          obtain ⟨x119, rfl, h⟩ := h
          refine zW_s rfl ?_
          refine zW_s rfl ?_
          have hp120 := h.1; replace h := h.2
          refine zW_p rfl hp120 ?_
          refine zW_s rfl ?_
          have hp121 := h.1; replace h := h.2
          have hp122 := h.1; replace h := h.2
          refine zW_p rfl ⟨hp121, hp122⟩ ?_
          refine zW_s rfl ?_
          refine zW_s rfl ?_
          refine zW_s rfl ?_
          refine zW_s rfl ?_
          refine zW_if (fun (c123 : ¬ (zA σ118 (zQ σ118 r0 35) x2.toNatClampNeg) = (nI 61)) => ?_) (fun (c123 : ¬ (¬ (zA σ118 (zQ σ118 r0 35) x2.toNatClampNeg) = (nI 61))) => ?_)
          · rw [if_pos c123] at h
            refine zW_s rfl ?_
            refine zW_s rfl ?_
            refine zW_s rfl ?_
            refine zW_if (fun (c124 : ¬ (zA σ118 (zQ σ118 r0 35) x2.toNatClampNeg) = (nI 289)) => ?_) (fun (c124 : ¬ (¬ (zA σ118 (zQ σ118 r0 35) x2.toNatClampNeg) = (nI 289))) => ?_)
            · rw [if_pos c124] at h
              refine zW_s rfl ?_
              refine zW_s rfl ?_
              refine zW_s rfl ?_
              refine zW_if (fun (c125 : ¬ (zA σ118 (zQ σ118 r0 35) x2.toNatClampNeg) = (nI 60)) => ?_) (fun (c125 : ¬ (¬ (zA σ118 (zQ σ118 r0 35) x2.toNatClampNeg) = (nI 60))) => ?_)
              · rw [if_pos c125] at h
                refine zW_s rfl ?_
                refine zW_s rfl ?_
                refine zW_s rfl ?_
                refine zW_if (fun (c126 : ¬ (zA σ118 (zQ σ118 r0 35) x2.toNatClampNeg) = (nI 316)) => ?_) (fun (c126 : ¬ (¬ (zA σ118 (zQ σ118 r0 35) x2.toNatClampNeg) = (nI 316))) => ?_)
                · rw [if_pos c126] at h
                  refine zW_s rfl ?_
                  refine zW_s rfl ?_
                  refine zW_s rfl ?_
                  refine zW_if (fun (c127 : ¬ (zA σ118 (zQ σ118 r0 35) x2.toNatClampNeg) = (nI 62)) => ?_) (fun (c127 : ¬ (¬ (zA σ118 (zQ σ118 r0 35) x2.toNatClampNeg) = (nI 62))) => ?_)
                  · rw [if_pos c127] at h
                    refine zW_s rfl ?_
                    refine zW_s rfl ?_
                    refine zW_s rfl ?_
                    have k : ∀ v : Int32, v = (if x114 < x119 then nI 0 else nI 1) → zW (d + 1) 172 307 [(0, .ref r0), (2, .int x2), (3, .int (zA σ (zQ σ r0 33) x2.toNatClampNeg)), (4, .int x114), (5, .int x119), (6, .int (zA σ118 (zQ σ118 r0 35) x2.toNatClampNeg))] [.int v] σ118 Q := by
                      intro v hv
                      subst hv
                      refine zW_r rfl zb01 ?_
                      exact h
                    refine zW_if (fun (c128 : x114 < x119) => ?_) (fun (c128 : ¬ (x114 < x119)) => ?_)
                    · replace k := k _ (if_pos c128).symm
                      refine zW_s rfl ?_
                      exact k
                    · replace k := k _ (if_neg c128).symm
                      refine zW_s rfl ?_
                      refine zW_s rfl ?_
                      exact k
                  · rw [if_neg c127] at h
                    refine zW_s rfl ?_
                    refine zW_s rfl ?_
                    refine zW_s rfl ?_
                    have k : ∀ v : Int32, v = (if x114 ≤ x119 then nI 0 else nI 1) → zW (d + 1) 172 307 [(0, .ref r0), (2, .int x2), (3, .int (zA σ (zQ σ r0 33) x2.toNatClampNeg)), (4, .int x114), (5, .int x119), (6, .int (zA σ118 (zQ σ118 r0 35) x2.toNatClampNeg))] [.int v] σ118 Q := by
                      intro v hv
                      subst hv
                      refine zW_r rfl zb01 ?_
                      exact h
                    refine zW_if (fun (c129 : x114 ≤ x119) => ?_) (fun (c129 : ¬ (x114 ≤ x119)) => ?_)
                    · replace k := k _ (if_pos c129).symm
                      refine zW_s rfl ?_
                      refine zW_s rfl ?_
                      exact k
                    · replace k := k _ (if_neg c129).symm
                      refine zW_s rfl ?_
                      refine zW_s rfl ?_
                      exact k
                · rw [if_neg c126] at h
                  refine zW_s rfl ?_
                  refine zW_s rfl ?_
                  refine zW_s rfl ?_
                  have k : ∀ v : Int32, v = (if x119 < x114 then nI 0 else nI 1) → zW (d + 1) 172 307 [(0, .ref r0), (2, .int x2), (3, .int (zA σ (zQ σ r0 33) x2.toNatClampNeg)), (4, .int x114), (5, .int x119), (6, .int (zA σ118 (zQ σ118 r0 35) x2.toNatClampNeg))] [.int v] σ118 Q := by
                    intro v hv
                    subst hv
                    refine zW_r rfl zb01 ?_
                    exact h
                  refine zW_if (fun (c130 : x119 < x114) => ?_) (fun (c130 : ¬ (x119 < x114)) => ?_)
                  · replace k := k _ (if_pos c130).symm
                    refine zW_s rfl ?_
                    refine zW_s rfl ?_
                    exact k
                  · replace k := k _ (if_neg c130).symm
                    refine zW_s rfl ?_
                    refine zW_s rfl ?_
                    exact k
              · rw [if_neg c125] at h
                refine zW_s rfl ?_
                refine zW_s rfl ?_
                refine zW_s rfl ?_
                have k : ∀ v : Int32, v = (if x119 ≤ x114 then nI 0 else nI 1) → zW (d + 1) 172 307 [(0, .ref r0), (2, .int x2), (3, .int (zA σ (zQ σ r0 33) x2.toNatClampNeg)), (4, .int x114), (5, .int x119), (6, .int (zA σ118 (zQ σ118 r0 35) x2.toNatClampNeg))] [.int v] σ118 Q := by
                  intro v hv
                  subst hv
                  refine zW_r rfl zb01 ?_
                  exact h
                refine zW_if (fun (c131 : x119 ≤ x114) => ?_) (fun (c131 : ¬ (x119 ≤ x114)) => ?_)
                · replace k := k _ (if_pos c131).symm
                  refine zW_s rfl ?_
                  refine zW_s rfl ?_
                  exact k
                · replace k := k _ (if_neg c131).symm
                  refine zW_s rfl ?_
                  refine zW_s rfl ?_
                  exact k
            · rw [if_neg c124] at h
              refine zW_s rfl ?_
              refine zW_s rfl ?_
              refine zW_s rfl ?_
              have k : ∀ v : Int32, v = (if x114 = x119 then nI 0 else nI 1) → zW (d + 1) 172 307 [(0, .ref r0), (2, .int x2), (3, .int (zA σ (zQ σ r0 33) x2.toNatClampNeg)), (4, .int x114), (5, .int x119), (6, .int (zA σ118 (zQ σ118 r0 35) x2.toNatClampNeg))] [.int v] σ118 Q := by
                intro v hv
                subst hv
                refine zW_r rfl zb01 ?_
                exact h
              refine zW_if (fun (c132 : x114 = x119) => ?_) (fun (c132 : ¬ (x114 = x119)) => ?_)
              · replace k := k _ (if_pos c132).symm
                refine zW_s rfl ?_
                refine zW_s rfl ?_
                exact k
              · replace k := k _ (if_neg c132).symm
                refine zW_s rfl ?_
                refine zW_s rfl ?_
                exact k
          · rw [if_neg c123] at h
            refine zW_s rfl ?_
            refine zW_s rfl ?_
            refine zW_s rfl ?_
            have k : ∀ v : Int32, v = (if ¬ x114 = x119 then nI 0 else nI 1) → zW (d + 1) 172 307 [(0, .ref r0), (2, .int x2), (3, .int (zA σ (zQ σ r0 33) x2.toNatClampNeg)), (4, .int x114), (5, .int x119), (6, .int (zA σ118 (zQ σ118 r0 35) x2.toNatClampNeg))] [.int v] σ118 Q := by
              intro v hv
              subst hv
              refine zW_r rfl zb01 ?_
              exact h
            refine zW_if (fun (c133 : ¬ x114 = x119) => ?_) (fun (c133 : ¬ (¬ x114 = x119)) => ?_)
            · replace k := k _ (if_pos c133).symm
              refine zW_s rfl ?_
              refine zW_s rfl ?_
              exact k
            · replace k := k _ (if_neg c133).symm
              refine zW_s rfl ?_
              refine zW_s rfl ?_
              exact k
        · rw [if_neg c112] at h
          refine zW_sw (fun (c134 : (zA σ (zQ σ r0 32) x2.toNatClampNeg) = nI 4) => ?_) (fun (c134 : ¬ ((zA σ (zQ σ r0 32) x2.toNatClampNeg) = nI 4)) => ?_)
          · rw [if_pos c134] at h
            refine zW_s rfl ?_
            refine zW_s rfl ?_
            exact h
          · rw [if_neg c134] at h
            refine zW_sw (fun (c135 : (zA σ (zQ σ r0 32) x2.toNatClampNeg) = nI 5) => ?_) (fun (c135 : ¬ ((zA σ (zQ σ r0 32) x2.toNatClampNeg) = nI 5)) => ?_)
            · rw [if_pos c135] at h
              refine zW_s rfl ?_
              refine zW_p rfl hp101 ?_
              refine zW_s rfl ?_
              have hp136 := h.1; replace h := h.2
              have hp137 := h.1; replace h := h.2
              refine zW_p rfl ⟨hp136, hp137⟩ ?_
              refine zW_s rfl ?_
              refine zW_s rfl ?_
              refine zW_s rfl ?_
              exact h
            · rw [if_neg c135] at h
              refine zW_s rfl ?_
              refine zW_s rfl ?_
              refine zW_k [0, 2, 3] rfl ?_
              exact h
    · rw [if_neg c105] at h
      exact h
  · rw [if_neg c104] at h
    refine zW_s rfl ?_
    refine zW_s rfl ?_
    refine zW_p rfl hp101 ?_
    refine zW_s rfl ?_
    have hp138 := h.1; replace h := h.2
    have hp139 := h.1; replace h := h.2
    refine zW_p rfl ⟨hp138, hp139⟩ ?_
    refine zW_c rfl hp101 (zM_m h ?_)
    intro r σ140 h
    replace h := zqi_e h
    obtain ⟨x141, rfl, h⟩ := h
    refine zW_s rfl ?_
    refine zW_if (fun (c142 : x141 = 0) => ?_) (fun (c142 : ¬ (x141 = 0)) => ?_)
    · rw [if_pos c142] at h
      refine zW_s rfl ?_
      have hp143 := h.1; replace h := h.2
      refine zW_p rfl hp143 ?_
      refine zW_s rfl ?_
      have hp144 := h.1; replace h := h.2
      have hp145 := h.1; replace h := h.2
      refine zW_p rfl ⟨hp144, hp145⟩ ?_
      refine zW_s rfl ?_
      refine zW_s rfl ?_
      exact h
    · rw [if_neg c142] at h
      refine zW_s rfl ?_
      refine zW_r rfl (by decide) ?_
      exact h
set_option maxHeartbeats 4000000 in
theorem b172_311 {d : Nat} {r0 : Nat} {x2 : Int32} {x3 : Int32} {x4 : Int32} {σ : zH} {Q : Option Value → zH → Prop} (h : (zK σ r0 = 13) ∧ (zK σ (zQ σ r0 11) = 20) ∧ (vp_in x3 (zN σ (zQ σ r0 11))) ∧ (if (zA σ (zQ σ r0 11) x3.toNatClampNeg) ≤ x4 then Q (some (.int (nI 1))) σ else zM d 170 [.ref r0, .int x3, .int x4] σ (fun r σ105 => zqi r (fun x106 => (zK σ105 r0 = 13) ∧ (zK σ105 (zQ σ105 r0 35) = 20) ∧ (vp_in x2 (zN σ105 (zQ σ105 r0 35))) ∧ zM d 169 [.ref r0, .int x106, .int (zA σ105 (zQ σ105 r0 35) x2.toNatClampNeg)] σ105 (fun r σ110 => zqi r (fun x111 => (zK σ110 r0 = 13) ∧ zM d 170 [.ref r0, .int x3, .int (nI 0)] σ110 (fun r σ113 => zqi r (fun x114 => (zK σ113 r0 = 13) ∧ (zK σ113 (zQ σ113 r0 35) = 20) ∧ (vp_in x2 (zN σ113 (zQ σ113 r0 35))) ∧ zM d 169 [.ref r0, .int x114, .int (zA σ113 (zQ σ113 r0 35) x2.toNatClampNeg)] σ113 (fun r σ118 => zqi r (fun x119 => (if x111 = x119 then zW (d + 1) 172 311 [(0, .ref r0), (2, .int x2), (3, .int x3), (4, .int (x4 + nI 1))] [] σ118 Q else Q (some (.int (nI 0))) σ118))))))))))) : zW (d + 1) 172 311 [(0, .ref r0), (2, .int x2), (3, .int x3), (4, .int x4)] [] σ Q := by
  refine zW_s rfl ?_
  refine zW_s rfl ?_
  have hp101 := h.1; replace h := h.2
  refine zW_p rfl hp101 ?_
  refine zW_s rfl ?_
  have hp102 := h.1; replace h := h.2
  have hp103 := h.1; replace h := h.2
  refine zW_p rfl ⟨hp102, hp103⟩ ?_
  refine zW_s rfl ?_
  refine zW_if (fun (c104 : (zA σ (zQ σ r0 11) x3.toNatClampNeg) ≤ x4) => ?_) (fun (c104 : ¬ ((zA σ (zQ σ r0 11) x3.toNatClampNeg) ≤ x4)) => ?_)
  · rw [if_pos c104] at h
    refine zW_s rfl ?_
    refine zW_r rfl (by decide) ?_
    exact h
  · rw [if_neg c104] at h
    refine zW_s rfl ?_
    refine zW_s rfl ?_
    refine zW_s rfl ?_
    refine zW_s rfl ?_
    refine zW_c rfl hp101 (zM_m h ?_)
    intro r σ105 h
    replace h := zqi_e h
    obtain ⟨x106, rfl, h⟩ := h
    refine zW_s rfl ?_
    have hp107 := h.1; replace h := h.2
    refine zW_p rfl hp107 ?_
    refine zW_s rfl ?_
    have hp108 := h.1; replace h := h.2
    have hp109 := h.1; replace h := h.2
    refine zW_p rfl ⟨hp108, hp109⟩ ?_
    refine zW_c rfl hp107 (zM_m h ?_)
    intro r σ110 h
    replace h := zqi_e h
    obtain ⟨x111, rfl, h⟩ := h
    refine zW_s rfl ?_
    refine zW_s rfl ?_
    refine zW_s rfl ?_
    refine zW_s rfl ?_
    have hp112 := h.1; replace h := h.2
    refine zW_c rfl hp112 (zM_m h ?_)
    intro r σ113 h
    replace h := zqi_e h
    obtain ⟨x114, rfl, h⟩ := h
    refine zW_s rfl ?_
    have hp115 := h.1; replace h := h.2
    refine zW_p rfl hp115 ?_
    refine zW_s rfl ?_
    have hp116 := h.1; replace h := h.2
    have hp117 := h.1; replace h := h.2
    refine zW_p rfl ⟨hp116, hp117⟩ ?_
    refine zW_c rfl hp115 (zM_m h ?_)
    intro r σ118 h
    replace h := zqi_e h
    obtain ⟨x119, rfl, h⟩ := h
    refine zW_s rfl ?_
    refine zW_if (fun (c120 : x111 = x119) => ?_) (fun (c120 : ¬ (x111 = x119)) => ?_)
    · rw [if_pos c120] at h
      refine zW_s rfl ?_
      refine zW_s rfl ?_
      exact h
    · rw [if_neg c120] at h
      refine zW_s rfl ?_
      refine zW_r rfl (by decide) ?_
      exact h
set_option maxHeartbeats 4000000 in
theorem b172_379 {d : Nat} {r0 : Nat} {x2 : Int32} {x3 : Int32} {x4 : Int32} {x5 : Int32} {σ : zH} {Q : Option Value → zH → Prop} (h : (zK σ r0 = 13) ∧ (zK σ (zQ σ r0 11) = 20) ∧ (vp_in x3 (zN σ (zQ σ r0 11))) ∧ (if (zA σ (zQ σ r0 11) x3.toNatClampNeg) < (x5 + x4) then Q (some (.int (nI 1))) σ else zW (d + 1) 172 397 [(0, .ref r0), (2, .int x2), (3, .int x3), (4, .int x4), (5, .int x5), (6, .int x5)] [] σ Q)) : zW (d + 1) 172 379 [(0, .ref r0), (2, .int x2), (3, .int x3), (4, .int x4), (5, .int x5)] [] σ Q := by
  refine zW_s rfl ?_
  refine zW_s rfl ?_
  refine zW_s rfl ?_
  refine zW_s rfl ?_
  have hp101 := h.1; replace h := h.2
  refine zW_p rfl hp101 ?_
  refine zW_s rfl ?_
  have hp102 := h.1; replace h := h.2
  have hp103 := h.1; replace h := h.2
  refine zW_p rfl ⟨hp102, hp103⟩ ?_
  refine zW_s rfl ?_
  refine zW_if (fun (c104 : (zA σ (zQ σ r0 11) x3.toNatClampNeg) < (x5 + x4)) => ?_) (fun (c104 : ¬ ((zA σ (zQ σ r0 11) x3.toNatClampNeg) < (x5 + x4))) => ?_)
  · rw [if_pos c104] at h
    refine zW_s rfl ?_
    refine zW_r rfl (by decide) ?_
    exact h
  · rw [if_neg c104] at h
    refine zW_s rfl ?_
    refine zW_s rfl ?_
    exact h
set_option maxHeartbeats 4000000 in
theorem b172_484 {d : Nat} {r0 : Nat} {x3 : Int32} {x4 : Int32} {σ : zH} {Q : Option Value → zH → Prop} (h : (zK σ r0 = 13) ∧ (zK σ (zQ σ r0 11) = 20) ∧ (vp_in x3 (zN σ (zQ σ r0 11))) ∧ (if (zA σ (zQ σ r0 11) x3.toNatClampNeg) ≤ x4 then Q (some (.int (nI 1))) σ else zM d 170 [.ref r0, .int x3, .int x4] σ (fun r σ105 => zqi r (fun x106 => (zK σ105 (zQ σ r0 6) = 20) ∧ (vp_in x106 (zN σ105 (zQ σ r0 6))) ∧ (zK σ105 r0 = 13) ∧ zM d 170 [.ref r0, .int x3, .int (x4 - (nI 1))] σ105 (fun r σ110 => zqi r (fun x111 => (zK σ110 (zQ σ105 r0 6) = 20) ∧ (vp_in x111 (zN σ110 (zQ σ105 r0 6))) ∧ (if (zA σ110 (zQ σ105 r0 6) x111.toNatClampNeg) < (zA σ105 (zQ σ r0 6) x106.toNatClampNeg) then zW (d + 1) 172 484 [(0, .ref r0), (3, .int x3), (4, .int (x4 + nI 1))] [] σ110 Q else Q (some (.int (nI 0))) σ110))))))) : zW (d + 1) 172 484 [(0, .ref r0), (3, .int x3), (4, .int x4)] [] σ Q := by
  refine zW_s rfl ?_
  refine zW_s rfl ?_
  have hp101 := h.1; replace h := h.2
  refine zW_p rfl hp101 ?_
  refine zW_s rfl ?_
  have hp102 := h.1; replace h := h.2
  have hp103 := h.1; replace h := h.2
  refine zW_p rfl ⟨hp102, hp103⟩ ?_
  refine zW_s rfl ?_
  refine zW_if (fun (c104 : (zA σ (zQ σ r0 11) x3.toNatClampNeg) ≤ x4) => ?_) (fun (c104 : ¬ ((zA σ (zQ σ r0 11) x3.toNatClampNeg) ≤ x4)) => ?_)
  · rw [if_pos c104] at h
    refine zW_s rfl ?_
    refine zW_r rfl (by decide) ?_
    exact h
  · rw [if_neg c104] at h
    refine zW_s rfl ?_
    refine zW_p rfl hp101 ?_
    refine zW_s rfl ?_
    refine zW_s rfl ?_
    refine zW_s rfl ?_
    refine zW_c rfl hp101 (zM_m h ?_)
    intro r σ105 h
    replace h := zqi_e h
    obtain ⟨x106, rfl, h⟩ := h
    have hp107 := h.1; replace h := h.2
    have hp108 := h.1; replace h := h.2
    refine zW_p rfl ⟨hp107, hp108⟩ ?_
    refine zW_s rfl ?_
    have hp109 := h.1; replace h := h.2
    refine zW_p rfl hp109 ?_
    refine zW_s rfl ?_
    refine zW_s rfl ?_
    refine zW_s rfl ?_
    refine zW_s rfl ?_
    refine zW_s rfl ?_
    refine zW_c rfl hp109 (zM_m h ?_)
    intro r σ110 h
    replace h := zqi_e h
    obtain ⟨x111, rfl, h⟩ := h
    have hp112 := h.1; replace h := h.2
    have hp113 := h.1; replace h := h.2
    refine zW_p rfl ⟨hp112, hp113⟩ ?_
    refine zW_s rfl ?_
    refine zW_if (fun (c114 : (zA σ110 (zQ σ105 r0 6) x111.toNatClampNeg) < (zA σ105 (zQ σ r0 6) x106.toNatClampNeg)) => ?_) (fun (c114 : ¬ ((zA σ110 (zQ σ105 r0 6) x111.toNatClampNeg) < (zA σ105 (zQ σ r0 6) x106.toNatClampNeg))) => ?_)
    · rw [if_pos c114] at h
      refine zW_s rfl ?_
      refine zW_s rfl ?_
      exact h
    · rw [if_neg c114] at h
      refine zW_s rfl ?_
      refine zW_r rfl (by decide) ?_
      exact h
set_option maxHeartbeats 4000000 in
theorem b172_46 {d : Nat} {r0 : Nat} {x2 : Int32} {σ : zH} {Q : Option Value → zH → Prop} (h : (zK σ r0 = 13) ∧ (zK σ (zQ σ r0 32) = 20) ∧ (vp_in x2 (zN σ (zQ σ r0 32))) ∧ (if ¬ (zA σ (zQ σ r0 32) x2.toNatClampNeg) = (nI 1) then zM d 172 [.ref r0, .int x2] σ (fun r σ105 => zqi r (fun x106 => (x106 = 0 ∨ x106 = 1) ∧ Q (some (.int x106)) σ105)) else (zK σ (zQ σ r0 34) = 20) ∧ (vp_in x2 (zN σ (zQ σ r0 34))) ∧ zM d 172 [.ref r0, .int (zA σ (zQ σ r0 34) x2.toNatClampNeg)] σ (fun r σ110 => zqi r (fun x111 => (if ¬ x111 = 0 then (zK σ110 r0 = 13) ∧ (zK σ110 (zQ σ110 r0 33) = 20) ∧ (vp_in x2 (zN σ110 (zQ σ110 r0 33))) ∧ zW (d + 1) 172 46 [(0, .ref r0), (2, .int (zA σ110 (zQ σ110 r0 33) x2.toNatClampNeg))] [] σ110 Q else Q (some (.int (nI 0))) σ110))))) : zW (d + 1) 172 46 [(0, .ref r0), (2, .int x2)] [] σ Q := by
  refine zW_s rfl ?_
  have hp101 := h.1; replace h := h.2
  refine zW_p rfl hp101 ?_
  refine zW_s rfl ?_
  have hp102 := h.1; replace h := h.2
  have hp103 := h.1; replace h := h.2
  refine zW_p rfl ⟨hp102, hp103⟩ ?_
  refine zW_s rfl ?_
  refine zW_s rfl ?_
  refine zW_if (fun (c104 : ¬ (zA σ (zQ σ r0 32) x2.toNatClampNeg) = (nI 1)) => ?_) (fun (c104 : ¬ (¬ (zA σ (zQ σ r0 32) x2.toNatClampNeg) = (nI 1))) => ?_)
  · rw [if_pos c104] at h
    refine zW_s rfl ?_
    refine zW_s rfl ?_
    refine zW_c rfl hp101 (zM_m h ?_)
    intro r σ105 h
    replace h := zqi_e h
    obtain ⟨x106, rfl, h⟩ := h
    have hp107 := h.1; replace h := h.2
    refine zW_r rfl hp107 ?_
    exact h
  · rw [if_neg c104] at h
    refine zW_s rfl ?_
    refine zW_s rfl ?_
    refine zW_p rfl hp101 ?_
    refine zW_s rfl ?_
    have hp108 := h.1; replace h := h.2
    have hp109 := h.1; replace h := h.2
    refine zW_p rfl ⟨hp108, hp109⟩ ?_
    refine zW_c rfl hp101 (zM_m h ?_)
    intro r σ110 h
    replace h := zqi_e h
    obtain ⟨x111, rfl, h⟩ := h
    refine zW_s rfl ?_
    refine zW_if (fun (c112 : ¬ x111 = 0) => ?_) (fun (c112 : ¬ (¬ x111 = 0)) => ?_)
    · rw [if_pos c112] at h
      refine zW_s rfl ?_
      have hp113 := h.1; replace h := h.2
      refine zW_p rfl hp113 ?_
      refine zW_s rfl ?_
      have hp114 := h.1; replace h := h.2
      have hp115 := h.1; replace h := h.2
      refine zW_p rfl ⟨hp114, hp115⟩ ?_
      refine zW_s rfl ?_
      refine zW_s rfl ?_
      exact h
    · rw [if_neg c112] at h
      refine zW_s rfl ?_
      refine zW_r rfl (by decide) ?_
      exact h
set_option maxHeartbeats 4000000 in
theorem b172_397 {d : Nat} {r0 : Nat} {x2 : Int32} {x3 : Int32} {x4 : Int32} {x5 : Int32} {x6 : Int32} {σ : zH} {Q : Option Value → zH → Prop} (h : (if (x5 + x4) ≤ x6 then zW (d + 1) 172 379 [(0, .ref r0), (2, .int x2), (3, .int x3), (4, .int x4), (5, .int (x5 + x4))] [] σ Q else zW (d + 1) 172 411 [(0, .ref r0), (2, .int x2), (3, .int x3), (4, .int x4), (5, .int x5), (6, .int x6), (7, .int x5)] [] σ Q)) : zW (d + 1) 172 397 [(0, .ref r0), (2, .int x2), (3, .int x3), (4, .int x4), (5, .int x5), (6, .int x6)] [] σ Q := by
  refine zW_s rfl ?_
  refine zW_s rfl ?_
  refine zW_s rfl ?_
  refine zW_s rfl ?_
  refine zW_s rfl ?_
  refine zW_if (fun (c101 : (x5 + x4) ≤ x6) => ?_) (fun (c101 : ¬ ((x5 + x4) ≤ x6)) => ?_)
  · rw [if_pos c101] at h
    refine zW_s rfl ?_
    refine zW_s rfl ?_
    refine zW_s rfl ?_
    refine zW_s rfl ?_
    refine zW_s rfl ?_
    refine zW_k [0, 1, 2, 3, 4] rfl ?_
    exact h
  · rw [if_neg c101] at h
    refine zW_s rfl ?_
    refine zW_s rfl ?_
    exact h
set_option maxHeartbeats 4000000 in
theorem b172_411 {d : Nat} {r0 : Nat} {x2 : Int32} {x3 : Int32} {x4 : Int32} {x5 : Int32} {x6 : Int32} {x7 : Int32} {σ : zH} {Q : Option Value → zH → Prop} (h : (if x6 ≤ x7 then zW (d + 1) 172 397 [(0, .ref r0), (2, .int x2), (3, .int x3), (4, .int x4), (5, .int x5), (6, .int (x6 + nI 1))] [] σ Q else (zK σ r0 = 13) ∧ zM d 170 [.ref r0, .int x3, .int x6] σ (fun r σ103 => zqi r (fun x104 => (zK σ103 r0 = 13) ∧ (zK σ103 (zQ σ103 r0 35) = 20) ∧ (vp_in x2 (zN σ103 (zQ σ103 r0 35))) ∧ zM d 169 [.ref r0, .int x104, .int (zA σ103 (zQ σ103 r0 35) x2.toNatClampNeg)] σ103 (fun r σ108 => zqi r (fun x109 => (zK σ108 r0 = 13) ∧ zM d 170 [.ref r0, .int x3, .int x7] σ108 (fun r σ111 => zqi r (fun x112 => (zK σ111 r0 = 13) ∧ (zK σ111 (zQ σ111 r0 35) = 20) ∧ (vp_in x2 (zN σ111 (zQ σ111 r0 35))) ∧ zM d 169 [.ref r0, .int x112, .int (zA σ111 (zQ σ111 r0 35) x2.toNatClampNeg)] σ111 (fun r σ116 => zqi r (fun x117 => (if ¬ x109 = x117 then zW (d + 1) 172 411 [(0, .ref r0), (2, .int x2), (3, .int x3), (4, .int x4), (5, .int x5), (6, .int x6), (7, .int (x7 + nI 1))] [] σ116 Q else Q (some (.int (nI 0))) σ116))))))))))) : zW (d + 1) 172 411 [(0, .ref r0), (2, .int x2), (3, .int x3), (4, .int x4), (5, .int x5), (6, .int x6), (7, .int x7)] [] σ Q := by
  refine zW_s rfl ?_
  refine zW_s rfl ?_
  refine zW_s rfl ?_
  refine zW_if (fun (c101 : x6 ≤ x7) => ?_) (fun (c101 : ¬ (x6 ≤ x7)) => ?_)
  · rw [if_pos c101] at h
    refine zW_s rfl ?_
    refine zW_s rfl ?_
    refine zW_k [0, 1, 2, 3, 4, 5] rfl ?_
    exact h
  · rw [if_neg c101] at h
    refine zW_s rfl ?_
    refine zW_s rfl ?_
    refine zW_s rfl ?_
    refine zW_s rfl ?_
    have hp102 := h.1; replace h := h.2
    refine zW_c rfl hp102 (zM_m h ?_)
    intro r σ103 h
    replace h := zqi_e h
    obtain ⟨x104, rfl, h⟩ := h
    refine zW_s rfl ?_
    have hp105 := h.1; replace h := h.2
    refine zW_p rfl hp105 ?_
    refine zW_s rfl ?_
    have hp106 := h.1; replace h := h.2
    have hp107 := h.1; replace h := h.2
    refine zW_p rfl ⟨hp106, hp107⟩ ?_
    refine zW_c rfl hp105 (zM_m h ?_)
    intro r σ108 h
    replace h := zqi_e h
    obtain ⟨x109, rfl, h⟩ := h
    refine zW_s rfl ?_
    refine zW_s rfl ?_
    refine zW_s rfl ?_
    refine zW_s rfl ?_
    have hp110 := h.1; replace h := h.2
    refine zW_c rfl hp110 (zM_m h ?_)
    intro r σ111 h
    replace h := zqi_e h
    obtain ⟨x112, rfl, h⟩ := h
    refine zW_s rfl ?_
    have hp113 := h.1; replace h := h.2
    refine zW_p rfl hp113 ?_
    refine zW_s rfl ?_
    have hp114 := h.1; replace h := h.2
    have hp115 := h.1; replace h := h.2
    refine zW_p rfl ⟨hp114, hp115⟩ ?_
    refine zW_c rfl hp113 (zM_m h ?_)
    intro r σ116 h
    replace h := zqi_e h
    obtain ⟨x117, rfl, h⟩ := h
    refine zW_s rfl ?_
    refine zW_if (fun (c118 : ¬ x109 = x117) => ?_) (fun (c118 : ¬ (¬ x109 = x117)) => ?_)
    · rw [if_pos c118] at h
      refine zW_s rfl ?_
      refine zW_s rfl ?_
      exact h
    · rw [if_neg c118] at h
      refine zW_s rfl ?_
      refine zW_r rfl (by decide) ?_
      exact h
