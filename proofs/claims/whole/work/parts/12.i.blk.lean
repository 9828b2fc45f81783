set_option maxHeartbeats 4000000 in
theorem b151 {d : Nat} {r0 : Nat} {x1 : Int32} {x2 : Int32} {σ : zH} {Q : Option Value → zH → Prop} (h : (zK σ r0 = 13) ∧ (if (zI σ r0 13) = (nI 2) then (if (zI σ r0 15) < x1 then zM d 144 [.ref r0, .int (nI 3), .int (zI σ r0 14)] σ (fun r σ104 => zqi r (fun x105 => (x105 = 0 ∨ x105 = 1) ∧ Q (some (.int x105)) σ104)) else (if (zI σ r0 15) ≤ x2 then zM d 142 [.ref r0] (zsI σ r0 20 (zI σ r0 15)) (fun r σ108 => zqv r (Q (some (.int (nI 1))) σ108)) else zM d 144 [.ref r0, .int (nI 3), .int (zI σ r0 14)] σ (fun r σ109 => zqi r (fun x110 => (x110 = 0 ∨ x110 = 1) ∧ Q (some (.int x110)) σ109)))) else zM d 145 [.ref r0] σ (fun r σ112 => zqi r (fun x113 => (x113 = 0 ∨ x113 = 1) ∧ Q (some (.int x113)) σ112)))) : zM (d + 1) 151 [.ref r0, .int x1, .int x2] σ Q := by
  unfold zM
  refine zW_s rfl ?_
  have hp101 := h.1; replace h := h.2
  refine zW_p rfl hp101 ?_
  refine zW_s rfl ?_
  refine zW_s rfl ?_
  refine zW_if (fun (c102 : (zI σ r0 13) = (nI 2)) => ?_) (fun (c102 : ¬ ((zI σ r0 13) = (nI 2))) => ?_)
  · rw [if_pos c102] at h
    refine zW_s rfl ?_
    refine zW_p rfl hp101 ?_
    refine zW_s rfl ?_
    refine zW_s rfl ?_
    refine zW_if (fun (c103 : (zI σ r0 15) < x1) => ?_) (fun (c103 : ¬ ((zI σ r0 15) < x1)) => ?_)
    · rw [if_pos c103] at h
      refine zW_s rfl ?_
      refine zW_s rfl ?_
      refine zW_s rfl ?_
      refine zW_p rfl hp101 ?_
      refine zW_c rfl hp101 (zM_m h ?_)
      intro r σ104 h
      replace h := zqi_e h
      obtain ⟨x105, rfl, h⟩ := h
      have hp106 := h.1; replace h := h.2
      refine zW_r rfl hp106 ?_
      exact h
    · rw [if_neg c103] at h
      refine zW_s rfl ?_
      refine zW_p rfl hp101 ?_
      refine zW_s rfl ?_
      refine zW_s rfl ?_
      refine zW_if (fun (c107 : (zI σ r0 15) ≤ x2) => ?_) (fun (c107 : ¬ ((zI σ r0 15) ≤ x2)) => ?_)
      · rw [if_pos c107] at h
        refine zW_s rfl ?_
        refine zW_s rfl ?_
        refine zW_p rfl hp101 ?_
        refine zW_p rfl hp101 ?_
        refine zW_s rfl ?_
        refine zW_c rfl hp101 (zM_m h ?_)
        intro r σ108 h
        replace h := zqv_e h
        obtain ⟨rfl, h⟩ := h
        refine zW_s rfl ?_
        refine zW_r rfl (by decide) ?_
        exact h
      · rw [if_neg c107] at h
        refine zW_s rfl ?_
        refine zW_s rfl ?_
        refine zW_s rfl ?_
        refine zW_p rfl hp101 ?_
        refine zW_c rfl hp101 (zM_m h ?_)
        intro r σ109 h
        replace h := zqi_e h
        obtain ⟨x110, rfl, h⟩ := h
        have hp111 := h.1; replace h := h.2
        refine zW_r rfl hp111 ?_
        exact h
  · rw [if_neg c102] at h
    refine zW_s rfl ?_
    refine zW_c rfl hp101 (zM_m h ?_)
    intro r σ112 h
    replace h := zqi_e h
    obtain ⟨x113, rfl, h⟩ := h
    have hp114 := h.1; replace h := h.2
    refine zW_r rfl hp114 ?_
    exact h
set_option maxHeartbeats 4000000 in
theorem b152 {d : Nat} {r0 : Nat} {σ : zH} {Q : Option Value → zH → Prop} (h : (zK σ r0 = 13) ∧ zM d 142 [.ref r0] (zsI (zsI (zsI (zsI (zsI (zsI (zsI (zsI σ r0 0 (nI 0)) r0 3 (zI (zsI σ r0 0 (nI 0)) r0 2)) r0 2 (nI 0)) r0 4 (nI 0)) r0 16 (nI 0)) r0 29 ((nI 1) - (zI (zsI (zsI (zsI (zsI (zsI σ r0 0 (nI 0)) r0 3 (zI (zsI σ r0 0 (nI 0)) r0 2)) r0 2 (nI 0)) r0 4 (nI 0)) r0 16 (nI 0)) r0 29))) r0 36 ((nI 800) * (zI (zsI (zsI (zsI (zsI (zsI (zsI σ r0 0 (nI 0)) r0 3 (zI (zsI σ r0 0 (nI 0)) r0 2)) r0 2 (nI 0)) r0 4 (nI 0)) r0 16 (nI 0)) r0 29 ((nI 1) - (zI (zsI (zsI (zsI (zsI (zsI σ r0 0 (nI 0)) r0 3 (zI (zsI σ r0 0 (nI 0)) r0 2)) r0 2 (nI 0)) r0 4 (nI 0)) r0 16 (nI 0)) r0 29))) r0 29))) r0 31 (nI 0)) (fun r σ102 => zqv r ((zK σ102 r0 = 13) ∧ zM d 153 [.ref r0, .int (nI 0)] σ102 (fun r σ104 => zqi r (fun x105 => (if x105 = 0 then zW (d + 1) 152 86 [(0, .ref r0), (1, .int (zI (zsI (zsI (zsI (zsI (zsI σ r0 0 (nI 0)) r0 3 (zI (zsI σ r0 0 (nI 0)) r0 2)) r0 2 (nI 0)) r0 4 (nI 0)) r0 16 (nI 0)) r0 29)), (2, .int x105)] [] σ104 Q else (zK σ104 r0 = 13) ∧ (if (zI σ104 r0 13) = 0 then zW (d + 1) 152 86 [(0, .ref r0), (1, .int (zI (zsI (zsI (zsI (zsI (zsI σ r0 0 (nI 0)) r0 3 (zI (zsI σ r0 0 (nI 0)) r0 2)) r0 2 (nI 0)) r0 4 (nI 0)) r0 16 (nI 0)) r0 29)), (2, .int x105)] [] σ104 Q else zM d 145 [.ref r0] σ104 (fun r σ109 => zqi r (fun x110 => zW (d + 1) 152 86 [(0, .ref r0), (1, .int (zI (zsI (zsI (zsI (zsI (zsI σ r0 0 (nI 0)) r0 3 (zI (zsI σ r0 0 (nI 0)) r0 2)) r0 2 (nI 0)) r0 4 (nI 0)) r0 16 (nI 0)) r0 29)), (2, .int x110)] [] σ109 Q))))))))) : zM (d + 1) 152 [.ref r0] σ Q := by
  unfold zM
  refine zW_s rfl ?_
  refine zW_s rfl ?_
  have hp101 := h.1; replace h := h.2
  refine zW_p rfl hp101 ?_
  refine zW_s rfl ?_
  refine zW_s rfl ?_
  refine zW_p rfl hp101 ?_
  refine zW_p rfl hp101 ?_
  refine zW_s rfl ?_
  refine zW_s rfl ?_
  refine zW_p rfl hp101 ?_
  refine zW_s rfl ?_
  refine zW_s rfl ?_
  refine zW_p rfl hp101 ?_
  refine zW_s rfl ?_
  refine zW_s rfl ?_
  refine zW_p rfl hp101 ?_
  refine zW_s rfl ?_
  refine zW_p rfl hp101 ?_
  refine zW_s rfl ?_
  refine zW_s rfl ?_
  refine zW_s rfl ?_
  refine zW_s rfl ?_
  refine zW_p rfl hp101 ?_
  refine zW_s rfl ?_
  refine zW_p rfl hp101 ?_
  refine zW_s rfl ?_
  refine zW_s rfl ?_
  refine zW_s rfl ?_
  refine zW_p rfl hp101 ?_
  refine zW_s rfl ?_
  refine zW_p rfl hp101 ?_
  refine zW_s rfl ?_
  refine zW_s rfl ?_
  refine zW_p rfl hp101 ?_
  refine zW_s rfl ?_
  refine zW_c rfl hp101 (zM_m h ?_)
  intro r σ102 h
  replace h := zqv_e h
  obtain ⟨rfl, h⟩ := h
  refine zW_s rfl ?_
  refine zW_s rfl ?_
  have hp103 := h.1; replace h := h.2
  refine zW_c rfl hp103 (zM_m h ?_)
  intro r σ104 h
  replace h := zqi_e h
  obtain ⟨x105, rfl, h⟩ := h
  refine zW_s rfl ?_
  refine zW_s rfl ?_
  refine zW_s rfl ?_
  refine zW_if (fun (c106 : x105 = 0) => ?_) (fun (c106 : ¬ (x105 = 0)) => ?_)
  · rw [if_pos c106] at h
    exact h
  · rw [if_neg c106] at h
    refine zW_s rfl ?_
    have hp107 := h.1; replace h := h.2
    refine zW_p rfl hp107 ?_
    refine zW_s rfl ?_
    refine zW_if (fun (c108 : (zI σ104 r0 13) = 0) => ?_) (fun (c108 : ¬ ((zI σ104 r0 13) = 0)) => ?_)
    · rw [if_pos c108] at h
      exact h
    · rw [if_neg c108] at h
      refine zW_s rfl ?_
      refine zW_c rfl hp107 (zM_m h ?_)
      intro r σ109 h
      replace h := zqi_e h
      obtain ⟨x110, rfl, h⟩ := h
      refine zW_s rfl ?_
      exact h
set_option maxHeartbeats 4000000 in
theorem b152_86 {d : Nat} {r0 : Nat} {x1 : Int32} {x2 : Int32} {σ : zH} {Q : Option Value → zH → Prop} (h : (if x2 = 0 then zW (d + 1) 152 114 [(0, .ref r0), (1, .int x1), (2, .int x2)] [] σ Q else (zK σ r0 = 13) ∧ zM d 159 [.ref r0, .int (nI 0), .int (zI σ r0 31)] σ (fun r σ103 => zqi r (fun x104 => (if x104 ≤ (nI 8) then zW (d + 1) 152 114 [(0, .ref r0), (1, .int x1), (2, .int x2)] [] σ103 Q else (zK σ103 r0 = 13) ∧ zM d 144 [.ref r0, .int (nI 5), .int (zI σ103 r0 3)] σ103 (fun r σ107 => zqi r (fun x108 => zW (d + 1) 152 114 [(0, .ref r0), (1, .int x1), (2, .int x108)] [] σ107 Q))))))) : zW (d + 1) 152 86 [(0, .ref r0), (1, .int x1), (2, .int x2)] [] σ Q := by
  refine zW_s rfl ?_
  refine zW_s rfl ?_
  refine zW_if (fun (c101 : x2 = 0) => ?_) (fun (c101 : ¬ (x2 = 0)) => ?_)
  · rw [if_pos c101] at h
    exact h
  · rw [if_neg c101] at h
    refine zW_s rfl ?_
    refine zW_s rfl ?_
    refine zW_s rfl ?_
    have hp102 := h.1; replace h := h.2
    refine zW_p rfl hp102 ?_
    refine zW_c rfl hp102 (zM_m h ?_)
    intro r σ103 h
    replace h := zqi_e h
    obtain ⟨x104, rfl, h⟩ := h
    refine zW_s rfl ?_
    refine zW_s rfl ?_
    refine zW_if (fun (c105 : x104 ≤ (nI 8)) => ?_) (fun (c105 : ¬ (x104 ≤ (nI 8))) => ?_)
    · rw [if_pos c105] at h
      exact h
    · rw [if_neg c105] at h
      refine zW_s rfl ?_
      refine zW_s rfl ?_
      refine zW_s rfl ?_
      have hp106 := h.1; replace h := h.2
      refine zW_p rfl hp106 ?_
      refine zW_c rfl hp106 (zM_m h ?_)
      intro r σ107 h
      replace h := zqi_e h
      obtain ⟨x108, rfl, h⟩ := h
      refine zW_s rfl ?_
      exact h
set_option maxHeartbeats 4000000 in
theorem b152_114 {d : Nat} {r0 : Nat} {x1 : Int32} {x2 : Int32} {σ : zH} {Q : Option Value → zH → Prop} (h : (if x2 = 0 then zW (d + 1) 152 144 [(0, .ref r0), (1, .int x1), (2, .int x2)] [] σ Q else (zK σ r0 = 13) ∧ zM d 158 [.ref r0, .int (nI 0), .int (zI σ r0 31)] σ (fun r σ103 => zqi r (fun x104 => (if x104 ≤ (nI 500) then zW (d + 1) 152 144 [(0, .ref r0), (1, .int x1), (2, .int x2)] [] σ103 Q else (zK σ103 r0 = 13) ∧ zM d 144 [.ref r0, .int (nI 6), .int (zI σ103 r0 3)] σ103 (fun r σ107 => zqi r (fun x108 => zW (d + 1) 152 144 [(0, .ref r0), (1, .int x1), (2, .int x108)] [] σ107 Q))))))) : zW (d + 1) 152 114 [(0, .ref r0), (1, .int x1), (2, .int x2)] [] σ Q := by
  refine zW_s rfl ?_
  refine zW_s rfl ?_
  refine zW_if (fun (c101 : x2 = 0) => ?_) (fun (c101 : ¬ (x2 = 0)) => ?_)
  · rw [if_pos c101] at h
    exact h
  · rw [if_neg c101] at h
    refine zW_s rfl ?_
    refine zW_s rfl ?_
    refine zW_s rfl ?_
    have hp102 := h.1; replace h := h.2
    refine zW_p rfl hp102 ?_
    refine zW_c rfl hp102 (zM_m h ?_)
    intro r σ103 h
    replace h := zqi_e h
    obtain ⟨x104, rfl, h⟩ := h
    refine zW_s rfl ?_
    refine zW_s rfl ?_
    refine zW_if (fun (c105 : x104 ≤ (nI 500)) => ?_) (fun (c105 : ¬ (x104 ≤ (nI 500))) => ?_)
    · rw [if_pos c105] at h
      exact h
    · rw [if_neg c105] at h
      refine zW_s rfl ?_
      refine zW_s rfl ?_
      refine zW_s rfl ?_
      have hp106 := h.1; replace h := h.2
      refine zW_p rfl hp106 ?_
      refine zW_c rfl hp106 (zM_m h ?_)
      intro r σ107 h
      replace h := zqi_e h
      obtain ⟨x108, rfl, h⟩ := h
      refine zW_s rfl ?_
      exact h
set_option maxHeartbeats 4000000 in
theorem b152_144 {d : Nat} {r0 : Nat} {x1 : Int32} {x2 : Int32} {σ : zH} {Q : Option Value → zH → Prop} (h : (if ¬ x2 = 0 then (zK σ r0 = 13) ∧ Q (some (.int (zI (zsI σ r0 30 (zI σ r0 31)) r0 30))) (zsI σ r0 30 (zI σ r0 31)) else (zK σ r0 = 13) ∧ Q (some (.int ((-1) - (zI (zsI σ r0 29 x1) r0 17)))) (zsI σ r0 29 x1))) : zW (d + 1) 152 144 [(0, .ref r0), (1, .int x1), (2, .int x2)] [] σ Q := by
  refine zW_s rfl ?_
  refine zW_s rfl ?_
  refine zW_if (fun (c101 : ¬ x2 = 0) => ?_) (fun (c101 : ¬ (¬ x2 = 0)) => ?_)
  · rw [if_pos c101] at h
    refine zW_s rfl ?_
    refine zW_s rfl ?_
    have hp102 := h.1; replace h := h.2
    refine zW_p rfl hp102 ?_
    refine zW_p rfl hp102 ?_
    refine zW_s rfl ?_
    refine zW_p rfl hp102 ?_
    refine zW_r rfl trivial ?_
    exact h
  · rw [if_neg c101] at h
    refine zW_s rfl ?_
    refine zW_s rfl ?_
    have hp103 := h.1; replace h := h.2
    refine zW_p rfl hp103 ?_
    refine zW_s rfl ?_
    refine zW_s rfl ?_
    refine zW_p rfl hp103 ?_
    refine zW_s rfl ?_
    refine zW_r rfl trivial ?_
    exact h
set_option maxHeartbeats 4000000 in
theorem b153 {d : Nat} {r0 : Nat} {x1 : Int32} {σ : zH} {Q : Option Value → zH → Prop} (h : zW (d + 1) 153 0 [(0, .ref r0), (1, .int x1)] [] σ Q) : zM (d + 1) 153 [.ref r0, .int x1] σ Q := by
  unfold zM
  exact h
set_option maxHeartbeats 4000000 in
theorem b153_0 {d : Nat} {r0 : Nat} {x1 : Int32} {σ : zH} {Q : Option Value → zH → Prop} (h : (zK σ r0 = 13) ∧ (if ¬ (zI σ r0 13) = (nI 1) then Q (some (.int (nI 1))) σ else zM d 155 [.ref r0, .int x1] σ (fun r σ103 => zqi r (fun x104 => (if ¬ x104 = 0 then zW (d + 1) 153 0 [(0, .ref r0), (1, .int x1)] [] σ103 Q else Q (some (.int (nI 0))) σ103))))) : zW (d + 1) 153 0 [(0, .ref r0), (1, .int x1)] [] σ Q := by
  refine zW_s rfl ?_
  have hp101 := h.1; replace h := h.2
  refine zW_p rfl hp101 ?_
  refine zW_s rfl ?_
  refine zW_s rfl ?_
  refine zW_if (fun (c102 : ¬ (zI σ r0 13) = (nI 1)) => ?_) (fun (c102 : ¬ (¬ (zI σ r0 13) = (nI 1))) => ?_)
  · rw [if_pos c102] at h
    refine zW_s rfl ?_
    refine zW_r rfl (by decide) ?_
    exact h
  · rw [if_neg c102] at h
    refine zW_s rfl ?_
    refine zW_s rfl ?_
    refine zW_c rfl hp101 (zM_m h ?_)
    intro r σ103 h
    replace h := zqi_e h
    obtain ⟨x104, rfl, h⟩ := h
    refine zW_s rfl ?_
    refine zW_if (fun (c105 : ¬ x104 = 0) => ?_) (fun (c105 : ¬ (¬ x104 = 0)) => ?_)
    · rw [if_pos c105] at h
      exact h
    · rw [if_neg c105] at h
      refine zW_s rfl ?_
      refine zW_r rfl (by decide) ?_
      exact h
set_option maxHeartbeats 4000000 in
theorem b154 {d : Nat} {r0 : Nat} {σ : zH} {Q : Option Value → zH → Prop} (h : (zK σ r0 = 13) ∧ zM d 148 [.ref r0, .long (lN 6518132)] σ (fun r σ102 => zqi r (fun x103 => (if ¬ x103 = 0 then Q (some (.int (nI 1))) σ102 else (zK σ102 r0 = 13) ∧ zM d 148 [.ref r0, .long (lN 1684365676)] σ102 (fun r σ106 => zqi r (fun x107 => (if ¬ x107 = 0 then Q (some (.int (nI 1))) σ106 else (zK σ106 r0 = 13) ∧ zM d 148 [.ref r0, .long (lN 1836021349)] σ106 (fun r σ110 => zqi r (fun x111 => (if ¬ x111 = 0 then Q (some (.int (nI 1))) σ110 else (zK σ110 r0 = 13) ∧ zM d 148 [.ref r0, .long (lN 1952541541)] σ110 (fun r σ114 => zqi r (fun x115 => (if ¬ x115 = 0 then Q (some (.int (nI 1))) σ114 else (zK σ114 r0 = 13) ∧ zM d 148 [.ref r0, .long (lN 1953854062)] σ114 (fun r σ118 => zqi r (fun x119 => (if ¬ x119 = 0 then Q (some (.int (nI 1))) σ118 else (zK σ118 r0 = 13) ∧ zM d 148 [.ref r0, .long (lN 1718380912)] σ118 (fun r σ122 => zqi r (fun x123 => (if ¬ x123 = 0 then Q (some (.int (nI 1))) σ122 else (zK σ122 r0 = 13) ∧ zM d 148 [.ref r0, .long (lN 125797015120997)] σ122 (fun r σ126 => zqi r (fun x127 => (if ¬ x127 = 0 then Q (some (.int (nI 1))) σ126 else (zK σ126 r0 = 13) ∧ zM d 148 [.ref r0, .long (lN 1717662319)] σ126 (fun r σ130 => zqi r (fun x131 => (if ¬ x131 = 0 then Q (some (.int (nI 1))) σ130 else (zK σ130 r0 = 13) ∧ zM d 148 [.ref r0, .long (lN 1685026670)] σ130 (fun r σ134 => zqi r (fun x135 => (if ¬ x135 = 0 then Q (some (.int (nI 1))) σ134 else (zK σ134 r0 = 13) ∧ zM d 148 [.ref r0, .long (lN 1937203568)] σ134 (fun r σ138 => zqi r (fun x139 => (if ¬ x139 = 0 then Q (some (.int (nI 1))) σ138 else (zK σ138 r0 = 13) ∧ zM d 148 [.ref r0, .long (lN 1835102827)] σ138 (fun r σ142 => zqi r (fun x143 => (if ¬ x143 = 0 then Q (some (.int (nI 1))) σ142 else (zK σ142 r0 = 13) ∧ zM d 148 [.ref r0, .long (lN 499984983411)] σ142 (fun r σ146 => zqi r (fun x147 => (if ¬ x147 = 0 then Q (some (.int (nI 1))) σ146 else (zK σ146 r0 = 13) ∧ zM d 148 [.ref r0, .long (lN 26982)] σ146 (fun r σ150 => zqi r (fun x151 => Q (some (.int (if x151 = 0 then nI 0 else nI 1))) σ150))))))))))))))))))))))))))))))))))))))) : zM (d + 1) 154 [.ref r0] σ Q := by
  unfold zM
  refine zW_s rfl ?_
  refine zW_s rfl ?_
  have hp101 := h.1; replace h := h.2
  refine zW_c rfl hp101 (zM_m h ?_)
  intro r σ102 h
  replace h := zqi_e h
  obtain ⟨x103, rfl, h⟩ := h
  refine zW_s rfl ?_
  refine zW_if (fun (c104 : ¬ x103 = 0) => ?_) (fun (c104 : ¬ (¬ x103 = 0)) => ?_)
  · rw [if_pos c104] at h
    refine zW_s rfl ?_
    refine zW_s rfl ?_
    refine zW_r rfl (by decide) ?_
    exact h
  · rw [if_neg c104] at h
    refine zW_s rfl ?_
    refine zW_s rfl ?_
    have hp105 := h.1; replace h := h.2
    refine zW_c rfl hp105 (zM_m h ?_)
    intro r σ106 h
    replace h := zqi_e h
    obtain ⟨x107, rfl, h⟩ := h
    refine zW_s rfl ?_
    refine zW_if (fun (c108 : ¬ x107 = 0) => ?_) (fun (c108 : ¬ (¬ x107 = 0)) => ?_)
    · rw [if_pos c108] at h
      refine zW_s rfl ?_
      refine zW_s rfl ?_
      refine zW_r rfl (by decide) ?_
      exact h
    · rw [if_neg c108] at h
      refine zW_s rfl ?_
      refine zW_s rfl ?_
      have hp109 := h.1; replace h := h.2
      refine zW_c rfl hp109 (zM_m h ?_)
      intro r σ110 h
      replace h := zqi_e h
      obtain ⟨x111, rfl, h⟩ := h
      refine zW_s rfl ?_
      refine zW_if (fun (c112 : ¬ x111 = 0) => ?_) (fun (c112 : ¬ (¬ x111 = 0)) => ?_)
      · rw [if_pos c112] at h
        refine zW_s rfl ?_
        refine zW_s rfl ?_
        refine zW_r rfl (by decide) ?_
        exact h
      · rw [if_neg c112] at h
        refine zW_s rfl ?_
        refine zW_s rfl ?_
        have hp113 := h.1; replace h := h.2
        refine zW_c rfl hp113 (zM_m h ?_)
        intro r σ114 h
        replace h := zqi_e h
        obtain ⟨x115, rfl, h⟩ := h
        refine zW_s rfl ?_
        refine zW_if (fun (c116 : ¬ x115 = 0) => ?_) (fun (c116 : ¬ (¬ x115 = 0)) => ?_)
        · rw [if_pos c116] at h
          refine zW_s rfl ?_
          refine zW_s rfl ?_
          refine zW_r rfl (by decide) ?_
          exact h
        · rw [if_neg c116] at h
          refine zW_s rfl ?_
          refine zW_s rfl ?_
          have hp117 := h.1; replace h := h.2
          refine zW_c rfl hp117 (zM_m h ?_)
          intro r σ118 h
          replace h := zqi_e h
          obtain ⟨x119, rfl, h⟩ := h
          refine zW_s rfl ?_
          refine zW_if (fun (c120 : ¬ x119 = 0) => ?_) (fun (c120 : ¬ (¬ x119 = 0)) => ?_)
          · rw [if_pos c120] at h
            refine zW_s rfl ?_
            refine zW_s rfl ?_
            refine zW_r rfl (by decide) ?_
            exact h
          · rw [if_neg c120] at h
            refine zW_s rfl ?_
            refine zW_s rfl ?_
            have hp121 := h.1; replace h := h.2
            refine zW_c rfl hp121 (zM_m h ?_)
            intro r σ122 h
            replace h := zqi_e h
            obtain ⟨x123, rfl, h⟩ := h
            refine zW_s rfl ?_
            refine zW_if (fun (c124 : ¬ x123 = 0) => ?_) (fun (c124 : ¬ (¬ x123 = 0)) => ?_)
            · rw [if_pos c124] at h
              refine zW_s rfl ?_
              refine zW_s rfl ?_
              refine zW_r rfl (by decide) ?_
              exact h
            · rw [if_neg c124] at h
              refine zW_s rfl ?_
              refine zW_s rfl ?_
              have hp125 := h.1; replace h := h.2
              refine zW_c rfl hp125 (zM_m h ?_)
              intro r σ126 h
              replace h := zqi_e h
              obtain ⟨x127, rfl, h⟩ := h
              refine zW_s rfl ?_
              refine zW_if (fun (c128 : ¬ x127 = 0) => ?_) (fun (c128 : ¬ (¬ x127 = 0)) => ?_)
              · rw [if_pos c128] at h
                refine zW_s rfl ?_
                refine zW_s rfl ?_
                refine zW_r rfl (by decide) ?_
                exact h
              · rw [if_neg c128] at h
                refine zW_s rfl ?_
                refine zW_s rfl ?_
                have hp129 := h.1; replace h := h.2
                refine zW_c rfl hp129 (zM_m h ?_)
                intro r σ130 h
                replace h := zqi_e h
                obtain ⟨x131, rfl, h⟩ := h
                refine zW_s rfl ?_
                refine zW_if (fun (c132 : ¬ x131 = 0) => ?_) (fun (c132 : ¬ (¬ x131 = 0)) => ?_)
                · rw [if_pos c132] at h
                  refine zW_s rfl ?_
                  refine zW_s rfl ?_
                  refine zW_r rfl (by decide) ?_
                  exact h
                · rw [if_neg c132] at h
                  refine zW_s rfl ?_
                  refine zW_s rfl ?_
                  have hp133 := h.1; replace h := h.2
                  refine zW_c rfl hp133 (zM_m h ?_)
                  intro r σ134 h
                  replace h := zqi_e h
                  obtain ⟨x135, rfl, h⟩ := h
                  refine zW_s rfl ?_
                  refine zW_if (fun (c136 : ¬ x135 = 0) => ?_) (fun (c136 : ¬ (¬ x135 = 0)) => ?_)
                  · rw [if_pos c136] at h
                    refine zW_s rfl ?_
                    refine zW_s rfl ?_
                    refine zW_r rfl (by decide) ?_
                    exact h
                  · rw [if_neg c136] at h
                    refine zW_s rfl ?_
                    refine zW_s rfl ?_
                    have hp137 := h.1; replace h := h.2
                    refine zW_c rfl hp137 (zM_m h ?_)
                    intro r σ138 h
                    replace h := zqi_e h
                    obtain ⟨x139, rfl, h⟩ := h
                    refine zW_s rfl ?_
                    refine zW_if (fun (c140 : ¬ x139 = 0) => ?_) (fun (c140 : ¬ (¬ x139 = 0)) => ?_)
                    · rw [if_pos c140] at h
                      refine zW_s rfl ?_
                      refine zW_s rfl ?_
                      refine zW_r rfl (by decide) ?_
                      exact h
                    · rw [if_neg c140] at h
                      refine zW_s rfl ?_
                      refine zW_s rfl ?_
                      have hp141 := h.1; replace h := h.2
                      refine zW_c rfl hp141 (zM_m h ?_)
                      intro r σ142 h
                      replace h := zqi_e h
                      obtain ⟨x143, rfl, h⟩ := h
                      refine zW_s rfl ?_
                      refine zW_if (fun (c144 : ¬ x143 = 0) => ?_) (fun (c144 : ¬ (¬ x143 = 0)) => ?_)
                      · rw [if_pos c144] at h
                        refine zW_s rfl ?_
                        refine zW_s rfl ?_
                        refine zW_r rfl (by decide) ?_
                        exact h
                      · rw [if_neg c144] at h
                        refine zW_s rfl ?_
                        refine zW_s rfl ?_
                        have hp145 := h.1; replace h := h.2
                        refine zW_c rfl hp145 (zM_m h ?_)
                        intro r σ146 h
                        replace h := zqi_e h
                        obtain ⟨x147, rfl, h⟩ := h
                        refine zW_s rfl ?_
                        refine zW_if (fun (c148 : ¬ x147 = 0) => ?_) (fun (c148 : ¬ (¬ x147 = 0)) => ?_)
                        · rw [if_pos c148] at h
                          refine zW_s rfl ?_
                          refine zW_s rfl ?_
                          refine zW_r rfl (by decide) ?_
                          exact h
                        · rw [if_neg c148] at h
                          refine zW_s rfl ?_
                          refine zW_s rfl ?_
                          have hp149 := h.1; replace h := h.2
                          refine zW_c rfl hp149 (zM_m h ?_)
                          intro r σ150 h
                          replace h := zqi_e h
                          obtain ⟨x151, rfl, h⟩ := h
                          refine zW_s rfl ?_
                          have k : ∀ v : Int32, v = (if x151 = 0 then nI 0 else nI 1) → zW (d + 1) 154 135 [(0, .ref r0)] [.int v] σ150 Q := by
                            intro v hv
                            subst hv
                            refine zW_r rfl zb01 ?_
                            exact h
                          refine zW_if (fun (c152 : x151 = 0) => ?_) (fun (c152 : ¬ (x151 = 0)) => ?_)
                          · replace k := k _ (if_pos c152).symm
                            refine zW_s rfl ?_
                            exact k
                          · replace k := k _ (if_neg c152).symm
                            refine zW_s rfl ?_
                            refine zW_s rfl ?_
                            exact k
set_option maxHeartbeats 4000000 in
theorem b155 {d : Nat} {r0 : Nat} {x1 : Int32} {σ : zH} {Q : Option Value → zH → Prop} (h : (zK σ r0 = 13) ∧ zM d 154 [.ref r0] σ (fun r σ102 => zqi r (fun x103 => (if ¬ x103 = 0 then (zK σ102 r0 = 13) ∧ (if ¬ (zI σ102 r0 31) = (nI 40) then (zK σ102 (zQ σ102 r0 21) = 21) ∧ (vp_in (((nI 48) * (zI σ102 r0 29)) + (zI σ102 r0 31)) (zN σ102 (zQ σ102 r0 21))) ∧ (zK σ102 (zQ σ102 r0 25) = 20) ∧ (vp_in (((nI 48) * (zI σ102 r0 29)) + (zI σ102 r0 31)) (zN σ102 (zQ σ102 r0 25))) ∧ zM d 142 [.ref r0] (zsA (zsB (zsI σ102 r0 31 ((zI σ102 r0 31) + (nI 1))) (zQ σ102 r0 21) (((nI 48) * (zI σ102 r0 29)) + (zI σ102 r0 31)).toNatClampNeg (zJ σ102 r0 18)) (zQ σ102 r0 25) (((nI 48) * (zI σ102 r0 29)) + (zI σ102 r0 31)).toNatClampNeg (nI 0)) (fun r σ111 => zqv r ((if ¬ (lg_cmp (zJ σ102 r0 18) (lN 499984983411)) = 0 then (if ¬ (lg_cmp (zJ σ102 r0 18) (lN 26982)) = 0 then (zK σ111 r0 = 13) ∧ zM d 150 [.ref r0] σ111 (fun r σ115 => zqi r (fun x116 => (if ¬ x116 = 0 then (zK σ115 r0 = 13) ∧ (zK σ115 (zQ σ115 r0 22) = 20) ∧ (vp_in (((nI 48) * (zI σ102 r0 29)) + (zI σ102 r0 31)) (zN σ115 (zQ σ115 r0 22))) ∧ (if (lg_cmp (zJ σ102 r0 18) (lN 125797015120997)) = 0 then zW (d + 1) 155 187 [(0, .ref r0), (2, .int (((nI 48) * (zI σ102 r0 29)) + (zI σ102 r0 31))), (3, .long (zJ σ102 r0 18))] [] (zsA σ115 (zQ σ115 r0 22) (((nI 48) * (zI σ102 r0 29)) + (zI σ102 r0 31)).toNatClampNeg (zI σ115 r0 19)) Q else (if (lg_cmp (zJ σ102 r0 18) (lN 1717662319)) = 0 then zW (d + 1) 155 187 [(0, .ref r0), (2, .int (((nI 48) * (zI σ102 r0 29)) + (zI σ102 r0 31))), (3, .long (zJ σ102 r0 18))] [] (zsA σ115 (zQ σ115 r0 22) (((nI 48) * (zI σ102 r0 29)) + (zI σ102 r0 31)).toNatClampNeg (zI σ115 r0 19)) Q else (if ¬ (lg_cmp (zJ σ102 r0 18) (lN 1937203568)) = 0 then zW (d + 1) 155 233 [(0, .ref r0), (2, .int (((nI 48) * (zI σ102 r0 29)) + (zI σ102 r0 31))), (3, .long (zJ σ102 r0 18))] [] (zsA σ115 (zQ σ115 r0 22) (((nI 48) * (zI σ102 r0 29)) + (zI σ102 r0 31)).toNatClampNeg (zI σ115 r0 19)) Q else zW (d + 1) 155 187 [(0, .ref r0), (2, .int (((nI 48) * (zI σ102 r0 29)) + (zI σ102 r0 31))), (3, .long (zJ σ102 r0 18))] [] (zsA σ115 (zQ σ115 r0 22) (((nI 48) * (zI σ102 r0 29)) + (zI σ102 r0 31)).toNatClampNeg (zI σ115 r0 19)) Q))) else Q (some (.int (nI 0))) σ115))) else (zK σ111 r0 = 13) ∧ zM d 157 [.ref r0, .int (((nI 48) * (zI σ102 r0 29)) + (zI σ102 r0 31)), .int x1] σ111 (fun r σ125 => zqi r (fun x126 => (x126 = 0 ∨ x126 = 1) ∧ Q (some (.int x126)) σ125))) else (zK σ111 r0 = 13) ∧ zM d 151 [.ref r0, .int (nI 2), .int (nI 9)] σ111 (fun r σ129 => zqi r (fun x130 => (if ¬ x130 = 0 then (zK σ129 r0 = 13) ∧ (zK σ129 (zQ σ129 r0 25) = 20) ∧ (vp_in (((nI 48) * (zI σ102 r0 29)) + (zI σ102 r0 31)) (zN σ129 (zQ σ129 r0 25))) ∧ zM d 156 [.ref r0, .int x1] (zsA σ129 (zQ σ129 r0 25) (((nI 48) * (zI σ102 r0 29)) + (zI σ102 r0 31)).toNatClampNeg (zI σ129 r0 20)) (fun r σ135 => zqi r (fun x136 => (if ¬ x136 = 0 then (zK σ135 r0 = 13) ∧ (zK σ135 (zQ σ135 r0 28) = 20) ∧ (vp_in (((nI 48) * (zI σ102 r0 29)) + (zI σ102 r0 31)) (zN σ135 (zQ σ135 r0 28))) ∧ Q (some (.int (nI 1))) (zsA σ135 (zQ σ135 r0 28) (((nI 48) * (zI σ102 r0 29)) + (zI σ102 r0 31)).toNatClampNeg (zI σ135 r0 31)) else Q (some (.int (nI 0))) σ135))) else Q (some (.int (nI 0))) σ129)))))) else zM d 144 [.ref r0, .int (nI 4), .int (zI σ102 r0 14)] σ102 (fun r σ141 => zqi r (fun x142 => (x142 = 0 ∨ x142 = 1) ∧ Q (some (.int x142)) σ141))) else (zK σ102 r0 = 13) ∧ zM d 145 [.ref r0] σ102 (fun r σ145 => zqi r (fun x146 => (x146 = 0 ∨ x146 = 1) ∧ Q (some (.int x146)) σ145)))))) : zM (d + 1) 155 [.ref r0, .int x1] σ Q := by
  unfold zM
  refine zW_s rfl ?_
  have hp101 := h.1; replace h := h.2
  refine zW_c rfl hp101 (zM_m h ?_)
  intro r σ102 h
  replace h := zqi_e h
  obtain ⟨x103, rfl, h⟩ := h
  refine zW_s rfl ?_
  refine zW_if (fun (c104 : ¬ x103 = 0) => ?_) (fun (c104 : ¬ (¬ x103 = 0)) => ?_)
  · rw [if_pos c104] at h
    refine zW_s rfl ?_
    have hp105 := h.1; replace h := h.2
    refine zW_p rfl hp105 ?_
    refine zW_s rfl ?_
    refine zW_s rfl ?_
    refine zW_if (fun (c106 : ¬ (zI σ102 r0 31) = (nI 40)) => ?_) (fun (c106 : ¬ (¬ (zI σ102 r0 31) = (nI 40))) => ?_)
    · rw [if_pos c106] at h
      refine zW_s rfl ?_
      refine zW_s rfl ?_
      refine zW_p rfl hp105 ?_
      refine zW_s rfl ?_
      refine zW_s rfl ?_
      refine zW_p rfl hp105 ?_
      refine zW_s rfl ?_
      refine zW_s rfl ?_
      refine zW_s rfl ?_
      refine zW_s rfl ?_
      refine zW_p rfl hp105 ?_
      refine zW_s rfl ?_
      refine zW_s rfl ?_
      refine zW_p rfl hp105 ?_
      refine zW_s rfl ?_
      refine zW_p rfl hp105 ?_
      refine zW_s rfl ?_
      refine zW_s rfl ?_
      refine zW_p rfl hp105 ?_
      refine zW_s rfl ?_
      refine zW_s rfl ?_
      have hp107 := h.1; replace h := h.2
      have hp108 := h.1; replace h := h.2
      refine zW_p rfl ⟨hp107, hp108⟩ ?_
      refine zW_s rfl ?_
      refine zW_p rfl hp105 ?_
      refine zW_s rfl ?_
      refine zW_s rfl ?_
      have hp109 := h.1; replace h := h.2
      have hp110 := h.1; replace h := h.2
      refine zW_p rfl ⟨hp109, hp110⟩ ?_
      refine zW_s rfl ?_
      refine zW_c rfl hp105 (zM_m h ?_)
      intro r σ111 h
      replace h := zqv_e h
      obtain ⟨rfl, h⟩ := h
      refine zW_s rfl ?_
      refine zW_s rfl ?_
      refine zW_s rfl ?_
      refine zW_s rfl ?_
      refine zW_if (fun (c112 : ¬ (lg_cmp (zJ σ102 r0 18) (lN 499984983411)) = 0) => ?_) (fun (c112 : ¬ (¬ (lg_cmp (zJ σ102 r0 18) (lN 499984983411)) = 0)) => ?_)
      · rw [if_pos c112] at h
        refine zW_s rfl ?_
        refine zW_s rfl ?_
        refine zW_s rfl ?_
        refine zW_s rfl ?_
        refine zW_if (fun (c113 : ¬ (lg_cmp (zJ σ102 r0 18) (lN 26982)) = 0) => ?_) (fun (c113 : ¬ (¬ (lg_cmp (zJ σ102 r0 18) (lN 26982)) = 0)) => ?_)
        · rw [if_pos c113] at h
          refine zW_s rfl ?_
          have hp114 := h.1; replace h := h.2
          refine zW_c rfl hp114 (zM_m h ?_)
          intro r σ115 h
          replace h := zqi_e h
          obtain ⟨x116, rfl, h⟩ := h
          refine zW_s rfl ?_
          refine zW_if (fun (c117 : ¬ x116 = 0) => ?_) (fun (c117 : ¬ (¬ x116 = 0)) => ?_)
          · rw [if_pos c117] at h
            refine zW_s rfl ?_
            have hp118 := h.1; replace h := h.2
            refine zW_p rfl hp118 ?_
            refine zW_s rfl ?_
            refine zW_s rfl ?_
            refine zW_p rfl hp118 ?_
            have hp119 := h.1; replace h := h.2
            have hp120 := h.1; replace h := h.2
            refine zW_p rfl ⟨hp119, hp120⟩ ?_
            refine zW_s rfl ?_
            refine zW_s rfl ?_
            refine zW_s rfl ?_
            refine zW_s rfl ?_
            refine zW_if (fun (c121 : (lg_cmp (zJ σ102 r0 18) (lN 125797015120997)) = 0) => ?_) (fun (c121 : ¬ ((lg_cmp (zJ σ102 r0 18) (lN 125797015120997)) = 0)) => ?_)
            · rw [if_pos c121] at h
              refine zW_k [0, 2, 3] rfl ?_
              exact h
            · rw [if_neg c121] at h
              refine zW_s rfl ?_
              refine zW_s rfl ?_
              refine zW_s rfl ?_
              refine zW_s rfl ?_
              refine zW_if (fun (c122 : (lg_cmp (zJ σ102 r0 18) (lN 1717662319)) = 0) => ?_) (fun (c122 : ¬ ((lg_cmp (zJ σ102 r0 18) (lN 1717662319)) = 0)) => ?_)
              · rw [if_pos c122] at h
                refine zW_k [0, 2, 3] rfl ?_
                exact h
              · rw [if_neg c122] at h
                refine zW_s rfl ?_
                refine zW_s rfl ?_
                refine zW_s rfl ?_
                refine zW_s rfl ?_
                refine zW_if (fun (c123 : ¬ (lg_cmp (zJ σ102 r0 18) (lN 1937203568)) = 0) => ?_) (fun (c123 : ¬ (¬ (lg_cmp (zJ σ102 r0 18) (lN 1937203568)) = 0)) => ?_)
                · rw [if_pos c123] at h
                  refine zW_k [0, 2, 3] rfl ?_
                  exact h
                · rw [if_neg c123] at h
                  refine zW_k [0, 2, 3] rfl ?_
                  exact h
          · rw [if_neg c117] at h
            refine zW_s rfl ?_
            refine zW_r rfl (by decide) ?_
            exact h
        · rw [if_neg c113] at h
          refine zW_s rfl ?_
          refine zW_s rfl ?_
          refine zW_s rfl ?_
          have hp124 := h.1; replace h := h.2
          refine zW_c rfl hp124 (zM_m h ?_)
          intro r σ125 h
          replace h := zqi_e h
          obtain ⟨x126, rfl, h⟩ := h
          have hp127 := h.1; replace h := h.2
          refine zW_r rfl hp127 ?_
          exact h
      · rw [if_neg c112] at h
        refine zW_s rfl ?_
        refine zW_s rfl ?_
        refine zW_s rfl ?_
        have hp128 := h.1; replace h := h.2
        refine zW_c rfl hp128 (zM_m h ?_)
        intro r σ129 h
        replace h := zqi_e h
        obtain ⟨x130, rfl, h⟩ := h
        refine zW_s rfl ?_
        refine zW_if (fun (c131 : ¬ x130 = 0) => ?_) (fun (c131 : ¬ (¬ x130 = 0)) => ?_)
        · rw [if_pos c131] at h
          refine zW_s rfl ?_
          have hp132 := h.1; replace h := h.2
          refine zW_p rfl hp132 ?_
          refine zW_s rfl ?_
          refine zW_s rfl ?_
          refine zW_p rfl hp132 ?_
          have hp133 := h.1; replace h := h.2
          have hp134 := h.1; replace h := h.2
          refine zW_p rfl ⟨hp133, hp134⟩ ?_
          refine zW_s rfl ?_
          refine zW_s rfl ?_
          refine zW_c rfl hp132 (zM_m h ?_)
          intro r σ135 h
          replace h := zqi_e h
          obtain ⟨x136, rfl, h⟩ := h
          refine zW_s rfl ?_
          refine zW_if (fun (c137 : ¬ x136 = 0) => ?_) (fun (c137 : ¬ (¬ x136 = 0)) => ?_)
          · rw [if_pos c137] at h
            refine zW_s rfl ?_
            have hp138 := h.1; replace h := h.2
            refine zW_p rfl hp138 ?_
            refine zW_s rfl ?_
            refine zW_s rfl ?_
            refine zW_p rfl hp138 ?_
            have hp139 := h.1; replace h := h.2
            have hp140 := h.1; replace h := h.2
            refine zW_p rfl ⟨hp139, hp140⟩ ?_
            refine zW_s rfl ?_
            refine zW_r rfl (by decide) ?_
            exact h
          · rw [if_neg c137] at h
            refine zW_s rfl ?_
            refine zW_r rfl (by decide) ?_
            exact h
        · rw [if_neg c131] at h
          refine zW_s rfl ?_
          refine zW_r rfl (by decide) ?_
          exact h
    · rw [if_neg c106] at h
      refine zW_s rfl ?_
      refine zW_s rfl ?_
      refine zW_s rfl ?_
      refine zW_p rfl hp105 ?_
      refine zW_c rfl hp105 (zM_m h ?_)
      intro r σ141 h
      replace h := zqi_e h
      obtain ⟨x142, rfl, h⟩ := h
      have hp143 := h.1; replace h := h.2
      refine zW_r rfl hp143 ?_
      exact h
  · rw [if_neg c104] at h
    refine zW_s rfl ?_
    have hp144 := h.1; replace h := h.2
    refine zW_c rfl hp144 (zM_m h ?_)
    intro r σ145 h
    replace h := zqi_e h
    obtain ⟨x146, rfl, h⟩ := h
    have hp147 := h.1; replace h := h.2
    refine zW_r rfl hp147 ?_
    exact h
set_option maxHeartbeats 4000000 in
theorem b155_187 {d : Nat} {r0 : Nat} {x2 : Int32} {y3 : Int64} {σ : zH} {Q : Option Value → zH → Prop} (h : (zK σ r0 = 13) ∧ zM d 150 [.ref r0] σ (fun r σ102 => zqi r (fun x103 => (if ¬ x103 = 0 then (zK σ102 r0 = 13) ∧ (zK σ102 (zQ σ102 r0 22) = 20) ∧ (vp_in x2 (zN σ102 (zQ σ102 r0 22))) ∧ (if ¬ (zI σ102 r0 19) = (zA σ102 (zQ σ102 r0 22) x2.toNatClampNeg) then (zK σ102 (zQ σ102 r0 23) = 20) ∧ (vp_in x2 (zN σ102 (zQ σ102 r0 23))) ∧ zW (d + 1) 155 233 [(0, .ref r0), (2, .int x2), (3, .long y3)] [] (zsA σ102 (zQ σ102 r0 23) x2.toNatClampNeg (zI σ102 r0 19)) Q else zM d 144 [.ref r0, .int (nI 3), .int (zI σ r0 14)] σ102 (fun r σ111 => zqi r (fun x112 => (x112 = 0 ∨ x112 = 1) ∧ Q (some (.int x112)) σ111))) else Q (some (.int (nI 0))) σ102)))) : zW (d + 1) 155 187 [(0, .ref r0), (2, .int x2), (3, .long y3)] [] σ Q := by
  refine zW_s rfl ?_
  have hp101 := h.1; replace h := h.2
  refine zW_p rfl hp101 ?_
  refine zW_s rfl ?_
  refine zW_s rfl ?_
  refine zW_c rfl hp101 (zM_m h ?_)
  intro r σ102 h
  replace h := zqi_e h
  obtain ⟨x103, rfl, h⟩ := h
  refine zW_s rfl ?_
  refine zW_if (fun (c104 : ¬ x103 = 0) => ?_) (fun (c104 : ¬ (¬ x103 = 0)) => ?_)
  · rw [if_pos c104] at h
    refine zW_s rfl ?_
    have hp105 := h.1; replace h := h.2
    refine zW_p rfl hp105 ?_
    refine zW_s rfl ?_
    refine zW_p rfl hp105 ?_
    refine zW_s rfl ?_
    have hp106 := h.1; replace h := h.2
    have hp107 := h.1; replace h := h.2
    refine zW_p rfl ⟨hp106, hp107⟩ ?_
    refine zW_s rfl ?_
    refine zW_if (fun (c108 : ¬ (zI σ102 r0 19) = (zA σ102 (zQ σ102 r0 22) x2.toNatClampNeg)) => ?_) (fun (c108 : ¬ (¬ (zI σ102 r0 19) = (zA σ102 (zQ σ102 r0 22) x2.toNatClampNeg))) => ?_)
    · rw [if_pos c108] at h
      refine zW_s rfl ?_
      refine zW_p rfl hp105 ?_
      refine zW_s rfl ?_
      refine zW_s rfl ?_
      refine zW_p rfl hp105 ?_
      have hp109 := h.1; replace h := h.2
      have hp110 := h.1; replace h := h.2
      refine zW_p rfl ⟨hp109, hp110⟩ ?_
      refine zW_k [0, 1, 2] rfl ?_
      exact h
    · rw [if_neg c108] at h
      refine zW_s rfl ?_
      refine zW_s rfl ?_
      refine zW_s rfl ?_
      refine zW_c rfl hp105 (zM_m h ?_)
      intro r σ111 h
      replace h := zqi_e h
      obtain ⟨x112, rfl, h⟩ := h
      have hp113 := h.1; replace h := h.2
      refine zW_r rfl hp113 ?_
      exact h
  · rw [if_neg c104] at h
    refine zW_s rfl ?_
    refine zW_r rfl (by decide) ?_
    exact h
set_option maxHeartbeats 4000000 in
theorem b155_233 {d : Nat} {r0 : Nat} {x2 : Int32} {y3 : Int64} {σ : zH} {Q : Option Value → zH → Prop} (h : (if (lg_cmp y3 (lN 6518132)) = 0 then zW (d + 1) 155 265 [(0, .ref r0), (2, .int x2), (3, .long y3)] [] σ Q else (if (lg_cmp y3 (lN 1684365676)) = 0 then zW (d + 1) 155 265 [(0, .ref r0), (2, .int x2), (3, .long y3)] [] σ Q else (if (lg_cmp y3 (lN 1836021349)) = 0 then zW (d + 1) 155 265 [(0, .ref r0), (2, .int x2), (3, .long y3)] [] σ Q else (if ¬ (lg_cmp y3 (lN 1953854062)) = 0 then zW (d + 1) 155 337 [(0, .ref r0), (2, .int x2), (3, .long y3)] [] σ Q else zW (d + 1) 155 265 [(0, .ref r0), (2, .int x2), (3, .long y3)] [] σ Q))))) : zW (d + 1) 155 233 [(0, .ref r0), (2, .int x2), (3, .long y3)] [] σ Q := by
  refine zW_s rfl ?_
  refine zW_s rfl ?_
  refine zW_s rfl ?_
  refine zW_s rfl ?_
  refine zW_if (fun (c101 : (lg_cmp y3 (lN 6518132)) = 0) => ?_) (fun (c101 : ¬ ((lg_cmp y3 (lN 6518132)) = 0)) => ?_)
  · rw [if_pos c101] at h
    exact h
  · rw [if_neg c101] at h
    refine zW_s rfl ?_
    refine zW_s rfl ?_
    refine zW_s rfl ?_
    refine zW_s rfl ?_
    refine zW_if (fun (c102 : (lg_cmp y3 (lN 1684365676)) = 0) => ?_) (fun (c102 : ¬ ((lg_cmp y3 (lN 1684365676)) = 0)) => ?_)
    · rw [if_pos c102] at h
      exact h
    · rw [if_neg c102] at h
      refine zW_s rfl ?_
      refine zW_s rfl ?_
      refine zW_s rfl ?_
      refine zW_s rfl ?_
      refine zW_if (fun (c103 : (lg_cmp y3 (lN 1836021349)) = 0) => ?_) (fun (c103 : ¬ ((lg_cmp y3 (lN 1836021349)) = 0)) => ?_)
      · rw [if_pos c103] at h
        exact h
      · rw [if_neg c103] at h
        refine zW_s rfl ?_
        refine zW_s rfl ?_
        refine zW_s rfl ?_
        refine zW_s rfl ?_
        refine zW_if (fun (c104 : ¬ (lg_cmp y3 (lN 1953854062)) = 0) => ?_) (fun (c104 : ¬ (¬ (lg_cmp y3 (lN 1953854062)) = 0)) => ?_)
        · rw [if_pos c104] at h
          exact h
        · rw [if_neg c104] at h
          exact h
set_option maxHeartbeats 4000000 in
theorem b155_265 {d : Nat} {r0 : Nat} {x2 : Int32} {y3 : Int64} {σ : zH} {Q : Option Value → zH → Prop} (h : (zK σ r0 = 13) ∧ zM d 148 [.ref r0, .long (lN 6384748)] σ (fun r σ102 => zqi r (fun x103 => (if ¬ x103 = 0 then zW (d + 1) 155 285 [(0, .ref r0), (2, .int x2), (3, .long y3)] [] σ102 Q else (zK σ102 r0 = 13) ∧ zM d 148 [.ref r0, .long (lN 1718773093)] σ102 (fun r σ106 => zqi r (fun x107 => (if x107 = 0 then (zK σ106 r0 = 13) ∧ zM d 151 [.ref r0, .int (nI 0), .int (nI 9)] σ106 (fun r σ110 => zqi r (fun x111 => (if ¬ x111 = 0 then (zK σ110 r0 = 13) ∧ (zK σ110 (zQ σ110 r0 25) = 20) ∧ (vp_in x2 (zN σ110 (zQ σ110 r0 25))) ∧ zW (d + 1) 155 337 [(0, .ref r0), (2, .int x2), (3, .long y3)] [] (zsA σ110 (zQ σ110 r0 25) x2.toNatClampNeg (zI σ110 r0 20)) Q else Q (some (.int (nI 0))) σ110))) else zW (d + 1) 155 285 [(0, .ref r0), (2, .int x2), (3, .long y3)] [] σ106 Q))))))) : zW (d + 1) 155 265 [(0, .ref r0), (2, .int x2), (3, .long y3)] [] σ Q := by
  refine zW_s rfl ?_
  refine zW_s rfl ?_
  have hp101 := h.1; replace h := h.2
  refine zW_c rfl hp101 (zM_m h ?_)
  intro r σ102 h
  replace h := zqi_e h
  obtain ⟨x103, rfl, h⟩ := h
  refine zW_s rfl ?_
  refine zW_if (fun (c104 : ¬ x103 = 0) => ?_) (fun (c104 : ¬ (¬ x103 = 0)) => ?_)
  · rw [if_pos c104] at h
    exact h
  · rw [if_neg c104] at h
    refine zW_s rfl ?_
    refine zW_s rfl ?_
    have hp105 := h.1; replace h := h.2
    refine zW_c rfl hp105 (zM_m h ?_)
    intro r σ106 h
    replace h := zqi_e h
    obtain ⟨x107, rfl, h⟩ := h
    refine zW_s rfl ?_
    refine zW_if (fun (c108 : x107 = 0) => ?_) (fun (c108 : ¬ (x107 = 0)) => ?_)
    · rw [if_pos c108] at h
      refine zW_s rfl ?_
      refine zW_s rfl ?_
      refine zW_s rfl ?_
      have hp109 := h.1; replace h := h.2
      refine zW_c rfl hp109 (zM_m h ?_)
      intro r σ110 h
      replace h := zqi_e h
      obtain ⟨x111, rfl, h⟩ := h
      refine zW_s rfl ?_
      refine zW_if (fun (c112 : ¬ x111 = 0) => ?_) (fun (c112 : ¬ (¬ x111 = 0)) => ?_)
      · rw [if_pos c112] at h
        refine zW_s rfl ?_
        have hp113 := h.1; replace h := h.2
        refine zW_p rfl hp113 ?_
        refine zW_s rfl ?_
        refine zW_s rfl ?_
        refine zW_p rfl hp113 ?_
        have hp114 := h.1; replace h := h.2
        have hp115 := h.1; replace h := h.2
        refine zW_p rfl ⟨hp114, hp115⟩ ?_
        exact h
      · rw [if_neg c112] at h
        refine zW_s rfl ?_
        refine zW_r rfl (by decide) ?_
        exact h
    · rw [if_neg c108] at h
      exact h
set_option maxHeartbeats 4000000 in
theorem b155_337 {d : Nat} {r0 : Nat} {x2 : Int32} {y3 : Int64} {σ : zH} {Q : Option Value → zH → Prop} (h : (if (lg_cmp y3 (lN 1952541541)) = 0 then zW (d + 1) 155 361 [(0, .ref r0), (2, .int x2), (3, .long y3)] [] σ Q else (if (lg_cmp y3 (lN 1718380912)) = 0 then zW (d + 1) 155 361 [(0, .ref r0), (2, .int x2), (3, .long y3)] [] σ Q else (if ¬ (lg_cmp y3 (lN 1835102827)) = 0 then zW (d + 1) 155 408 [(0, .ref r0), (2, .int x2), (3, .long y3)] [] σ Q else zW (d + 1) 155 361 [(0, .ref r0), (2, .int x2), (3, .long y3)] [] σ Q)))) : zW (d + 1) 155 337 [(0, .ref r0), (2, .int x2), (3, .long y3)] [] σ Q := by
  refine zW_s rfl ?_
  refine zW_s rfl ?_
  refine zW_s rfl ?_
  refine zW_s rfl ?_
  refine zW_if (fun (c101 : (lg_cmp y3 (lN 1952541541)) = 0) => ?_) (fun (c101 : ¬ ((lg_cmp y3 (lN 1952541541)) = 0)) => ?_)
  · rw [if_pos c101] at h
    exact h
  · rw [if_neg c101] at h
    refine zW_s rfl ?_
    refine zW_s rfl ?_
    refine zW_s rfl ?_
    refine zW_s rfl ?_
    refine zW_if (fun (c102 : (lg_cmp y3 (lN 1718380912)) = 0) => ?_) (fun (c102 : ¬ ((lg_cmp y3 (lN 1718380912)) = 0)) => ?_)
    · rw [if_pos c102] at h
      exact h
    · rw [if_neg c102] at h
      refine zW_s rfl ?_
      refine zW_s rfl ?_
      refine zW_s rfl ?_
      refine zW_s rfl ?_
      refine zW_if (fun (c103 : ¬ (lg_cmp y3 (lN 1835102827)) = 0) => ?_) (fun (c103 : ¬ (¬ (lg_cmp y3 (lN 1835102827)) = 0)) => ?_)
      · rw [if_pos c103] at h
        exact h
      · rw [if_neg c103] at h
        exact h
set_option maxHeartbeats 4000000 in
theorem b155_285 {d : Nat} {r0 : Nat} {x2 : Int32} {y3 : Int64} {σ : zH} {Q : Option Value → zH → Prop} (h : (zK σ r0 = 13) ∧ zM d 148 [.ref r0, .long (lN 6384748)] σ (fun r σ102 => zqi r (fun x103 => (zK σ102 (zQ σ r0 25) = 20) ∧ (vp_in x2 (zN σ102 (zQ σ r0 25))) ∧ (zK σ102 r0 = 13) ∧ zM d 142 [.ref r0] (zsA σ102 (zQ σ r0 25) x2.toNatClampNeg (if x103 = 0 then nI 11 else nI 10)) (fun r σ108 => zqv r (zW (d + 1) 155 337 [(0, .ref r0), (2, .int x2), (3, .long y3)] [] σ108 Q))))) : zW (d + 1) 155 285 [(0, .ref r0), (2, .int x2), (3, .long y3)] [] σ Q := by
  refine zW_s rfl ?_
  have hp101 := h.1; replace h := h.2
  refine zW_p rfl hp101 ?_
  refine zW_s rfl ?_
  refine zW_s rfl ?_
  refine zW_s rfl ?_
  refine zW_c rfl hp101 (zM_m h ?_)
  intro r σ102 h
  replace h := zqi_e h
  obtain ⟨x103, rfl, h⟩ := h
  refine zW_s rfl ?_
  have k : ∀ v : Int32, v = (if x103 = 0 then nI 11 else nI 10) → zW (d + 1) 155 307 [(0, .ref r0), (2, .int x2), (3, .long y3)] [.int v, .int x2, .ref (zQ σ r0 25)] σ102 Q := by
    intro v hv
    subst hv
    have hp105 := h.1; replace h := h.2
    have hp106 := h.1; replace h := h.2
    refine zW_p rfl ⟨hp105, hp106⟩ ?_
    refine zW_s rfl ?_
    have hp107 := h.1; replace h := h.2
    refine zW_c rfl hp107 (zM_m h ?_)
    intro r σ108 h
    replace h := zqv_e h
    obtain ⟨rfl, h⟩ := h
    refine zW_s rfl ?_
    exact h
  refine zW_if (fun (c104 : x103 = 0) => ?_) (fun (c104 : ¬ (x103 = 0)) => ?_)
  · replace k := k _ (if_pos c104).symm
    refine zW_s rfl ?_
    exact k
  · replace k := k _ (if_neg c104).symm
    refine zW_s rfl ?_
    refine zW_s rfl ?_
    exact k
set_option maxHeartbeats 4000000 in
theorem b155_361 {d : Nat} {r0 : Nat} {x2 : Int32} {y3 : Int64} {σ : zH} {Q : Option Value → zH → Prop} (h : (zK σ r0 = 13) ∧ zM d 148 [.ref r0, .long (lN 1718773093)] σ (fun r σ102 => zqi r (fun x103 => (if x103 = 0 then (zK σ102 r0 = 13) ∧ zM d 151 [.ref r0, .int (nI 1), .int (nI 9)] σ102 (fun r σ106 => zqi r (fun x107 => (if ¬ x107 = 0 then (zK σ106 r0 = 13) ∧ (zK σ106 (zQ σ106 r0 25) = 20) ∧ (vp_in x2 (zN σ106 (zQ σ106 r0 25))) ∧ zW (d + 1) 155 408 [(0, .ref r0), (2, .int x2), (3, .long y3)] [] (zsA σ106 (zQ σ106 r0 25) x2.toNatClampNeg (zI σ106 r0 20)) Q else Q (some (.int (nI 0))) σ106))) else (zK σ102 r0 = 13) ∧ (zK σ102 (zQ σ102 r0 25) = 20) ∧ (vp_in x2 (zN σ102 (zQ σ102 r0 25))) ∧ zM d 142 [.ref r0] (zsA σ102 (zQ σ102 r0 25) x2.toNatClampNeg (nI 11)) (fun r σ115 => zqv r (zW (d + 1) 155 408 [(0, .ref r0), (2, .int x2), (3, .long y3)] [] σ115 Q)))))) : zW (d + 1) 155 361 [(0, .ref r0), (2, .int x2), (3, .long y3)] [] σ Q := by
  refine zW_s rfl ?_
  refine zW_s rfl ?_
  have hp101 := h.1; replace h := h.2
  refine zW_c rfl hp101 (zM_m h ?_)
  intro r σ102 h
  replace h := zqi_e h
  obtain ⟨x103, rfl, h⟩ := h
  refine zW_s rfl ?_
  refine zW_if (fun (c104 : x103 = 0) => ?_) (fun (c104 : ¬ (x103 = 0)) => ?_)
  · rw [if_pos c104] at h
    refine zW_s rfl ?_
    refine zW_s rfl ?_
    refine zW_s rfl ?_
    have hp105 := h.1; replace h := h.2
    refine zW_c rfl hp105 (zM_m h ?_)
    intro r σ106 h
    replace h := zqi_e h
    obtain ⟨x107, rfl, h⟩ := h
    refine zW_s rfl ?_
    refine zW_if (fun (c108 : ¬ x107 = 0) => ?_) (fun (c108 : ¬ (¬ x107 = 0)) => ?_)
    · rw [if_pos c108] at h
      refine zW_s rfl ?_
      have hp109 := h.1; replace h := h.2
      refine zW_p rfl hp109 ?_
      refine zW_s rfl ?_
      refine zW_s rfl ?_
      refine zW_p rfl hp109 ?_
      have hp110 := h.1; replace h := h.2
      have hp111 := h.1; replace h := h.2
      refine zW_p rfl ⟨hp110, hp111⟩ ?_
      exact h
    · rw [if_neg c108] at h
      refine zW_s rfl ?_
      refine zW_r rfl (by decide) ?_
      exact h
  · rw [if_neg c104] at h
    refine zW_s rfl ?_
    have hp112 := h.1; replace h := h.2
    refine zW_p rfl hp112 ?_
    refine zW_s rfl ?_
    refine zW_s rfl ?_
    have hp113 := h.1; replace h := h.2
    have hp114 := h.1; replace h := h.2
    refine zW_p rfl ⟨hp113, hp114⟩ ?_
    refine zW_s rfl ?_
    refine zW_c rfl hp112 (zM_m h ?_)
    intro r σ115 h
    replace h := zqv_e h
    obtain ⟨rfl, h⟩ := h
    refine zW_s rfl ?_
    exact h
set_option maxHeartbeats 4000000 in
theorem b155_408 {d : Nat} {r0 : Nat} {x2 : Int32} {y3 : Int64} {σ : zH} {Q : Option Value → zH → Prop} (h : (if (lg_cmp y3 (lN 1684365676)) = 0 then zW (d + 1) 155 456 [(0, .ref r0), (2, .int x2), (3, .long y3)] [] σ Q else (if (lg_cmp y3 (lN 1836021349)) = 0 then zW (d + 1) 155 456 [(0, .ref r0), (2, .int x2), (3, .long y3)] [] σ Q else (if (lg_cmp y3 (lN 1952541541)) = 0 then zW (d + 1) 155 456 [(0, .ref r0), (2, .int x2), (3, .long y3)] [] σ Q else (if (lg_cmp y3 (lN 1685026670)) = 0 then zW (d + 1) 155 456 [(0, .ref r0), (2, .int x2), (3, .long y3)] [] σ Q else (if (lg_cmp y3 (lN 125797015120997)) = 0 then zW (d + 1) 155 456 [(0, .ref r0), (2, .int x2), (3, .long y3)] [] σ Q else (if ¬ (lg_cmp y3 (lN 1717662319)) = 0 then (zK σ r0 = 13) ∧ zM d 147 [.ref r0, .int (nI 59)] σ (fun r σ108 => zqi r (fun x109 => (x109 = 0 ∨ x109 = 1) ∧ Q (some (.int x109)) σ108)) else zW (d + 1) 155 456 [(0, .ref r0), (2, .int x2), (3, .long y3)] [] σ Q))))))) : zW (d + 1) 155 408 [(0, .ref r0), (2, .int x2), (3, .long y3)] [] σ Q := by
  refine zW_s rfl ?_
  refine zW_s rfl ?_
  refine zW_s rfl ?_
  refine zW_s rfl ?_
  refine zW_if (fun (c101 : (lg_cmp y3 (lN 1684365676)) = 0) => ?_) (fun (c101 : ¬ ((lg_cmp y3 (lN 1684365676)) = 0)) => ?_)
  · rw [if_pos c101] at h
    exact h
  · rw [if_neg c101] at h
    refine zW_s rfl ?_
    refine zW_s rfl ?_
    refine zW_s rfl ?_
    refine zW_s rfl ?_
    refine zW_if (fun (c102 : (lg_cmp y3 (lN 1836021349)) = 0) => ?_) (fun (c102 : ¬ ((lg_cmp y3 (lN 1836021349)) = 0)) => ?_)
    · rw [if_pos c102] at h
      exact h
    · rw [if_neg c102] at h
      refine zW_s rfl ?_
      refine zW_s rfl ?_
      refine zW_s rfl ?_
      refine zW_s rfl ?_
      refine zW_if (fun (c103 : (lg_cmp y3 (lN 1952541541)) = 0) => ?_) (fun (c103 : ¬ ((lg_cmp y3 (lN 1952541541)) = 0)) => ?_)
      · rw [if_pos c103] at h
        exact h
      · rw [if_neg c103] at h
        refine zW_s rfl ?_
        refine zW_s rfl ?_
        refine zW_s rfl ?_
        refine zW_s rfl ?_
        refine zW_if (fun (c104 : (lg_cmp y3 (lN 1685026670)) = 0) => ?_) (fun (c104 : ¬ ((lg_cmp y3 (lN 1685026670)) = 0)) => ?_)
        · rw [if_pos c104] at h
          exact h
        · rw [if_neg c104] at h
          refine zW_s rfl ?_
          refine zW_s rfl ?_
          refine zW_s rfl ?_
          refine zW_s rfl ?_
          refine zW_if (fun (c105 : (lg_cmp y3 (lN 125797015120997)) = 0) => ?_) (fun (c105 : ¬ ((lg_cmp y3 (lN 125797015120997)) = 0)) => ?_)
          · rw [if_pos c105] at h
            exact h
          · rw [if_neg c105] at h
            refine zW_s rfl ?_
            refine zW_s rfl ?_
            refine zW_s rfl ?_
            refine zW_s rfl ?_
            refine zW_if (fun (c106 : ¬ (lg_cmp y3 (lN 1717662319)) = 0) => ?_) (fun (c106 : ¬ (¬ (lg_cmp y3 (lN 1717662319)) = 0)) => ?_)
            · rw [if_pos c106] at h
              refine zW_s rfl ?_
              refine zW_s rfl ?_
              have hp107 := h.1; replace h := h.2
              refine zW_c rfl hp107 (zM_m h ?_)
              intro r σ108 h
              replace h := zqi_e h
              obtain ⟨x109, rfl, h⟩ := h
              have hp110 := h.1; replace h := h.2
              refine zW_r rfl hp110 ?_
              exact h
            · rw [if_neg c106] at h
              exact h
set_option maxHeartbeats 4000000 in
theorem b155_456 {d : Nat} {r0 : Nat} {x2 : Int32} {y3 : Int64} {σ : zH} {Q : Option Value → zH → Prop} (h : (zK σ r0 = 13) ∧ zM d 149 [.ref r0, .long (lN 29807)] σ (fun r σ102 => zqi r (fun x103 => (if ¬ x103 = 0 then (zK σ102 r0 = 13) ∧ zM d 150 [.ref r0] σ102 (fun r σ106 => zqi r (fun x107 => (if ¬ x107 = 0 then (if (lg_cmp y3 (lN 125797015120997)) = 0 then zW (d + 1) 155 520 [(0, .ref r0), (2, .int x2)] [] σ106 Q else (if (lg_cmp y3 (lN 1717662319)) = 0 then zW (d + 1) 155 520 [(0, .ref r0), (2, .int x2)] [] σ106 Q else (zK σ106 r0 = 13) ∧ (zK σ106 (zQ σ106 r0 22) = 20) ∧ (vp_in x2 (zN σ106 (zQ σ106 r0 22))) ∧ (if ¬ (zI σ106 r0 19) = (zA σ106 (zQ σ106 r0 22) x2.toNatClampNeg) then zW (d + 1) 155 520 [(0, .ref r0), (2, .int x2)] [] σ106 Q else zM d 144 [.ref r0, .int (nI 3), .int (zI σ102 r0 14)] σ106 (fun r σ115 => zqi r (fun x116 => (x116 = 0 ∨ x116 = 1) ∧ Q (some (.int x116)) σ115))))) else Q (some (.int (nI 0))) σ106))) else Q (some (.int (nI 0))) σ102)))) : zW (d + 1) 155 456 [(0, .ref r0), (2, .int x2), (3, .long y3)] [] σ Q := by
  refine zW_s rfl ?_
  refine zW_s rfl ?_
  have hp101 := h.1; replace h := h.2
  refine zW_c rfl hp101 (zM_m h ?_)
  intro r σ102 h
  replace h := zqi_e h
  obtain ⟨x103, rfl, h⟩ := h
  refine zW_s rfl ?_
  refine zW_if (fun (c104 : ¬ x103 = 0) => ?_) (fun (c104 : ¬ (¬ x103 = 0)) => ?_)
  · rw [if_pos c104] at h
    refine zW_s rfl ?_
    have hp105 := h.1; replace h := h.2
    refine zW_p rfl hp105 ?_
    refine zW_s rfl ?_
    refine zW_s rfl ?_
    refine zW_c rfl hp105 (zM_m h ?_)
    intro r σ106 h
    replace h := zqi_e h
    obtain ⟨x107, rfl, h⟩ := h
    refine zW_s rfl ?_
    refine zW_if (fun (c108 : ¬ x107 = 0) => ?_) (fun (c108 : ¬ (¬ x107 = 0)) => ?_)
    · rw [if_pos c108] at h
      refine zW_s rfl ?_
      refine zW_s rfl ?_
      refine zW_s rfl ?_
      refine zW_s rfl ?_
      refine zW_if (fun (c109 : (lg_cmp y3 (lN 125797015120997)) = 0) => ?_) (fun (c109 : ¬ ((lg_cmp y3 (lN 125797015120997)) = 0)) => ?_)
      · rw [if_pos c109] at h
        refine zW_k [0, 1] rfl ?_
        exact h
      · rw [if_neg c109] at h
        refine zW_s rfl ?_
        refine zW_s rfl ?_
        refine zW_s rfl ?_
        refine zW_s rfl ?_
        refine zW_if (fun (c110 : (lg_cmp y3 (lN 1717662319)) = 0) => ?_) (fun (c110 : ¬ ((lg_cmp y3 (lN 1717662319)) = 0)) => ?_)
        · rw [if_pos c110] at h
          refine zW_k [0, 1] rfl ?_
          exact h
        · rw [if_neg c110] at h
          refine zW_s rfl ?_
          have hp111 := h.1; replace h := h.2
          refine zW_p rfl hp111 ?_
          refine zW_s rfl ?_
          refine zW_p rfl hp111 ?_
          refine zW_s rfl ?_
          have hp112 := h.1; replace h := h.2
          have hp113 := h.1; replace h := h.2
          refine zW_p rfl ⟨hp112, hp113⟩ ?_
          refine zW_s rfl ?_
          refine zW_if (fun (c114 : ¬ (zI σ106 r0 19) = (zA σ106 (zQ σ106 r0 22) x2.toNatClampNeg)) => ?_) (fun (c114 : ¬ (¬ (zI σ106 r0 19) = (zA σ106 (zQ σ106 r0 22) x2.toNatClampNeg))) => ?_)
          · rw [if_pos c114] at h
            refine zW_k [0, 1] rfl ?_
            exact h
          · rw [if_neg c114] at h
            refine zW_s rfl ?_
            refine zW_s rfl ?_
            refine zW_s rfl ?_
            refine zW_c rfl hp111 (zM_m h ?_)
            intro r σ115 h
            replace h := zqi_e h
            obtain ⟨x116, rfl, h⟩ := h
            have hp117 := h.1; replace h := h.2
            refine zW_r rfl hp117 ?_
            exact h
    · rw [if_neg c108] at h
      refine zW_s rfl ?_
      refine zW_r rfl (by decide) ?_
      exact h
  · rw [if_neg c104] at h
    refine zW_s rfl ?_
    refine zW_r rfl (by decide) ?_
    exact h
set_option maxHeartbeats 4000000 in
theorem b155_520 {d : Nat} {r0 : Nat} {x2 : Int32} {σ : zH} {Q : Option Value → zH → Prop} (h : (zK σ r0 = 13) ∧ (zK σ (zQ σ r0 24) = 20) ∧ (vp_in x2 (zN σ (zQ σ r0 24))) ∧ zM d 147 [.ref r0, .int (nI 59)] (zsA σ (zQ σ r0 24) x2.toNatClampNeg (zI σ r0 19)) (fun r σ104 => zqi r (fun x105 => (x105 = 0 ∨ x105 = 1) ∧ Q (some (.int x105)) σ104))) : zW (d + 1) 155 520 [(0, .ref r0), (2, .int x2)] [] σ Q := by
  refine zW_s rfl ?_
  have hp101 := h.1; replace h := h.2
  refine zW_p rfl hp101 ?_
  refine zW_s rfl ?_
  refine zW_s rfl ?_
  refine zW_p rfl hp101 ?_
  have hp102 := h.1; replace h := h.2
  have hp103 := h.1; replace h := h.2
  refine zW_p rfl ⟨hp102, hp103⟩ ?_
  refine zW_s rfl ?_
  refine zW_s rfl ?_
  refine zW_c rfl hp101 (zM_m h ?_)
  intro r σ104 h
  replace h := zqi_e h
  obtain ⟨x105, rfl, h⟩ := h
  have hp106 := h.1; replace h := h.2
  refine zW_r rfl hp106 ?_
  exact h
set_option maxHeartbeats 4000000 in
theorem b156 {d : Nat} {r0 : Nat} {x1 : Int32} {σ : zH} {Q : Option Value → zH → Prop} (h : (zK σ r0 = 13) ∧ zM d 146 [.ref r0, .int (nI 123)] σ (fun r σ102 => zqi r (fun x103 => (if ¬ x103 = 0 then (if ¬ x1 = (nI 4) then (zK σ102 r0 = 13) ∧ zM d 142 [.ref r0] σ102 (fun r σ107 => zqv r ((zK σ107 r0 = 13) ∧ zM d 153 [.ref r0, .int (x1 + (nI 1))] σ107 (fun r σ109 => zqi r (fun x110 => (if x110 = 0 then Q (some (.int (nI 0))) σ109 else (zK σ109 r0 = 13) ∧ zM d 147 [.ref r0, .int (nI 125)] σ109 (fun r σ113 => zqi r (fun x114 => Q (some (.int (if x114 = 0 then nI 0 else nI 1))) σ113))))))) else (zK σ102 r0 = 13) ∧ zM d 144 [.ref r0, .int (nI 4), .int (zI σ102 r0 14)] σ102 (fun r σ117 => zqi r (fun x118 => (x118 = 0 ∨ x118 = 1) ∧ Q (some (.int x118)) σ117))) else (zK σ102 r0 = 13) ∧ zM d 145 [.ref r0] σ102 (fun r σ121 => zqi r (fun x122 => (x122 = 0 ∨ x122 = 1) ∧ Q (some (.int x122)) σ121)))))) : zM (d + 1) 156 [.ref r0, .int x1] σ Q := by
  unfold zM
  refine zW_s rfl ?_
  refine zW_s rfl ?_
  have hp101 := h.1; replace h := h.2
  refine zW_c rfl hp101 (zM_m h ?_)
  intro r σ102 h
  replace h := zqi_e h
  obtain ⟨x103, rfl, h⟩ := h
  refine zW_s rfl ?_
  refine zW_if (fun (c104 : ¬ x103 = 0) => ?_) (fun (c104 : ¬ (¬ x103 = 0)) => ?_)
  · rw [if_pos c104] at h
    refine zW_s rfl ?_
    refine zW_s rfl ?_
    refine zW_s rfl ?_
    refine zW_if (fun (c105 : ¬ x1 = (nI 4)) => ?_) (fun (c105 : ¬ (¬ x1 = (nI 4))) => ?_)
    · rw [if_pos c105] at h
      refine zW_s rfl ?_
      have hp106 := h.1; replace h := h.2
      refine zW_c rfl hp106 (zM_m h ?_)
      intro r σ107 h
      replace h := zqv_e h
      obtain ⟨rfl, h⟩ := h
      refine zW_s rfl ?_
      refine zW_s rfl ?_
      refine zW_s rfl ?_
      refine zW_s rfl ?_
      have hp108 := h.1; replace h := h.2
      refine zW_c rfl hp108 (zM_m h ?_)
      intro r σ109 h
      replace h := zqi_e h
      obtain ⟨x110, rfl, h⟩ := h
      refine zW_s rfl ?_
      refine zW_if (fun (c111 : x110 = 0) => ?_) (fun (c111 : ¬ (x110 = 0)) => ?_)
      · rw [if_pos c111] at h
        refine zW_s rfl ?_
        refine zW_r rfl (by decide) ?_
        exact h
      · rw [if_neg c111] at h
        refine zW_s rfl ?_
        refine zW_s rfl ?_
        have hp112 := h.1; replace h := h.2
        refine zW_c rfl hp112 (zM_m h ?_)
        intro r σ113 h
        replace h := zqi_e h
        obtain ⟨x114, rfl, h⟩ := h
        refine zW_s rfl ?_
        have k : ∀ v : Int32, v = (if x114 = 0 then nI 0 else nI 1) → zW (d + 1) 156 57 [(0, .ref r0), (1, .int x1)] [.int v] σ113 Q := by
          intro v hv
          subst hv
          refine zW_r rfl zb01 ?_
          exact h
        refine zW_if (fun (c115 : x114 = 0) => ?_) (fun (c115 : ¬ (x114 = 0)) => ?_)
        · replace k := k _ (if_pos c115).symm
          refine zW_s rfl ?_
          exact k
        · replace k := k _ (if_neg c115).symm
          refine zW_s rfl ?_
          refine zW_s rfl ?_
          exact k
    · rw [if_neg c105] at h
      refine zW_s rfl ?_
      refine zW_s rfl ?_
      refine zW_s rfl ?_
      have hp116 := h.1; replace h := h.2
      refine zW_p rfl hp116 ?_
      refine zW_c rfl hp116 (zM_m h ?_)
      intro r σ117 h
      replace h := zqi_e h
      obtain ⟨x118, rfl, h⟩ := h
      have hp119 := h.1; replace h := h.2
      refine zW_r rfl hp119 ?_
      exact h
  · rw [if_neg c104] at h
    refine zW_s rfl ?_
    have hp120 := h.1; replace h := h.2
    refine zW_c rfl hp120 (zM_m h ?_)
    intro r σ121 h
    replace h := zqi_e h
    obtain ⟨x122, rfl, h⟩ := h
    have hp123 := h.1; replace h := h.2
    refine zW_r rfl hp123 ?_
    exact h
