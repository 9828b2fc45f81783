set_option maxHeartbeats 4000000 in
theorem b115 {d : Nat} {r0 : Nat} {x1 : Int32} {σ : zH} {Q : Option Value → zH → Prop} (h : (zK σ r0 = 12) ∧ (if ¬ (zI σ r0 11) = 0 then (if x1 = nI 0 then Q (some (.int (zI σ r0 12))) σ else (if x1 = nI 1 then Q (some (.int (zI σ r0 13))) σ else (if x1 = nI 2 then (if ¬ (lg_cmp (zJ σ r0 14) (Int64.ofInt (-1))) = 0 then zM d 102 [.long (zJ σ r0 14)] σ (fun r σ107 => zqi r (fun x108 => Q (some (.int x108)) σ107)) else Q (some (.int (-1))) σ) else Q (some (.int (-1))) σ))) else Q (some (.int (-1))) σ)) : zM (d + 1) 115 [.ref r0, .int x1] σ Q := by
  unfold zM
  refine zW_s rfl ?_
  have hp101 := h.1; replace h := h.2
  refine zW_p rfl hp101 ?_
  refine zW_s rfl ?_
  refine zW_if (fun (c102 : ¬ (zI σ r0 11) = 0) => ?_) (fun (c102 : ¬ (¬ (zI σ r0 11) = 0)) => ?_)
  · rw [if_pos c102] at h
    refine zW_s rfl ?_
    refine zW_s rfl ?_
    refine zW_sw (fun (c103 : x1 = nI 0) => ?_) (fun (c103 : ¬ (x1 = nI 0)) => ?_)
    · rw [if_pos c103] at h
      refine zW_s rfl ?_
      refine zW_p rfl hp101 ?_
      refine zW_r rfl trivial ?_
      exact h
    · rw [if_neg c103] at h
      refine zW_sw (fun (c104 : x1 = nI 1) => ?_) (fun (c104 : ¬ (x1 = nI 1)) => ?_)
      · rw [if_pos c104] at h
        refine zW_s rfl ?_
        refine zW_p rfl hp101 ?_
        refine zW_r rfl trivial ?_
        exact h
      · rw [if_neg c104] at h
        refine zW_sw (fun (c105 : x1 = nI 2) => ?_) (fun (c105 : ¬ (x1 = nI 2)) => ?_)
        · rw [if_pos c105] at h
          refine zW_s rfl ?_
          refine zW_p rfl hp101 ?_
          refine zW_s rfl ?_
          refine zW_s rfl ?_
          refine zW_s rfl ?_
          refine zW_if (fun (c106 : ¬ (lg_cmp (zJ σ r0 14) (Int64.ofInt (-1))) = 0) => ?_) (fun (c106 : ¬ (¬ (lg_cmp (zJ σ r0 14) (Int64.ofInt (-1))) = 0)) => ?_)
          · rw [if_pos c106] at h
            refine zW_s rfl ?_
            refine zW_p rfl hp101 ?_
            refine zW_c rfl trivial (zM_m h ?_)
            intro r σ107 h
            replace h := zqi_e h
            obtain ⟨x108, rfl, h⟩ := h
            refine zW_r rfl trivial ?_
            exact h
          · rw [if_neg c106] at h
            refine zW_s rfl ?_
            refine zW_s rfl ?_
            refine zW_r rfl trivial ?_
            exact h
        · rw [if_neg c105] at h
          refine zW_s rfl ?_
          refine zW_r rfl trivial ?_
          exact h
  · rw [if_neg c102] at h
    refine zW_s rfl ?_
    refine zW_r rfl trivial ?_
    exact h
set_option maxHeartbeats 4000000 in
theorem b116 {d : Nat} {r0 : Nat} {x1 : Int32} {σ : zH} {Q : Option Value → zH → Prop} (h : (zK σ r0 = 12) ∧ (if (zI σ r0 11) = 0 then Q (some (.int (-1))) σ else (if (lg_cmp (zJ σ r0 14) (Int64.ofInt (-1))) = 0 then Q (some (.int (-1))) σ else (if x1 < 0 then Q (some (.int (-1))) σ else zM d 102 [.long (zJ σ r0 14)] σ (fun r σ105 => zqi r (fun x106 => (if x1 < x106 then (zK σ105 r0 = 12) ∧ zM d 103 [.long (zJ σ105 r0 14), .int x1] σ105 (fun r σ109 => zqi r (fun x110 => Q (some (.int x110)) σ109)) else Q (some (.int (-1))) σ105))))))) : zM (d + 1) 116 [.ref r0, .int x1] σ Q := by
  unfold zM
  refine zW_s rfl ?_
  have hp101 := h.1; replace h := h.2
  refine zW_p rfl hp101 ?_
  refine zW_s rfl ?_
  refine zW_if (fun (c102 : (zI σ r0 11) = 0) => ?_) (fun (c102 : ¬ ((zI σ r0 11) = 0)) => ?_)
  · rw [if_pos c102] at h
    refine zW_s rfl ?_
    refine zW_r rfl trivial ?_
    exact h
  · rw [if_neg c102] at h
    refine zW_s rfl ?_
    refine zW_p rfl hp101 ?_
    refine zW_s rfl ?_
    refine zW_s rfl ?_
    refine zW_s rfl ?_
    refine zW_if (fun (c103 : (lg_cmp (zJ σ r0 14) (Int64.ofInt (-1))) = 0) => ?_) (fun (c103 : ¬ ((lg_cmp (zJ σ r0 14) (Int64.ofInt (-1))) = 0)) => ?_)
    · rw [if_pos c103] at h
      refine zW_s rfl ?_
      refine zW_r rfl trivial ?_
      exact h
    · rw [if_neg c103] at h
      refine zW_s rfl ?_
      refine zW_s rfl ?_
      refine zW_if (fun (c104 : x1 < 0) => ?_) (fun (c104 : ¬ (x1 < 0)) => ?_)
      · rw [if_pos c104] at h
        refine zW_s rfl ?_
        refine zW_r rfl trivial ?_
        exact h
      · rw [if_neg c104] at h
        refine zW_s rfl ?_
        refine zW_s rfl ?_
        refine zW_p rfl hp101 ?_
        refine zW_c rfl trivial (zM_m h ?_)
        intro r σ105 h
        replace h := zqi_e h
        obtain ⟨x106, rfl, h⟩ := h
        refine zW_s rfl ?_
        refine zW_if (fun (c107 : x1 < x106) => ?_) (fun (c107 : ¬ (x1 < x106)) => ?_)
        · rw [if_pos c107] at h
          refine zW_s rfl ?_
          have hp108 := h.1; replace h := h.2
          refine zW_p rfl hp108 ?_
          refine zW_s rfl ?_
          refine zW_c rfl trivial (zM_m h ?_)
          intro r σ109 h
          replace h := zqi_e h
          obtain ⟨x110, rfl, h⟩ := h
          refine zW_r rfl trivial ?_
          exact h
        · rw [if_neg c107] at h
          refine zW_s rfl ?_
          refine zW_r rfl trivial ?_
          exact h
set_option maxHeartbeats 4000000 in
theorem b117 {d : Nat} {r0 : Nat} {σ : zH} {Q : Option Value → zH → Prop} (h : (zK σ r0 = 12) ∧ (zK σ (zQ σ r0 5) = 4) ∧ zM d 42 [.ref (zQ σ r0 5), .ref (zQ σ r0 7)] σ (fun r σ103 => zqv r ((zK σ103 r0 = 12) ∧ (zK σ103 (zQ σ103 r0 0) = 8) ∧ (zK σ103 (zQ σ103 r0 5) = 4) ∧ Q (some (.int (if (zI (zsI σ103 (zQ σ103 r0 0) 1 (nI 0)) (zQ σ103 r0 5) 4) = 0 then zI (zsI σ103 (zQ σ103 r0 0) 1 (nI 0)) (zQ σ103 r0 5) 5 else (-1) - (zI (zsI σ103 (zQ σ103 r0 0) 1 (nI 0)) (zQ σ103 r0 5) 5)))) (zsI σ103 (zQ σ103 r0 0) 1 (nI 0))))) : zM (d + 1) 117 [.ref r0] σ Q := by
  unfold zM
  refine zW_s rfl ?_
  have hp101 := h.1; replace h := h.2
  refine zW_p rfl hp101 ?_
  refine zW_s rfl ?_
  refine zW_p rfl hp101 ?_
  have hp102 := h.1; replace h := h.2
  refine zW_c rfl hp102 (zM_m h ?_)
  intro r σ103 h
  replace h := zqv_e h
  obtain ⟨rfl, h⟩ := h
  refine zW_s rfl ?_
  have hp104 := h.1; replace h := h.2
  refine zW_p rfl hp104 ?_
  refine zW_s rfl ?_
  have hp105 := h.1; replace h := h.2
  refine zW_p rfl hp105 ?_
  refine zW_s rfl ?_
  refine zW_p rfl hp104 ?_
  have hp106 := h.1; replace h := h.2
  refine zW_p rfl hp106 ?_
  refine zW_s rfl ?_
  have k : ∀ v : Int32, v = (if (zI (zsI σ103 (zQ σ103 r0 0) 1 (nI 0)) (zQ σ103 r0 5) 4) = 0 then zI (zsI σ103 (zQ σ103 r0 0) 1 (nI 0)) (zQ σ103 r0 5) 5 else (-1) - (zI (zsI σ103 (zQ σ103 r0 0) 1 (nI 0)) (zQ σ103 r0 5) 5)) → zW (d + 1) 117 48 [(0, .ref r0)] [.int v] (zsI σ103 (zQ σ103 r0 0) 1 (nI 0)) Q := by
    intro v hv
    subst hv
    refine zW_r rfl trivial ?_
    exact h
  refine zW_if (fun (c107 : (zI (zsI σ103 (zQ σ103 r0 0) 1 (nI 0)) (zQ σ103 r0 5) 4) = 0) => ?_) (fun (c107 : ¬ ((zI (zsI σ103 (zQ σ103 r0 0) 1 (nI 0)) (zQ σ103 r0 5) 4) = 0)) => ?_)
  · replace k := k _ (if_pos c107).symm
    refine zW_s rfl ?_
    refine zW_p rfl hp104 ?_
    refine zW_p rfl hp106 ?_
    exact k
  · replace k := k _ (if_neg c107).symm
    refine zW_s rfl ?_
    refine zW_s rfl ?_
    refine zW_p rfl hp104 ?_
    refine zW_p rfl hp106 ?_
    refine zW_s rfl ?_
    refine zW_s rfl ?_
    exact k
set_option maxHeartbeats 4000000 in
theorem b118 {d : Nat} {r0 : Nat} {x1 : Int32} {x2 : Int32} {σ : zH} {Q : Option Value → zH → Prop} (h : (zK σ r0 = 12) ∧ (zK σ (zQ σ r0 5) = 4) ∧ (if ¬ (zI σ (zQ σ r0 5) 3) = 0 then (zK σ (zQ σ (zQ σ r0 5) 2) = 7) ∧ zM d 61 [.ref (zQ σ (zQ σ r0 5) 2), .int x1, .int x2] σ (fun r σ105 => zqi r (fun x106 => (if ¬ x106 = 0 then (zK σ105 r0 = 12) ∧ (zK σ105 (zQ σ105 r0 5) = 4) ∧ (zK σ105 (zQ σ105 (zQ σ105 r0 5) 2) = 7) ∧ Q (some (.int (if ¬ (x106 &&& (nI 15)) = (zI σ105 (zQ σ105 (zQ σ105 r0 5) 2) 4) then x106 else x106 + (nI 32)))) σ105 else Q (some (.int (nI 0))) σ105))) else Q (some (.int (nI 0))) σ)) : zM (d + 1) 118 [.ref r0, .int x1, .int x2] σ Q := by
  unfold zM
  refine zW_s rfl ?_
  have hp101 := h.1; replace h := h.2
  refine zW_p rfl hp101 ?_
  have hp102 := h.1; replace h := h.2
  refine zW_p rfl hp102 ?_
  refine zW_s rfl ?_
  refine zW_if (fun (c103 : ¬ (zI σ (zQ σ r0 5) 3) = 0) => ?_) (fun (c103 : ¬ (¬ (zI σ (zQ σ r0 5) 3) = 0)) => ?_)
  · rw [if_pos c103] at h
    refine zW_s rfl ?_
    refine zW_p rfl hp101 ?_
    refine zW_p rfl hp102 ?_
    refine zW_s rfl ?_
    refine zW_s rfl ?_
    have hp104 := h.1; replace h := h.2
    refine zW_c rfl hp104 (zM_m h ?_)
    intro r σ105 h
    replace h := zqi_e h
    obtain ⟨x106, rfl, h⟩ := h
    refine zW_s rfl ?_
    refine zW_s rfl ?_
    refine zW_s rfl ?_
    refine zW_if (fun (c107 : ¬ x106 = 0) => ?_) (fun (c107 : ¬ (¬ x106 = 0)) => ?_)
    · rw [if_pos c107] at h
      refine zW_s rfl ?_
      refine zW_s rfl ?_
      refine zW_s rfl ?_
      refine zW_s rfl ?_
      have hp108 := h.1; replace h := h.2
      refine zW_p rfl hp108 ?_
      have hp109 := h.1; replace h := h.2
      refine zW_p rfl hp109 ?_
      have hp110 := h.1; replace h := h.2
      refine zW_p rfl hp110 ?_
      refine zW_s rfl ?_
      have k : ∀ v : Int32, v = (if ¬ (x106 &&& (nI 15)) = (zI σ105 (zQ σ105 (zQ σ105 r0 5) 2) 4) then x106 else x106 + (nI 32)) → zW (d + 1) 118 56 [(0, .ref r0), (1, .int x1), (2, .int x2), (3, .int x106)] [.int v] σ105 Q := by
        intro v hv
        subst hv
        refine zW_r rfl trivial ?_
        exact h
      refine zW_if (fun (c111 : ¬ (x106 &&& (nI 15)) = (zI σ105 (zQ σ105 (zQ σ105 r0 5) 2) 4)) => ?_) (fun (c111 : ¬ (¬ (x106 &&& (nI 15)) = (zI σ105 (zQ σ105 (zQ σ105 r0 5) 2) 4))) => ?_)
      · replace k := k _ (if_pos c111).symm
        refine zW_s rfl ?_
        exact k
      · replace k := k _ (if_neg c111).symm
        refine zW_s rfl ?_
        refine zW_s rfl ?_
        refine zW_s rfl ?_
        refine zW_s rfl ?_
        exact k
    · rw [if_neg c107] at h
      refine zW_s rfl ?_
      refine zW_r rfl trivial ?_
      exact h
  · rw [if_neg c103] at h
    refine zW_s rfl ?_
    refine zW_r rfl trivial ?_
    exact h
set_option maxHeartbeats 4000000 in
theorem b119 {d : Nat} {r0 : Nat} {σ : zH} {Q : Option Value → zH → Prop} (h : (zK σ r0 = 12) ∧ (zK σ (zQ σ r0 5) = 4) ∧ (if (zI σ (zQ σ r0 5) 3) = 0 then (zK σ (zQ σ r0 1) = 2) ∧ (zK σ (zQ σ r0 3) = 7) ∧ zM d 57 [.ref (zQ σ r0 3), .ref (zQ σ (zQ σ r0 1) 3)] σ (fun r σ106 => zqv r ((zK σ106 r0 = 12) ∧ (zK σ106 (zQ σ106 r0 9) = 1) ∧ zM d 5 [.ref (zQ σ106 r0 9), .ref (zQ σ106 r0 3), .int (nI 0), .int (zI σ106 (zQ σ106 r0 9) 3)] σ106 (fun r σ109 => zqi r (fun x110 => (x110 = 0 ∨ x110 = 1) ∧ Q (some (.int x110)) σ109)))) else (zK σ (zQ σ r0 9) = 1) ∧ zM d 5 [.ref (zQ σ r0 9), .ref (zQ σ (zQ σ r0 5) 2), .int (nI 0), .int (zI σ (zQ σ r0 9) 3)] σ (fun r σ113 => zqi r (fun x114 => (x114 = 0 ∨ x114 = 1) ∧ Q (some (.int x114)) σ113)))) : zM (d + 1) 119 [.ref r0] σ Q := by
  unfold zM
  refine zW_s rfl ?_
  have hp101 := h.1; replace h := h.2
  refine zW_p rfl hp101 ?_
  have hp102 := h.1; replace h := h.2
  refine zW_p rfl hp102 ?_
  refine zW_s rfl ?_
  refine zW_if (fun (c103 : (zI σ (zQ σ r0 5) 3) = 0) => ?_) (fun (c103 : ¬ ((zI σ (zQ σ r0 5) 3) = 0)) => ?_)
  · rw [if_pos c103] at h
    refine zW_s rfl ?_
    refine zW_p rfl hp101 ?_
    refine zW_s rfl ?_
    refine zW_p rfl hp101 ?_
    have hp104 := h.1; replace h := h.2
    refine zW_p rfl hp104 ?_
    have hp105 := h.1; replace h := h.2
    refine zW_c rfl hp105 (zM_m h ?_)
    intro r σ106 h
    replace h := zqv_e h
    obtain ⟨rfl, h⟩ := h
    refine zW_s rfl ?_
    have hp107 := h.1; replace h := h.2
    refine zW_p rfl hp107 ?_
    refine zW_s rfl ?_
    refine zW_p rfl hp107 ?_
    refine zW_s rfl ?_
    refine zW_s rfl ?_
    refine zW_p rfl hp107 ?_
    have hp108 := h.1; replace h := h.2
    refine zW_p rfl hp108 ?_
    refine zW_c rfl hp108 (zM_m h ?_)
    intro r σ109 h
    replace h := zqi_e h
    obtain ⟨x110, rfl, h⟩ := h
    have hp111 := h.1; replace h := h.2
    refine zW_r rfl hp111 ?_
    exact h
  · rw [if_neg c103] at h
    refine zW_s rfl ?_
    refine zW_p rfl hp101 ?_
    refine zW_s rfl ?_
    refine zW_p rfl hp101 ?_
    refine zW_p rfl hp102 ?_
    refine zW_s rfl ?_
    refine zW_s rfl ?_
    refine zW_p rfl hp101 ?_
    have hp112 := h.1; replace h := h.2
    refine zW_p rfl hp112 ?_
    refine zW_c rfl hp112 (zM_m h ?_)
    intro r σ113 h
    replace h := zqi_e h
    obtain ⟨x114, rfl, h⟩ := h
    have hp115 := h.1; replace h := h.2
    refine zW_r rfl hp115 ?_
    exact h
set_option maxHeartbeats 4000000 in
theorem b120 {d : Nat} {r0 : Nat} {x1 : Int32} {σ : zH} {Q : Option Value → zH → Prop} (h : (if x1 < (nI 1) then False else (if x1 ≤ (nI 50) then zW (d + 1) 120 23 [(0, .ref r0), (1, .int x1), (2, .int (nI 0))] [] σ Q else False))) : zM (d + 1) 120 [.ref r0, .int x1] σ Q := by
  unfold zM
  refine zW_s rfl ?_
  refine zW_s rfl ?_
  refine zW_s rfl ?_
  refine zW_if (fun (c101 : x1 < (nI 1)) => ?_) (fun (c101 : ¬ (x1 < (nI 1))) => ?_)
  · rw [if_pos c101] at h
    exact h.elim
  · rw [if_neg c101] at h
    refine zW_s rfl ?_
    refine zW_s rfl ?_
    refine zW_s rfl ?_
    refine zW_if (fun (c102 : x1 ≤ (nI 50)) => ?_) (fun (c102 : ¬ (x1 ≤ (nI 50))) => ?_)
    · rw [if_pos c102] at h
      refine zW_s rfl ?_
      refine zW_s rfl ?_
      exact h
    · rw [if_neg c102] at h
      exact h.elim
set_option maxHeartbeats 4000000 in
theorem b120_23 {d : Nat} {r0 : Nat} {x1 : Int32} {x2 : Int32} {σ : zH} {Q : Option Value → zH → Prop} (h : (zK σ r0 = 12) ∧ (zK σ (zQ σ r0 1) = 2) ∧ (if (zI σ (zQ σ r0 1) 4) ≤ x2 then zW (d + 1) 120 51 [(0, .ref r0), (1, .int x1), (2, .int (nI 0))] [] σ Q else (zK σ (zQ σ r0 6) = 20) ∧ (vp_in x2 (zN σ (zQ σ r0 6))) ∧ zW (d + 1) 120 23 [(0, .ref r0), (1, .int x1), (2, .int (x2 + nI 1))] [] (zsA σ (zQ σ r0 6) x2.toNatClampNeg (x2 + (nI 1))) Q)) : zW (d + 1) 120 23 [(0, .ref r0), (1, .int x1), (2, .int x2)] [] σ Q := by
  refine zW_s rfl ?_
  refine zW_s rfl ?_
  have hp101 := h.1; replace h := h.2
  refine zW_p rfl hp101 ?_
  have hp102 := h.1; replace h := h.2
  refine zW_p rfl hp102 ?_
  refine zW_s rfl ?_
  refine zW_if (fun (c103 : (zI σ (zQ σ r0 1) 4) ≤ x2) => ?_) (fun (c103 : ¬ ((zI σ (zQ σ r0 1) 4) ≤ x2)) => ?_)
  · rw [if_pos c103] at h
    refine zW_s rfl ?_
    refine zW_s rfl ?_
    exact h
  · rw [if_neg c103] at h
    refine zW_s rfl ?_
    refine zW_p rfl hp101 ?_
    refine zW_s rfl ?_
    refine zW_s rfl ?_
    refine zW_s rfl ?_
    refine zW_s rfl ?_
    have hp104 := h.1; replace h := h.2
    have hp105 := h.1; replace h := h.2
    refine zW_p rfl ⟨hp104, hp105⟩ ?_
    refine zW_s rfl ?_
    refine zW_s rfl ?_
    exact h
set_option maxHeartbeats 4000000 in
theorem b120_51 {d : Nat} {r0 : Nat} {x1 : Int32} {x2 : Int32} {σ : zH} {Q : Option Value → zH → Prop} (h : (if x1 ≤ x2 then Q (some (.int (-1))) σ else (zK σ r0 = 12) ∧ (zK σ (zQ σ r0 4) = 5) ∧ zM d 47 [.ref (zQ σ r0 4), .ref (zQ σ r0 7), .ref (zQ σ r0 9), .ref (zQ σ r0 6)] σ (fun r σ104 => zqv r ((zK σ104 r0 = 12) ∧ (zK σ104 (zQ σ104 r0 4) = 5) ∧ (if ¬ (zI σ104 (zQ σ104 r0 4) 4) = 0 then zW (d + 1) 120 115 [(0, .ref r0), (1, .int x1), (2, .int x2)] [] σ104 Q else (if ¬ (zI σ104 (zQ σ104 r0 4) 6) = (zI σ104 (zQ σ104 r0 4) 5) then zW (d + 1) 120 115 [(0, .ref r0), (1, .int x1), (2, .int x2)] [] σ104 Q else (zK σ104 (zQ σ104 r0 1) = 2) ∧ zM d 12 [.ref (zQ σ104 r0 1), .ref (zQ σ104 r0 6)] σ104 (fun r σ110 => zqv r (Q (some (.int x2)) σ110)))))))) : zW (d + 1) 120 51 [(0, .ref r0), (1, .int x1), (2, .int x2)] [] σ Q := by
  refine zW_s rfl ?_
  refine zW_s rfl ?_
  refine zW_s rfl ?_
  refine zW_if (fun (c101 : x1 ≤ x2) => ?_) (fun (c101 : ¬ (x1 ≤ x2)) => ?_)
  · rw [if_pos c101] at h
    refine zW_s rfl ?_
    refine zW_r rfl trivial ?_
    exact h
  · rw [if_neg c101] at h
    refine zW_s rfl ?_
    have hp102 := h.1; replace h := h.2
    refine zW_p rfl hp102 ?_
    refine zW_s rfl ?_
    refine zW_p rfl hp102 ?_
    refine zW_s rfl ?_
    refine zW_p rfl hp102 ?_
    refine zW_s rfl ?_
    refine zW_p rfl hp102 ?_
    have hp103 := h.1; replace h := h.2
    refine zW_c rfl hp103 (zM_m h ?_)
    intro r σ104 h
    replace h := zqv_e h
    obtain ⟨rfl, h⟩ := h
    refine zW_s rfl ?_
    have hp105 := h.1; replace h := h.2
    refine zW_p rfl hp105 ?_
    have hp106 := h.1; replace h := h.2
    refine zW_p rfl hp106 ?_
    refine zW_s rfl ?_
    refine zW_if (fun (c107 : ¬ (zI σ104 (zQ σ104 r0 4) 4) = 0) => ?_) (fun (c107 : ¬ (¬ (zI σ104 (zQ σ104 r0 4) 4) = 0)) => ?_)
    · rw [if_pos c107] at h
      exact h
    · rw [if_neg c107] at h
      refine zW_s rfl ?_
      refine zW_p rfl hp105 ?_
      refine zW_p rfl hp106 ?_
      refine zW_s rfl ?_
      refine zW_p rfl hp105 ?_
      refine zW_p rfl hp106 ?_
      refine zW_s rfl ?_
      refine zW_if (fun (c108 : ¬ (zI σ104 (zQ σ104 r0 4) 6) = (zI σ104 (zQ σ104 r0 4) 5)) => ?_) (fun (c108 : ¬ (¬ (zI σ104 (zQ σ104 r0 4) 6) = (zI σ104 (zQ σ104 r0 4) 5))) => ?_)
      · rw [if_pos c108] at h
        exact h
      · rw [if_neg c108] at h
        refine zW_s rfl ?_
        refine zW_p rfl hp105 ?_
        refine zW_s rfl ?_
        refine zW_p rfl hp105 ?_
        have hp109 := h.1; replace h := h.2
        refine zW_c rfl hp109 (zM_m h ?_)
        intro r σ110 h
        replace h := zqv_e h
        obtain ⟨rfl, h⟩ := h
        refine zW_s rfl ?_
        refine zW_r rfl trivial ?_
        exact h
set_option maxHeartbeats 4000000 in
theorem b120_115 {d : Nat} {r0 : Nat} {x1 : Int32} {x2 : Int32} {σ : zH} {Q : Option Value → zH → Prop} (h : (zK σ r0 = 12) ∧ zM d 125 [.ref r0] σ (fun r σ102 => zqi r (fun x103 => (if ¬ x103 = 0 then zW (d + 1) 120 51 [(0, .ref r0), (1, .int x1), (2, .int (x2 + nI 1))] [] σ102 Q else Q (some (.int (-1))) σ102)))) : zW (d + 1) 120 115 [(0, .ref r0), (1, .int x1), (2, .int x2)] [] σ Q := by
  refine zW_s rfl ?_
  have hp101 := h.1; replace h := h.2
  refine zW_c rfl hp101 (zM_m h ?_)
  intro r σ102 h
  replace h := zqi_e h
  obtain ⟨x103, rfl, h⟩ := h
  refine zW_s rfl ?_
  refine zW_if (fun (c104 : ¬ x103 = 0) => ?_) (fun (c104 : ¬ (¬ x103 = 0)) => ?_)
  · rw [if_pos c104] at h
    refine zW_s rfl ?_
    refine zW_s rfl ?_
    exact h
  · rw [if_neg c104] at h
    refine zW_s rfl ?_
    refine zW_r rfl trivial ?_
    exact h
set_option maxHeartbeats 4000000 in
theorem b121 {d : Nat} {r0 : Nat} {x1 : Int32} {σ : zH} {Q : Option Value → zH → Prop} (h : (if x1 < (nI 1) then False else (zK σ r0 = 12) ∧ (zK σ (zQ σ r0 1) = 2) ∧ (if x1 ≤ (zI σ (zQ σ r0 1) 4) then (zK σ (zQ σ (zQ σ r0 1) 3) = 20) ∧ (vp_in (x1 - (nI 1)) (zN σ (zQ σ (zQ σ r0 1) 3))) ∧ Q (some (.int (((zA σ (zQ σ (zQ σ r0 1) 3) (x1 - (nI 1)).toNatClampNeg) &&& (nI 15)) + (if (zA σ (zQ σ (zQ σ r0 1) 3) (x1 - (nI 1)).toNatClampNeg) < (nI 16) then nI 0 else nI 128)))) σ else False))) : zM (d) 121 [.ref r0, .int x1] σ Q := by
  unfold zM
  refine zW_s rfl ?_
  refine zW_s rfl ?_
  refine zW_s rfl ?_
  refine zW_if (fun (c101 : x1 < (nI 1)) => ?_) (fun (c101 : ¬ (x1 < (nI 1))) => ?_)
  · rw [if_pos c101] at h
    exact h.elim
  · rw [if_neg c101] at h
    refine zW_s rfl ?_
    refine zW_s rfl ?_
    have hp102 := h.1; replace h := h.2
    refine zW_p rfl hp102 ?_
    have hp103 := h.1; replace h := h.2
    refine zW_p rfl hp103 ?_
    refine zW_s rfl ?_
    refine zW_if (fun (c104 : x1 ≤ (zI σ (zQ σ r0 1) 4)) => ?_) (fun (c104 : ¬ (x1 ≤ (zI σ (zQ σ r0 1) 4))) => ?_)
    · rw [if_pos c104] at h
      refine zW_s rfl ?_
      refine zW_p rfl hp102 ?_
      refine zW_p rfl hp103 ?_
      refine zW_s rfl ?_
      refine zW_s rfl ?_
      refine zW_s rfl ?_
      have hp105 := h.1; replace h := h.2
      have hp106 := h.1; replace h := h.2
      refine zW_p rfl ⟨hp105, hp106⟩ ?_
      refine zW_s rfl ?_
      refine zW_s rfl ?_
      refine zW_s rfl ?_
      refine zW_s rfl ?_
      refine zW_s rfl ?_
      refine zW_s rfl ?_
      refine zW_s rfl ?_
      have k : ∀ v : Int32, v = (if (zA σ (zQ σ (zQ σ r0 1) 3) (x1 - (nI 1)).toNatClampNeg) < (nI 16) then nI 0 else nI 128) → zW (d) 121 55 [(0, .ref r0), (1, .int x1), (2, .int (zA σ (zQ σ (zQ σ r0 1) 3) (x1 - (nI 1)).toNatClampNeg))] [.int v, .int ((zA σ (zQ σ (zQ σ r0 1) 3) (x1 - (nI 1)).toNatClampNeg) &&& (nI 15))] σ Q := by
        intro v hv
        subst hv
        refine zW_s rfl ?_
        refine zW_r rfl trivial ?_
        exact h
      refine zW_if (fun (c107 : (zA σ (zQ σ (zQ σ r0 1) 3) (x1 - (nI 1)).toNatClampNeg) < (nI 16)) => ?_) (fun (c107 : ¬ ((zA σ (zQ σ (zQ σ r0 1) 3) (x1 - (nI 1)).toNatClampNeg) < (nI 16))) => ?_)
      · replace k := k _ (if_pos c107).symm
        refine zW_s rfl ?_
        exact k
      · replace k := k _ (if_neg c107).symm
        refine zW_s rfl ?_
        refine zW_s rfl ?_
        exact k
    · rw [if_neg c104] at h
      exact h.elim
set_option maxHeartbeats 4000000 in
theorem b122 {d : Nat} {r0 : Nat} {x1 : Int32} {σ : zH} {Q : Option Value → zH → Prop} (h : (if x1 = nI 0 then (zK σ r0 = 12) ∧ (zK σ (zQ σ r0 1) = 2) ∧ Q (some (.int (zI σ (zQ σ r0 1) 4))) σ else (if x1 = nI 1 then (zK σ r0 = 12) ∧ (zK σ (zQ σ r0 7) = 10) ∧ Q (some (.int (zI σ (zQ σ r0 7) 2))) σ else (if x1 = nI 2 then (zK σ r0 = 12) ∧ (zK σ (zQ σ r0 0) = 8) ∧ Q (some (.int (zI σ (zQ σ r0 0) 1))) σ else (if x1 = nI 3 then (zK σ r0 = 12) ∧ (zK σ (zQ σ r0 5) = 4) ∧ Q (some (.int (zI σ (zQ σ r0 5) 6))) σ else Q (some (.int (-1))) σ))))) : zM (d) 122 [.ref r0, .int x1] σ Q := by
  unfold zM
  refine zW_s rfl ?_
  refine zW_s rfl ?_
  refine zW_sw (fun (c101 : x1 = nI 0) => ?_) (fun (c101 : ¬ (x1 = nI 0)) => ?_)
  · rw [if_pos c101] at h
    refine zW_s rfl ?_
    have hp102 := h.1; replace h := h.2
    refine zW_p rfl hp102 ?_
    have hp103 := h.1; replace h := h.2
    refine zW_p rfl hp103 ?_
    refine zW_r rfl trivial ?_
    exact h
  · rw [if_neg c101] at h
    refine zW_sw (fun (c104 : x1 = nI 1) => ?_) (fun (c104 : ¬ (x1 = nI 1)) => ?_)
    · rw [if_pos c104] at h
      refine zW_s rfl ?_
      have hp105 := h.1; replace h := h.2
      refine zW_p rfl hp105 ?_
      have hp106 := h.1; replace h := h.2
      refine zW_p rfl hp106 ?_
      refine zW_r rfl trivial ?_
      exact h
    · rw [if_neg c104] at h
      refine zW_sw (fun (c107 : x1 = nI 2) => ?_) (fun (c107 : ¬ (x1 = nI 2)) => ?_)
      · rw [if_pos c107] at h
        refine zW_s rfl ?_
        have hp108 := h.1; replace h := h.2
        refine zW_p rfl hp108 ?_
        have hp109 := h.1; replace h := h.2
        refine zW_p rfl hp109 ?_
        refine zW_r rfl trivial ?_
        exact h
      · rw [if_neg c107] at h
        refine zW_sw (fun (c110 : x1 = nI 3) => ?_) (fun (c110 : ¬ (x1 = nI 3)) => ?_)
        · rw [if_pos c110] at h
          refine zW_s rfl ?_
          have hp111 := h.1; replace h := h.2
          refine zW_p rfl hp111 ?_
          have hp112 := h.1; replace h := h.2
          refine zW_p rfl hp112 ?_
          refine zW_r rfl trivial ?_
          exact h
        · rw [if_neg c110] at h
          refine zW_s rfl ?_
          refine zW_r rfl trivial ?_
          exact h
set_option maxHeartbeats 4000000 in
theorem b123 {d : Nat} {r0 : Nat} {σ : zH} {Q : Option Value → zH → Prop} (h : (zK σ r0 = 12) ∧ Q none (zsJ (zsI (zsI (zsI σ r0 11 (nI 0)) r0 12 (nI 0)) r0 13 (nI 0)) r0 14 (Int64.ofInt (-1)))) : zM (d) 123 [.ref r0] σ Q := by
  unfold zM
  refine zW_s rfl ?_
  refine zW_s rfl ?_
  have hp101 := h.1; replace h := h.2
  refine zW_p rfl ⟨hp101, by decide⟩ ?_
  refine zW_s rfl ?_
  refine zW_s rfl ?_
  refine zW_p rfl hp101 ?_
  refine zW_s rfl ?_
  refine zW_s rfl ?_
  refine zW_p rfl hp101 ?_
  refine zW_s rfl ?_
  refine zW_s rfl ?_
  refine zW_p rfl hp101 ?_
  refine zW_r rfl trivial ?_
  exact h
set_option maxHeartbeats 4000000 in
theorem b124 {d : Nat} {r0 : Nat} {σ : zH} {Q : Option Value → zH → Prop} (h : (zK σ r0 = 12) ∧ (zK σ (zQ σ r0 0) = 8) ∧ (zK σ (zQ σ r0 1) = 2) ∧ (if (zI σ (zQ σ r0 0) 1) = (zI σ (zQ σ r0 1) 4) then zW (d) 124 23 [(0, .ref r0), (1, .int (nI 0)), (2, .int (nI 0))] [] σ Q else Q (some (.int (nI 0))) σ)) : zM (d) 124 [.ref r0] σ Q := by
  unfold zM
  refine zW_s rfl ?_
  have hp101 := h.1; replace h := h.2
  refine zW_p rfl hp101 ?_
  have hp102 := h.1; replace h := h.2
  refine zW_p rfl hp102 ?_
  refine zW_s rfl ?_
  refine zW_p rfl hp101 ?_
  have hp103 := h.1; replace h := h.2
  refine zW_p rfl hp103 ?_
  refine zW_s rfl ?_
  refine zW_if (fun (c104 : (zI σ (zQ σ r0 0) 1) = (zI σ (zQ σ r0 1) 4)) => ?_) (fun (c104 : ¬ ((zI σ (zQ σ r0 0) 1) = (zI σ (zQ σ r0 1) 4))) => ?_)
  · rw [if_pos c104] at h
    refine zW_s rfl ?_
    refine zW_s rfl ?_
    refine zW_s rfl ?_
    refine zW_s rfl ?_
    exact h
  · rw [if_neg c104] at h
    refine zW_s rfl ?_
    refine zW_r rfl (by decide) ?_
    exact h
set_option maxHeartbeats 4000000 in
theorem b124_23 {d : Nat} {r0 : Nat} {x1 : Int32} {x2 : Int32} {σ : zH} {Q : Option Value → zH → Prop} (h : (zK σ r0 = 12) ∧ (zK σ (zQ σ r0 1) = 2) ∧ (if (zI σ (zQ σ r0 1) 4) ≤ x2 then Q (some (.int (nI 1))) σ else (zK σ (zQ σ r0 0) = 8) ∧ (zK σ (zQ σ (zQ σ r0 0) 0) = 20) ∧ (vp_in x2 (zN σ (zQ σ (zQ σ r0 0) 0))) ∧ (if ((zA σ (zQ σ (zQ σ r0 0) 0) x2.toNatClampNeg) &&& (nI 127)) < (nI 1) then Q (some (.int (nI 0))) σ else (if (zI σ (zQ σ r0 1) 4) < ((zA σ (zQ σ (zQ σ r0 0) 0) x2.toNatClampNeg) &&& (nI 127)) then Q (some (.int (nI 0))) σ else (if (x1 &&& ((nI 1) <<< (((zA σ (zQ σ (zQ σ r0 0) 0) x2.toNatClampNeg) &&& (nI 127)) &&& 31))) = 0 then zW (d) 124 23 [(0, .ref r0), (1, .int (x1 ||| ((nI 1) <<< (((zA σ (zQ σ (zQ σ r0 0) 0) x2.toNatClampNeg) &&& (nI 127)) &&& 31)))), (2, .int (x2 + nI 1))] [] σ Q else Q (some (.int (nI 0))) σ))))) : zW (d) 124 23 [(0, .ref r0), (1, .int x1), (2, .int x2)] [] σ Q := by
  refine zW_s rfl ?_
  refine zW_s rfl ?_
  have hp101 := h.1; replace h := h.2
  refine zW_p rfl hp101 ?_
  have hp102 := h.1; replace h := h.2
  refine zW_p rfl hp102 ?_
  refine zW_s rfl ?_
  refine zW_if (fun (c103 : (zI σ (zQ σ r0 1) 4) ≤ x2) => ?_) (fun (c103 : ¬ ((zI σ (zQ σ r0 1) 4) ≤ x2)) => ?_)
  · rw [if_pos c103] at h
    refine zW_s rfl ?_
    refine zW_r rfl (by decide) ?_
    exact h
  · rw [if_neg c103] at h
    refine zW_s rfl ?_
    refine zW_p rfl hp101 ?_
    have hp104 := h.1; replace h := h.2
    refine zW_p rfl hp104 ?_
    refine zW_s rfl ?_
    have hp105 := h.1; replace h := h.2
    have hp106 := h.1; replace h := h.2
    refine zW_p rfl ⟨hp105, hp106⟩ ?_
    refine zW_s rfl ?_
    refine zW_s rfl ?_
    refine zW_s rfl ?_
    refine zW_s rfl ?_
    refine zW_s rfl ?_
    refine zW_s rfl ?_
    refine zW_if (fun (c107 : ((zA σ (zQ σ (zQ σ r0 0) 0) x2.toNatClampNeg) &&& (nI 127)) < (nI 1)) => ?_) (fun (c107 : ¬ (((zA σ (zQ σ (zQ σ r0 0) 0) x2.toNatClampNeg) &&& (nI 127)) < (nI 1))) => ?_)
    · rw [if_pos c107] at h
      refine zW_s rfl ?_
      refine zW_r rfl (by decide) ?_
      exact h
    · rw [if_neg c107] at h
      refine zW_s rfl ?_
      refine zW_s rfl ?_
      refine zW_p rfl hp101 ?_
      refine zW_p rfl hp102 ?_
      refine zW_s rfl ?_
      refine zW_if (fun (c108 : (zI σ (zQ σ r0 1) 4) < ((zA σ (zQ σ (zQ σ r0 0) 0) x2.toNatClampNeg) &&& (nI 127))) => ?_) (fun (c108 : ¬ ((zI σ (zQ σ r0 1) 4) < ((zA σ (zQ σ (zQ σ r0 0) 0) x2.toNatClampNeg) &&& (nI 127)))) => ?_)
      · rw [if_pos c108] at h
        refine zW_s rfl ?_
        refine zW_r rfl (by decide) ?_
        exact h
      · rw [if_neg c108] at h
        refine zW_s rfl ?_
        refine zW_s rfl ?_
        refine zW_s rfl ?_
        refine zW_s rfl ?_
        refine zW_s rfl ?_
        refine zW_s rfl ?_
        refine zW_if (fun (c109 : (x1 &&& ((nI 1) <<< (((zA σ (zQ σ (zQ σ r0 0) 0) x2.toNatClampNeg) &&& (nI 127)) &&& 31))) = 0) => ?_) (fun (c109 : ¬ ((x1 &&& ((nI 1) <<< (((zA σ (zQ σ (zQ σ r0 0) 0) x2.toNatClampNeg) &&& (nI 127)) &&& 31))) = 0)) => ?_)
        · rw [if_pos c109] at h
          refine zW_s rfl ?_
          refine zW_s rfl ?_
          refine zW_s rfl ?_
          refine zW_s rfl ?_
          refine zW_s rfl ?_
          refine zW_s rfl ?_
          refine zW_s rfl ?_
          refine zW_s rfl ?_
          refine zW_k [0, 1, 2] rfl ?_
          exact h
        · rw [if_neg c109] at h
          refine zW_s rfl ?_
          refine zW_r rfl (by decide) ?_
          exact h
set_option maxHeartbeats 4000000 in
theorem b125 {d : Nat} {r0 : Nat} {σ : zH} {Q : Option Value → zH → Prop} (h : (zK σ r0 = 12) ∧ (zK σ (zQ σ r0 1) = 2) ∧ zW (d + 1) 125 10 [(0, .ref r0), (1, .int ((zI σ (zQ σ r0 1) 4) - (nI 2)))] [] σ Q) : zM (d + 1) 125 [.ref r0] σ Q := by
  unfold zM
  refine zW_s rfl ?_
  have hp101 := h.1; replace h := h.2
  refine zW_p rfl hp101 ?_
  have hp102 := h.1; replace h := h.2
  refine zW_p rfl hp102 ?_
  refine zW_s rfl ?_
  refine zW_s rfl ?_
  refine zW_s rfl ?_
  exact h
set_option maxHeartbeats 4000000 in
theorem b125_10 {d : Nat} {r0 : Nat} {x1 : Int32} {σ : zH} {Q : Option Value → zH → Prop} (h : (if x1 < 0 then zW (d + 1) 125 37 [(0, .ref r0), (1, .int x1)] [] σ Q else (zK σ r0 = 12) ∧ (zK σ (zQ σ r0 6) = 20) ∧ (vp_in x1 (zN σ (zQ σ r0 6))) ∧ (vp_in (x1 + (nI 1)) (zN σ (zQ σ r0 6))) ∧ (if (zA σ (zQ σ r0 6) x1.toNatClampNeg) ≤ (zA σ (zQ σ r0 6) (x1 + (nI 1)).toNatClampNeg) then zW (d + 1) 125 37 [(0, .ref r0), (1, .int x1)] [] σ Q else zW (d + 1) 125 10 [(0, .ref r0), (1, .int (x1 + (-1)))] [] σ Q))) : zW (d + 1) 125 10 [(0, .ref r0), (1, .int x1)] [] σ Q := by
  refine zW_s rfl ?_
  refine zW_s rfl ?_
  refine zW_if (fun (c101 : x1 < 0) => ?_) (fun (c101 : ¬ (x1 < 0)) => ?_)
  · rw [if_pos c101] at h
    exact h
  · rw [if_neg c101] at h
    refine zW_s rfl ?_
    have hp102 := h.1; replace h := h.2
    refine zW_p rfl hp102 ?_
    refine zW_s rfl ?_
    have hp103 := h.1; replace h := h.2
    have hp104 := h.1; replace h := h.2
    refine zW_p rfl ⟨hp103, hp104⟩ ?_
    refine zW_s rfl ?_
    refine zW_p rfl hp102 ?_
    refine zW_s rfl ?_
    refine zW_s rfl ?_
    refine zW_s rfl ?_
    have hp105 := h.1; replace h := h.2
    refine zW_p rfl ⟨hp103, hp105⟩ ?_
    refine zW_s rfl ?_
    refine zW_if (fun (c106 : (zA σ (zQ σ r0 6) x1.toNatClampNeg) ≤ (zA σ (zQ σ r0 6) (x1 + (nI 1)).toNatClampNeg)) => ?_) (fun (c106 : ¬ ((zA σ (zQ σ r0 6) x1.toNatClampNeg) ≤ (zA σ (zQ σ r0 6) (x1 + (nI 1)).toNatClampNeg))) => ?_)
    · rw [if_pos c106] at h
      exact h
    · rw [if_neg c106] at h
      refine zW_s rfl ?_
      refine zW_s rfl ?_
      exact h
set_option maxHeartbeats 4000000 in
theorem b125_37 {d : Nat} {r0 : Nat} {x1 : Int32} {σ : zH} {Q : Option Value → zH → Prop} (h : (if 0 ≤ x1 then (zK σ r0 = 12) ∧ (zK σ (zQ σ r0 1) = 2) ∧ zW (d + 1) 125 53 [(0, .ref r0), (1, .int x1), (2, .int ((zI σ (zQ σ r0 1) 4) - (nI 1)))] [] σ Q else Q (some (.int (nI 0))) σ)) : zW (d + 1) 125 37 [(0, .ref r0), (1, .int x1)] [] σ Q := by
  refine zW_s rfl ?_
  refine zW_s rfl ?_
  refine zW_if (fun (c101 : 0 ≤ x1) => ?_) (fun (c101 : ¬ (0 ≤ x1)) => ?_)
  · rw [if_pos c101] at h
    refine zW_s rfl ?_
    have hp102 := h.1; replace h := h.2
    refine zW_p rfl hp102 ?_
    have hp103 := h.1; replace h := h.2
    refine zW_p rfl hp103 ?_
    refine zW_s rfl ?_
    refine zW_s rfl ?_
    refine zW_s rfl ?_
    exact h
  · rw [if_neg c101] at h
    refine zW_s rfl ?_
    refine zW_r rfl (by decide) ?_
    exact h
set_option maxHeartbeats 4000000 in
theorem b125_53 {d : Nat} {r0 : Nat} {x1 : Int32} {x2 : Int32} {σ : zH} {Q : Option Value → zH → Prop} (h : (if x2 ≤ x1 then zW (d + 1) 125 79 [(0, .ref r0), (1, .int x1), (2, .int x2)] [] σ Q else (zK σ r0 = 12) ∧ (zK σ (zQ σ r0 6) = 20) ∧ (vp_in x2 (zN σ (zQ σ r0 6))) ∧ (vp_in x1 (zN σ (zQ σ r0 6))) ∧ (if (zA σ (zQ σ r0 6) x1.toNatClampNeg) ≤ (zA σ (zQ σ r0 6) x2.toNatClampNeg) then zW (d + 1) 125 79 [(0, .ref r0), (1, .int x1), (2, .int x2)] [] σ Q else zW (d + 1) 125 53 [(0, .ref r0), (1, .int x1), (2, .int (x2 + (-1)))] [] σ Q))) : zW (d + 1) 125 53 [(0, .ref r0), (1, .int x1), (2, .int x2)] [] σ Q := by
  refine zW_s rfl ?_
  refine zW_s rfl ?_
  refine zW_s rfl ?_
  refine zW_if (fun (c101 : x2 ≤ x1) => ?_) (fun (c101 : ¬ (x2 ≤ x1)) => ?_)
  · rw [if_pos c101] at h
    exact h
  · rw [if_neg c101] at h
    refine zW_s rfl ?_
    have hp102 := h.1; replace h := h.2
    refine zW_p rfl hp102 ?_
    refine zW_s rfl ?_
    have hp103 := h.1; replace h := h.2
    have hp104 := h.1; replace h := h.2
    refine zW_p rfl ⟨hp103, hp104⟩ ?_
    refine zW_s rfl ?_
    refine zW_p rfl hp102 ?_
    refine zW_s rfl ?_
    have hp105 := h.1; replace h := h.2
    refine zW_p rfl ⟨hp103, hp105⟩ ?_
    refine zW_s rfl ?_
    refine zW_if (fun (c106 : (zA σ (zQ σ r0 6) x1.toNatClampNeg) ≤ (zA σ (zQ σ r0 6) x2.toNatClampNeg)) => ?_) (fun (c106 : ¬ ((zA σ (zQ σ r0 6) x1.toNatClampNeg) ≤ (zA σ (zQ σ r0 6) x2.toNatClampNeg))) => ?_)
    · rw [if_pos c106] at h
      exact h
    · rw [if_neg c106] at h
      refine zW_s rfl ?_
      refine zW_s rfl ?_
      exact h
set_option maxHeartbeats 4000000 in
theorem b125_79 {d : Nat} {r0 : Nat} {x1 : Int32} {x2 : Int32} {σ : zH} {Q : Option Value → zH → Prop} (h : (zK σ r0 = 12) ∧ zM d 126 [.ref r0, .int x1, .int x2] σ (fun r σ102 => zqv r ((zK σ102 r0 = 12) ∧ (zK σ102 (zQ σ102 r0 1) = 2) ∧ zW (d + 1) 125 100 [(0, .ref r0), (3, .int (x1 + (nI 1))), (4, .int ((zI σ102 (zQ σ102 r0 1) 4) - (nI 1)))] [] σ102 Q))) : zW (d + 1) 125 79 [(0, .ref r0), (1, .int x1), (2, .int x2)] [] σ Q := by
  refine zW_s rfl ?_
  refine zW_s rfl ?_
  refine zW_s rfl ?_
  have hp101 := h.1; replace h := h.2
  refine zW_c rfl hp101 (zM_m h ?_)
  intro r σ102 h
  replace h := zqv_e h
  obtain ⟨rfl, h⟩ := h
  refine zW_s rfl ?_
  refine zW_s rfl ?_
  refine zW_s rfl ?_
  refine zW_s rfl ?_
  refine zW_s rfl ?_
  have hp103 := h.1; replace h := h.2
  refine zW_p rfl hp103 ?_
  have hp104 := h.1; replace h := h.2
  refine zW_p rfl hp104 ?_
  refine zW_s rfl ?_
  refine zW_s rfl ?_
  refine zW_s rfl ?_
  refine zW_k [0, 3, 4] rfl ?_
  exact h
set_option maxHeartbeats 4000000 in
theorem b125_100 {d : Nat} {r0 : Nat} {x3 : Int32} {x4 : Int32} {σ : zH} {Q : Option Value → zH → Prop} (h : (if x4 ≤ x3 then Q (some (.int (nI 1))) σ else (zK σ r0 = 12) ∧ zM d 126 [.ref r0, .int x3, .int x4] σ (fun r σ103 => zqv r (zW (d + 1) 125 100 [(0, .ref r0), (3, .int (x3 + nI 1)), (4, .int (x4 + (-1)))] [] σ103 Q)))) : zW (d + 1) 125 100 [(0, .ref r0), (3, .int x3), (4, .int x4)] [] σ Q := by
  refine zW_s rfl ?_
  refine zW_s rfl ?_
  refine zW_s rfl ?_
  refine zW_if (fun (c101 : x4 ≤ x3) => ?_) (fun (c101 : ¬ (x4 ≤ x3)) => ?_)
  · rw [if_pos c101] at h
    refine zW_s rfl ?_
    refine zW_r rfl (by decide) ?_
    exact h
  · rw [if_neg c101] at h
    refine zW_s rfl ?_
    refine zW_s rfl ?_
    refine zW_s rfl ?_
    have hp102 := h.1; replace h := h.2
    refine zW_c rfl hp102 (zM_m h ?_)
    intro r σ103 h
    replace h := zqv_e h
    obtain ⟨rfl, h⟩ := h
    refine zW_s rfl ?_
    refine zW_s rfl ?_
    refine zW_s rfl ?_
    exact h
set_option maxHeartbeats 4000000 in
theorem b126 {d : Nat} {r0 : Nat} {x1 : Int32} {x2 : Int32} {σ : zH} {Q : Option Value → zH → Prop} (h : (zK σ r0 = 12) ∧ (zK σ (zQ σ r0 6) = 20) ∧ (vp_in x1 (zN σ (zQ σ r0 6))) ∧ (vp_in x2 (zN σ (zQ σ r0 6))) ∧ Q none (zsA (zsA σ (zQ σ r0 6) x1.toNatClampNeg (zA σ (zQ σ r0 6) x2.toNatClampNeg)) (zQ σ r0 6) x2.toNatClampNeg (zA σ (zQ σ r0 6) x1.toNatClampNeg))) : zM (d) 126 [.ref r0, .int x1, .int x2] σ Q := by
  unfold zM
  refine zW_s rfl ?_
  have hp101 := h.1; replace h := h.2
  refine zW_p rfl hp101 ?_
  refine zW_s rfl ?_
  have hp102 := h.1; replace h := h.2
  have hp103 := h.1; replace h := h.2
  refine zW_p rfl ⟨hp102, hp103⟩ ?_
  refine zW_s rfl ?_
  refine zW_s rfl ?_
  refine zW_p rfl hp101 ?_
  refine zW_s rfl ?_
  refine zW_s rfl ?_
  refine zW_p rfl hp101 ?_
  refine zW_s rfl ?_
  have hp104 := h.1; replace h := h.2
  refine zW_p rfl ⟨hp102, hp104⟩ ?_
  refine zW_p rfl ⟨hp102, hp103⟩ ?_
  refine zW_s rfl ?_
  refine zW_p rfl hp101 ?_
  refine zW_s rfl ?_
  refine zW_s rfl ?_
  refine zW_p rfl ⟨hp102, hp104⟩ ?_
  refine zW_r rfl trivial ?_
  exact h
set_option maxHeartbeats 4000000 in
theorem b127 {d : Nat} {r0 : Nat} {σ : zH} {Q : Option Value → zH → Prop} (h : (zK σ r0 = 13) ∧ Q (some (.int (zI σ r0 0))) σ) : zM (d) 127 [.ref r0] σ Q := by
  unfold zM
  refine zW_s rfl ?_
  have hp101 := h.1; replace h := h.2
  refine zW_p rfl hp101 ?_
  refine zW_r rfl trivial ?_
  exact h
set_option maxHeartbeats 4000000 in
theorem b128 {d : Nat} {r0 : Nat} {x1 : Int32} {x2 : Int32} {x3 : Int32} {x4 : Int32} {x5 : Int32} {σ : zH} {Q : Option Value → zH → Prop} (h : (zK σ r0 = 13) ∧ (if ((zI (zsI σ r0 0 (nI 0)) r0 2) + (nI 20)) ≤ (nI 900) then zM d 129 [.ref r0, .int x1] (zsI σ r0 0 (nI 0)) (fun r σ103 => zqv r ((zK σ103 r0 = 13) ∧ zM d 129 [.ref r0, .int x2] σ103 (fun r σ105 => zqv r ((zK σ105 r0 = 13) ∧ zM d 129 [.ref r0, .int x3] σ105 (fun r σ107 => zqv r ((zK σ107 r0 = 13) ∧ zM d 129 [.ref r0, .int x4] σ107 (fun r σ109 => zqv r ((zK σ109 r0 = 13) ∧ zM d 129 [.ref r0, .int x5] σ109 (fun r σ111 => zqv r ((zK σ111 r0 = 13) ∧ Q (some (.int (zI σ111 r0 2))) σ111)))))))))) else Q (some (.int (-1))) (zsI σ r0 0 (nI 0)))) : zM (d + 1) 128 [.ref r0, .int x1, .int x2, .int x3, .int x4, .int x5] σ Q := by
  unfold zM
  refine zW_s rfl ?_
  refine zW_s rfl ?_
  have hp101 := h.1; replace h := h.2
  refine zW_p rfl hp101 ?_
  refine zW_s rfl ?_
  refine zW_p rfl hp101 ?_
  refine zW_s rfl ?_
  refine zW_s rfl ?_
  refine zW_s rfl ?_
  refine zW_s rfl ?_
  refine zW_if (fun (c102 : ((zI (zsI σ r0 0 (nI 0)) r0 2) + (nI 20)) ≤ (nI 900)) => ?_) (fun (c102 : ¬ (((zI (zsI σ r0 0 (nI 0)) r0 2) + (nI 20)) ≤ (nI 900))) => ?_)
  · rw [if_pos c102] at h
    refine zW_s rfl ?_
    refine zW_s rfl ?_
    refine zW_c rfl hp101 (zM_m h ?_)
    intro r σ103 h
    replace h := zqv_e h
    obtain ⟨rfl, h⟩ := h
    refine zW_s rfl ?_
    refine zW_s rfl ?_
    have hp104 := h.1; replace h := h.2
    refine zW_c rfl hp104 (zM_m h ?_)
    intro r σ105 h
    replace h := zqv_e h
    obtain ⟨rfl, h⟩ := h
    refine zW_s rfl ?_
    refine zW_s rfl ?_
    have hp106 := h.1; replace h := h.2
    refine zW_c rfl hp106 (zM_m h ?_)
    intro r σ107 h
    replace h := zqv_e h
    obtain ⟨rfl, h⟩ := h
    refine zW_s rfl ?_
    refine zW_s rfl ?_
    have hp108 := h.1; replace h := h.2
    refine zW_c rfl hp108 (zM_m h ?_)
    intro r σ109 h
    replace h := zqv_e h
    obtain ⟨rfl, h⟩ := h
    refine zW_s rfl ?_
    refine zW_s rfl ?_
    have hp110 := h.1; replace h := h.2
    refine zW_c rfl hp110 (zM_m h ?_)
    intro r σ111 h
    replace h := zqv_e h
    obtain ⟨rfl, h⟩ := h
    refine zW_s rfl ?_
    have hp112 := h.1; replace h := h.2
    refine zW_p rfl hp112 ?_
    refine zW_r rfl trivial ?_
    exact h
  · rw [if_neg c102] at h
    refine zW_s rfl ?_
    refine zW_r rfl trivial ?_
    exact h
set_option maxHeartbeats 4000000 in
theorem b129 {d : Nat} {r0 : Nat} {x1 : Int32} {σ : zH} {Q : Option Value → zH → Prop} (h : zW (d) 129 3 [(0, .ref r0), (1, .int x1), (2, .int (nI 24))] [] σ Q) : zM (d) 129 [.ref r0, .int x1] σ Q := by
  unfold zM
  refine zW_s rfl ?_
  refine zW_s rfl ?_
  exact h
set_option maxHeartbeats 4000000 in
theorem b129_3 {d : Nat} {r0 : Nat} {x1 : Int32} {x2 : Int32} {σ : zH} {Q : Option Value → zH → Prop} (h : (if x2 < 0 then Q none σ else (zK σ r0 = 13) ∧ (zK σ (zQ σ r0 1) = 22) ∧ (vp_in (zI σ r0 2) (zN σ (zQ σ r0 1))) ∧ zW (d) 129 3 [(0, .ref r0), (1, .int x1), (2, .int (x2 + (-8)))] [] (zsI (zsA σ (zQ σ r0 1) (zI σ r0 2).toNatClampNeg (((x1 >>> (x2 &&& 31)).toInt8.toInt32).toInt8.toInt32)) r0 2 ((zI σ r0 2) + (nI 1))) Q)) : zW (d) 129 3 [(0, .ref r0), (1, .int x1), (2, .int x2)] [] σ Q := by
  refine zW_s rfl ?_
  refine zW_s rfl ?_
  refine zW_if (fun (c101 : x2 < 0) => ?_) (fun (c101 : ¬ (x2 < 0)) => ?_)
  · rw [if_pos c101] at h
    refine zW_r rfl trivial ?_
    exact h
  · rw [if_neg c101] at h
    refine zW_s rfl ?_
    have hp102 := h.1; replace h := h.2
    refine zW_p rfl hp102 ?_
    refine zW_s rfl ?_
    refine zW_p rfl hp102 ?_
    refine zW_s rfl ?_
    refine zW_s rfl ?_
    refine zW_s rfl ?_
    refine zW_s rfl ?_
    have hp103 := h.1; replace h := h.2
    have hp104 := h.1; replace h := h.2
    refine zW_p rfl ⟨hp103, hp104⟩ ?_
    refine zW_s rfl ?_
    refine zW_s rfl ?_
    refine zW_p rfl hp102 ?_
    refine zW_s rfl ?_
    refine zW_s rfl ?_
    refine zW_p rfl hp102 ?_
    refine zW_s rfl ?_
    refine zW_s rfl ?_
    exact h
set_option maxHeartbeats 4000000 in
theorem b130 {d : Nat} {r0 : Nat} {x1 : Int32} {σ : zH} {Q : Option Value → zH → Prop} (h : (zK σ r0 = 13) ∧ (if x1 < 0 then Q (some (.int (nI 0))) (zsI σ r0 0 (nI 0)) else (if x1 ≤ (zI (zsI σ r0 0 (nI 0)) r0 2) then Q (some (.int (nI 1))) (zsI (zsI σ r0 0 (nI 0)) r0 2 x1) else Q (some (.int (nI 0))) (zsI σ r0 0 (nI 0))))) : zM (d) 130 [.ref r0, .int x1] σ Q := by
  unfold zM
  refine zW_s rfl ?_
  refine zW_s rfl ?_
  have hp101 := h.1; replace h := h.2
  refine zW_p rfl hp101 ?_
  refine zW_s rfl ?_
  refine zW_s rfl ?_
  refine zW_if (fun (c102 : x1 < 0) => ?_) (fun (c102 : ¬ (x1 < 0)) => ?_)
  · rw [if_pos c102] at h
    refine zW_s rfl ?_
    refine zW_r rfl (by decide) ?_
    exact h
  · rw [if_neg c102] at h
    refine zW_s rfl ?_
    refine zW_s rfl ?_
    refine zW_p rfl hp101 ?_
    refine zW_s rfl ?_
    refine zW_if (fun (c103 : x1 ≤ (zI (zsI σ r0 0 (nI 0)) r0 2)) => ?_) (fun (c103 : ¬ (x1 ≤ (zI (zsI σ r0 0 (nI 0)) r0 2))) => ?_)
    · rw [if_pos c103] at h
      refine zW_s rfl ?_
      refine zW_s rfl ?_
      refine zW_p rfl hp101 ?_
      refine zW_s rfl ?_
      refine zW_r rfl (by decide) ?_
      exact h
    · rw [if_neg c103] at h
      refine zW_s rfl ?_
      refine zW_r rfl (by decide) ?_
      exact h
set_option maxHeartbeats 4000000 in
theorem b132 {d : Nat} {r0 : Nat} {σ : zH} {Q : Option Value → zH → Prop} (h : zW (d) 132 2 [(0, .ref r0), (1, .int (nI 1))] [] σ Q) : zM (d) 132 [.ref r0] σ Q := by
  unfold zM
  refine zW_s rfl ?_
  refine zW_s rfl ?_
  exact h
set_option maxHeartbeats 4000000 in
theorem b132_2 {d : Nat} {r0 : Nat} {x1 : Int32} {σ : zH} {Q : Option Value → zH → Prop} (h : (if (nI 10) ≤ x1 then (zK σ r0 = 13) ∧ Q none (zsI (zsI (zsI σ r0 51 (nI 0)) r0 56 (nI 0)) r0 59 (nI 0)) else (zK σ r0 = 13) ∧ (zK σ (zQ σ r0 6) = 20) ∧ (vp_in x1 (zN σ (zQ σ r0 6))) ∧ (¬ (nI 4) = 0) ∧ (zK σ (zQ σ r0 7) = 20) ∧ (vp_in x1 (zN σ (zQ σ r0 7))) ∧ (¬ (nI 2) = 0) ∧ (zK σ (zQ σ r0 8) = 20) ∧ (vp_in x1 (zN σ (zQ σ r0 8))) ∧ (zK σ (zQ σ r0 9) = 20) ∧ (vp_in (x1 - (nI 1)) (zN σ (zQ σ r0 9))) ∧ zW (d) 132 2 [(0, .ref r0), (1, .int (x1 + nI 1))] [] (zsA (zsA (zsA (zsA σ (zQ σ r0 6) x1.toNatClampNeg x1) (zQ σ r0 7) x1.toNatClampNeg ((x1 - (nI 1)) - (x1 - (nI 1)) / (nI 4) * (nI 4))) (zQ σ r0 8) x1.toNatClampNeg ((x1 - (nI 1)) - (x1 - (nI 1)) / (nI 2) * (nI 2))) (zQ σ r0 9) (x1 - (nI 1)).toNatClampNeg x1) Q)) : zW (d) 132 2 [(0, .ref r0), (1, .int x1)] [] σ Q := by
  refine zW_s rfl ?_
  refine zW_s rfl ?_
  refine zW_s rfl ?_
  refine zW_if (fun (c101 : (nI 10) ≤ x1) => ?_) (fun (c101 : ¬ ((nI 10) ≤ x1)) => ?_)
  · rw [if_pos c101] at h
    refine zW_s rfl ?_
    refine zW_s rfl ?_
    have hp102 := h.1; replace h := h.2
    refine zW_p rfl ⟨hp102, by decide⟩ ?_
    refine zW_s rfl ?_
    refine zW_s rfl ?_
    refine zW_p rfl ⟨hp102, by decide⟩ ?_
    refine zW_s rfl ?_
    refine zW_s rfl ?_
    refine zW_p rfl hp102 ?_
    refine zW_r rfl trivial ?_
    exact h
  · rw [if_neg c101] at h
    refine zW_s rfl ?_
    have hp103 := h.1; replace h := h.2
    refine zW_p rfl hp103 ?_
    refine zW_s rfl ?_
    refine zW_s rfl ?_
    have hp104 := h.1; replace h := h.2
    have hp105 := h.1; replace h := h.2
    refine zW_p rfl ⟨hp104, hp105⟩ ?_
    refine zW_s rfl ?_
    refine zW_p rfl hp103 ?_
    refine zW_s rfl ?_
    refine zW_s rfl ?_
    refine zW_s rfl ?_
    refine zW_s rfl ?_
    refine zW_s rfl ?_
    have hp106 := h.1; replace h := h.2
    refine zW_p rfl hp106 ?_
    have hp107 := h.1; replace h := h.2
    have hp108 := h.1; replace h := h.2
    refine zW_p rfl ⟨hp107, hp108⟩ ?_
    refine zW_s rfl ?_
    refine zW_p rfl hp103 ?_
    refine zW_s rfl ?_
    refine zW_s rfl ?_
    refine zW_s rfl ?_
    refine zW_s rfl ?_
    refine zW_s rfl ?_
    have hp109 := h.1; replace h := h.2
    refine zW_p rfl hp109 ?_
    have hp110 := h.1; replace h := h.2
    have hp111 := h.1; replace h := h.2
    refine zW_p rfl ⟨hp110, hp111⟩ ?_
    refine zW_s rfl ?_
    refine zW_p rfl hp103 ?_
    refine zW_s rfl ?_
    refine zW_s rfl ?_
    refine zW_s rfl ?_
    refine zW_s rfl ?_
    have hp112 := h.1; replace h := h.2
    have hp113 := h.1; replace h := h.2
    refine zW_p rfl ⟨hp112, hp113⟩ ?_
    refine zW_s rfl ?_
    refine zW_s rfl ?_
    exact h
set_option maxHeartbeats 4000000 in
theorem b133 {d : Nat} {r0 : Nat} {x1 : Int32} {σ : zH} {Q : Option Value → zH → Prop} (h : (zK σ r0 = 13) ∧ (if x1 < (nI 2) then Q (some (.int (nI 0))) (zsI σ r0 0 (nI 0)) else (if x1 ≤ (nI 9) then zM d 132 [.ref r0] (zsI (zsI σ r0 0 (nI 0)) r0 5 x1) (fun r σ104 => zqv r (Q (some (.int (nI 1))) σ104)) else Q (some (.int (nI 0))) (zsI σ r0 0 (nI 0))))) : zM (d + 1) 133 [.ref r0, .int x1] σ Q := by
  unfold zM
  refine zW_s rfl ?_
  refine zW_s rfl ?_
  have hp101 := h.1; replace h := h.2
  refine zW_p rfl hp101 ?_
  refine zW_s rfl ?_
  refine zW_s rfl ?_
  refine zW_s rfl ?_
  refine zW_if (fun (c102 : x1 < (nI 2)) => ?_) (fun (c102 : ¬ (x1 < (nI 2))) => ?_)
  · rw [if_pos c102] at h
    refine zW_s rfl ?_
    refine zW_r rfl (by decide) ?_
    exact h
  · rw [if_neg c102] at h
    refine zW_s rfl ?_
    refine zW_s rfl ?_
    refine zW_s rfl ?_
    refine zW_if (fun (c103 : x1 ≤ (nI 9)) => ?_) (fun (c103 : ¬ (x1 ≤ (nI 9))) => ?_)
    · rw [if_pos c103] at h
      refine zW_s rfl ?_
      refine zW_s rfl ?_
      refine zW_p rfl hp101 ?_
      refine zW_s rfl ?_
      refine zW_c rfl hp101 (zM_m h ?_)
      intro r σ104 h
      replace h := zqv_e h
      obtain ⟨rfl, h⟩ := h
      refine zW_s rfl ?_
      refine zW_r rfl (by decide) ?_
      exact h
    · rw [if_neg c103] at h
      refine zW_s rfl ?_
      refine zW_r rfl (by decide) ?_
      exact h
set_option maxHeartbeats 4000000 in
theorem b134 {d : Nat} {r0 : Nat} {x1 : Int32} {x2 : Int32} {x3 : Int32} {x4 : Int32} {σ : zH} {Q : Option Value → zH → Prop} (h : (zK σ r0 = 13) ∧ (if x1 < (nI 1) then Q (some (.int (nI 0))) (zsI σ r0 0 (nI 0)) else (if (zI (zsI σ r0 0 (nI 0)) r0 5) < x1 then Q (some (.int (nI 0))) (zsI σ r0 0 (nI 0)) else (if x2 < (nI 1) then Q (some (.int (nI 0))) (zsI σ r0 0 (nI 0)) else (if (nI 13) < x2 then Q (some (.int (nI 0))) (zsI σ r0 0 (nI 0)) else (if x3 < 0 then Q (some (.int (nI 0))) (zsI σ r0 0 (nI 0)) else (if (nI 3) < x3 then Q (some (.int (nI 0))) (zsI σ r0 0 (nI 0)) else (if x4 < 0 then Q (some (.int (nI 0))) (zsI σ r0 0 (nI 0)) else (if x4 ≤ (nI 1) then (zK σ (zQ σ r0 6) = 20) ∧ (vp_in x1 (zN σ (zQ σ r0 6))) ∧ (zK σ (zQ σ r0 7) = 20) ∧ (vp_in x1 (zN σ (zQ σ r0 7))) ∧ (zK σ (zQ σ r0 8) = 20) ∧ (vp_in x1 (zN σ (zQ σ r0 8))) ∧ Q (some (.int (nI 1))) (zsA (zsA (zsA (zsI σ r0 0 (nI 0)) (zQ σ r0 6) x1.toNatClampNeg x2) (zQ σ r0 7) x1.toNatClampNeg x3) (zQ σ r0 8) x1.toNatClampNeg x4) else Q (some (.int (nI 0))) (zsI σ r0 0 (nI 0))))))))))) : zM (d) 134 [.ref r0, .int x1, .int x2, .int x3, .int x4] σ Q := by
  unfold zM
  refine zW_s rfl ?_
  refine zW_s rfl ?_
  have hp101 := h.1; replace h := h.2
  refine zW_p rfl hp101 ?_
  refine zW_s rfl ?_
  refine zW_s rfl ?_
  refine zW_s rfl ?_
  refine zW_if (fun (c102 : x1 < (nI 1)) => ?_) (fun (c102 : ¬ (x1 < (nI 1))) => ?_)
  · rw [if_pos c102] at h
    refine zW_s rfl ?_
    refine zW_r rfl (by decide) ?_
    exact h
  · rw [if_neg c102] at h
    refine zW_s rfl ?_
    refine zW_s rfl ?_
    refine zW_p rfl hp101 ?_
    refine zW_s rfl ?_
    refine zW_if (fun (c103 : (zI (zsI σ r0 0 (nI 0)) r0 5) < x1) => ?_) (fun (c103 : ¬ ((zI (zsI σ r0 0 (nI 0)) r0 5) < x1)) => ?_)
    · rw [if_pos c103] at h
      refine zW_s rfl ?_
      refine zW_r rfl (by decide) ?_
      exact h
    · rw [if_neg c103] at h
      refine zW_s rfl ?_
      refine zW_s rfl ?_
      refine zW_s rfl ?_
      refine zW_if (fun (c104 : x2 < (nI 1)) => ?_) (fun (c104 : ¬ (x2 < (nI 1))) => ?_)
      · rw [if_pos c104] at h
        refine zW_s rfl ?_
        refine zW_r rfl (by decide) ?_
        exact h
      · rw [if_neg c104] at h
        refine zW_s rfl ?_
        refine zW_s rfl ?_
        refine zW_s rfl ?_
        refine zW_if (fun (c105 : (nI 13) < x2) => ?_) (fun (c105 : ¬ ((nI 13) < x2)) => ?_)
        · rw [if_pos c105] at h
          refine zW_s rfl ?_
          refine zW_r rfl (by decide) ?_
          exact h
        · rw [if_neg c105] at h
          refine zW_s rfl ?_
          refine zW_s rfl ?_
          refine zW_if (fun (c106 : x3 < 0) => ?_) (fun (c106 : ¬ (x3 < 0)) => ?_)
          · rw [if_pos c106] at h
            refine zW_s rfl ?_
            refine zW_r rfl (by decide) ?_
            exact h
          · rw [if_neg c106] at h
            refine zW_s rfl ?_
            refine zW_s rfl ?_
            refine zW_s rfl ?_
            refine zW_if (fun (c107 : (nI 3) < x3) => ?_) (fun (c107 : ¬ ((nI 3) < x3)) => ?_)
            · rw [if_pos c107] at h
              refine zW_s rfl ?_
              refine zW_r rfl (by decide) ?_
              exact h
            · rw [if_neg c107] at h
              refine zW_s rfl ?_
              refine zW_s rfl ?_
              refine zW_if (fun (c108 : x4 < 0) => ?_) (fun (c108 : ¬ (x4 < 0)) => ?_)
              · rw [if_pos c108] at h
                refine zW_s rfl ?_
                refine zW_r rfl (by decide) ?_
                exact h
              · rw [if_neg c108] at h
                refine zW_s rfl ?_
                refine zW_s rfl ?_
                refine zW_s rfl ?_
                refine zW_if (fun (c109 : x4 ≤ (nI 1)) => ?_) (fun (c109 : ¬ (x4 ≤ (nI 1))) => ?_)
                · rw [if_pos c109] at h
                  refine zW_s rfl ?_
                  refine zW_p rfl hp101 ?_
                  refine zW_s rfl ?_
                  refine zW_s rfl ?_
                  have hp110 := h.1; replace h := h.2
                  have hp111 := h.1; replace h := h.2
                  refine zW_p rfl ⟨hp110, hp111⟩ ?_
                  refine zW_s rfl ?_
                  refine zW_p rfl hp101 ?_
                  refine zW_s rfl ?_
                  refine zW_s rfl ?_
                  have hp112 := h.1; replace h := h.2
                  have hp113 := h.1; replace h := h.2
                  refine zW_p rfl ⟨hp112, hp113⟩ ?_
                  refine zW_s rfl ?_
                  refine zW_p rfl hp101 ?_
                  refine zW_s rfl ?_
                  refine zW_s rfl ?_
                  have hp114 := h.1; replace h := h.2
                  have hp115 := h.1; replace h := h.2
                  refine zW_p rfl ⟨hp114, hp115⟩ ?_
                  refine zW_s rfl ?_
                  refine zW_r rfl (by decide) ?_
                  exact h
                · rw [if_neg c109] at h
                  refine zW_s rfl ?_
                  refine zW_r rfl (by decide) ?_
                  exact h
set_option maxHeartbeats 4000000 in
theorem b135 {d : Nat} {r0 : Nat} {σ : zH} {Q : Option Value → zH → Prop} (h : (zK σ r0 = 13) ∧ (if (zI (zsI σ r0 0 (nI 0)) r0 2) = (zI (zsI (zsI σ r0 0 (nI 0)) r0 2 (nI 0)) r0 5) then zW (d) 135 29 [(0, .ref r0), (1, .int (zI (zsI σ r0 0 (nI 0)) r0 2)), (2, .int (nI 0)), (3, .int (nI 0))] [] (zsI (zsI σ r0 0 (nI 0)) r0 2 (nI 0)) Q else Q (some (.int (nI 0))) (zsI (zsI σ r0 0 (nI 0)) r0 2 (nI 0)))) : zM (d) 135 [.ref r0] σ Q := by
  unfold zM
  refine zW_s rfl ?_
  refine zW_s rfl ?_
  have hp101 := h.1; replace h := h.2
  refine zW_p rfl hp101 ?_
  refine zW_s rfl ?_
  refine zW_p rfl hp101 ?_
  refine zW_s rfl ?_
  refine zW_s rfl ?_
  refine zW_s rfl ?_
  refine zW_p rfl hp101 ?_
  refine zW_s rfl ?_
  refine zW_s rfl ?_
  refine zW_p rfl hp101 ?_
  refine zW_s rfl ?_
  refine zW_if (fun (c102 : (zI (zsI σ r0 0 (nI 0)) r0 2) = (zI (zsI (zsI σ r0 0 (nI 0)) r0 2 (nI 0)) r0 5)) => ?_) (fun (c102 : ¬ ((zI (zsI σ r0 0 (nI 0)) r0 2) = (zI (zsI (zsI σ r0 0 (nI 0)) r0 2 (nI 0)) r0 5))) => ?_)
  · rw [if_pos c102] at h
    refine zW_s rfl ?_
    refine zW_s rfl ?_
    refine zW_s rfl ?_
    refine zW_s rfl ?_
    exact h
  · rw [if_neg c102] at h
    refine zW_s rfl ?_
    refine zW_r rfl (by decide) ?_
    exact h
set_option maxHeartbeats 4000000 in
theorem b135_29 {d : Nat} {r0 : Nat} {x1 : Int32} {x2 : Int32} {x3 : Int32} {σ : zH} {Q : Option Value → zH → Prop} (h : (if x1 ≤ x3 then zW (d) 135 87 [(0, .ref r0), (1, .int x1), (3, .int (nI 0))] [] σ Q else (zK σ r0 = 13) ∧ (zK σ (zQ σ r0 1) = 22) ∧ (vp_in x3 (zN σ (zQ σ r0 1))) ∧ (if ((zA σ (zQ σ r0 1) x3.toNatClampNeg) &&& (nI 127)) < (nI 1) then Q (some (.int (nI 0))) σ else (if (zI σ r0 5) < ((zA σ (zQ σ r0 1) x3.toNatClampNeg) &&& (nI 127)) then Q (some (.int (nI 0))) σ else (if ¬ ((x2 >>> (((zA σ (zQ σ r0 1) x3.toNatClampNeg) &&& (nI 127)) &&& 31)) &&& (nI 1)) = (nI 1) then zW (d) 135 29 [(0, .ref r0), (1, .int x1), (2, .int (x2 ||| ((nI 1) <<< (((zA σ (zQ σ r0 1) x3.toNatClampNeg) &&& (nI 127)) &&& 31)))), (3, .int (x3 + nI 1))] [] σ Q else Q (some (.int (nI 0))) σ))))) : zW (d) 135 29 [(0, .ref r0), (1, .int x1), (2, .int x2), (3, .int x3)] [] σ Q := by
  refine zW_s rfl ?_
  refine zW_s rfl ?_
  refine zW_s rfl ?_
  refine zW_if (fun (c101 : x1 ≤ x3) => ?_) (fun (c101 : ¬ (x1 ≤ x3)) => ?_)
  · rw [if_pos c101] at h
    refine zW_s rfl ?_
    refine zW_s rfl ?_
    refine zW_k [0, 1, 3] rfl ?_
    exact h
  · rw [if_neg c101] at h
    refine zW_s rfl ?_
    have hp102 := h.1; replace h := h.2
    refine zW_p rfl hp102 ?_
    refine zW_s rfl ?_
    have hp103 := h.1; replace h := h.2
    have hp104 := h.1; replace h := h.2
    refine zW_p rfl ⟨hp103, hp104⟩ ?_
    refine zW_s rfl ?_
    refine zW_s rfl ?_
    refine zW_s rfl ?_
    refine zW_s rfl ?_
    refine zW_s rfl ?_
    refine zW_s rfl ?_
    refine zW_if (fun (c105 : ((zA σ (zQ σ r0 1) x3.toNatClampNeg) &&& (nI 127)) < (nI 1)) => ?_) (fun (c105 : ¬ (((zA σ (zQ σ r0 1) x3.toNatClampNeg) &&& (nI 127)) < (nI 1))) => ?_)
    · rw [if_pos c105] at h
      refine zW_s rfl ?_
      refine zW_r rfl (by decide) ?_
      exact h
    · rw [if_neg c105] at h
      refine zW_s rfl ?_
      refine zW_s rfl ?_
      refine zW_p rfl hp102 ?_
      refine zW_s rfl ?_
      refine zW_if (fun (c106 : (zI σ r0 5) < ((zA σ (zQ σ r0 1) x3.toNatClampNeg) &&& (nI 127))) => ?_) (fun (c106 : ¬ ((zI σ r0 5) < ((zA σ (zQ σ r0 1) x3.toNatClampNeg) &&& (nI 127)))) => ?_)
      · rw [if_pos c106] at h
        refine zW_s rfl ?_
        refine zW_r rfl (by decide) ?_
        exact h
      · rw [if_neg c106] at h
        refine zW_s rfl ?_
        refine zW_s rfl ?_
        refine zW_s rfl ?_
        refine zW_s rfl ?_
        refine zW_s rfl ?_
        refine zW_s rfl ?_
        refine zW_s rfl ?_
        refine zW_if (fun (c107 : ¬ ((x2 >>> (((zA σ (zQ σ r0 1) x3.toNatClampNeg) &&& (nI 127)) &&& 31)) &&& (nI 1)) = (nI 1)) => ?_) (fun (c107 : ¬ (¬ ((x2 >>> (((zA σ (zQ σ r0 1) x3.toNatClampNeg) &&& (nI 127)) &&& 31)) &&& (nI 1)) = (nI 1))) => ?_)
        · rw [if_pos c107] at h
          refine zW_s rfl ?_
          refine zW_s rfl ?_
          refine zW_s rfl ?_
          refine zW_s rfl ?_
          refine zW_s rfl ?_
          refine zW_s rfl ?_
          refine zW_s rfl ?_
          refine zW_s rfl ?_
          refine zW_k [0, 1, 2, 3] rfl ?_
          exact h
        · rw [if_neg c107] at h
          refine zW_s rfl ?_
          refine zW_r rfl (by decide) ?_
          exact h
set_option maxHeartbeats 4000000 in
theorem b135_87 {d : Nat} {r0 : Nat} {x1 : Int32} {x3 : Int32} {σ : zH} {Q : Option Value → zH → Prop} (h : (if x1 ≤ x3 then Q (some (.int (nI 1))) σ else (zK σ r0 = 13) ∧ (zK σ (zQ σ r0 1) = 22) ∧ (vp_in x3 (zN σ (zQ σ r0 1))) ∧ (zK σ (zQ σ r0 9) = 20) ∧ (vp_in x3 (zN σ (zQ σ r0 9))) ∧ zW (d) 135 87 [(0, .ref r0), (1, .int x1), (3, .int (x3 + nI 1))] [] (zsA σ (zQ σ r0 9) x3.toNatClampNeg ((zA σ (zQ σ r0 1) x3.toNatClampNeg) &&& (nI 255))) Q)) : zW (d) 135 87 [(0, .ref r0), (1, .int x1), (3, .int x3)] [] σ Q := by
  refine zW_s rfl ?_
  refine zW_s rfl ?_
  refine zW_s rfl ?_
  refine zW_if (fun (c101 : x1 ≤ x3) => ?_) (fun (c101 : ¬ (x1 ≤ x3)) => ?_)
  · rw [if_pos c101] at h
    refine zW_s rfl ?_
    refine zW_r rfl (by decide) ?_
    exact h
  · rw [if_neg c101] at h
    refine zW_s rfl ?_
    have hp102 := h.1; replace h := h.2
    refine zW_p rfl hp102 ?_
    refine zW_s rfl ?_
    refine zW_s rfl ?_
    refine zW_p rfl hp102 ?_
    refine zW_s rfl ?_
    have hp103 := h.1; replace h := h.2
    have hp104 := h.1; replace h := h.2
    refine zW_p rfl ⟨hp103, hp104⟩ ?_
    refine zW_s rfl ?_
    refine zW_s rfl ?_
    have hp105 := h.1; replace h := h.2
    have hp106 := h.1; replace h := h.2
    refine zW_p rfl ⟨hp105, hp106⟩ ?_
    refine zW_s rfl ?_
    refine zW_s rfl ?_
    exact h
