set_option maxHeartbeats 4000000 in
theorem b21 {d : Nat} {r0 : Nat} {r1 : Nat} {x2 : Int32} {x3 : Int32} {σ : zH} {Q : Option Value → zH → Prop} (h : zW (d + 1) 21 3 [(0, .ref r0), (1, .ref r1), (2, .int x2), (3, .int x3), (4, .int (nI 0))] [] σ Q) : zM (d + 1) 21 [.ref r0, .ref r1, .int x2, .int x3] σ Q := by
  unfold zM
  refine zW_s rfl ?_
  refine zW_s rfl ?_
  exact h
set_option maxHeartbeats 4000000 in
theorem b21_3 {d : Nat} {r0 : Nat} {r1 : Nat} {x2 : Int32} {x3 : Int32} {x4 : Int32} {σ : zH} {Q : Option Value → zH → Prop} (h : (if (nI 40) < x4 then Q none σ else (zK σ r0 = 3) ∧ (if (nI 12) < (zI σ r0 2) then Q none σ else zM d 22 [.ref r0, .ref r1, .int x2, .int x3] σ (fun r σ104 => zqv r (zW (d + 1) 21 3 [(0, .ref r0), (1, .ref r1), (2, .int x2), (3, .int x3), (4, .int (x4 + nI 1))] [] σ104 Q))))) : zW (d + 1) 21 3 [(0, .ref r0), (1, .ref r1), (2, .int x2), (3, .int x3), (4, .int x4)] [] σ Q := by
  refine zW_s rfl ?_
  refine zW_s rfl ?_
  refine zW_s rfl ?_
  refine zW_if (fun (c101 : (nI 40) < x4) => ?_) (fun (c101 : ¬ ((nI 40) < x4)) => ?_)
  · rw [if_pos c101] at h
    refine zW_r rfl trivial ?_
    exact h
  · rw [if_neg c101] at h
    refine zW_s rfl ?_
    have hp102 := h.1; replace h := h.2
    refine zW_p rfl hp102 ?_
    refine zW_s rfl ?_
    refine zW_s rfl ?_
    refine zW_if (fun (c103 : (nI 12) < (zI σ r0 2)) => ?_) (fun (c103 : ¬ ((nI 12) < (zI σ r0 2))) => ?_)
    · rw [if_pos c103] at h
      refine zW_r rfl trivial ?_
      exact h
    · rw [if_neg c103] at h
      refine zW_s rfl ?_
      refine zW_s rfl ?_
      refine zW_s rfl ?_
      refine zW_s rfl ?_
      refine zW_c rfl hp102 (zM_m h ?_)
      intro r σ104 h
      replace h := zqv_e h
      obtain ⟨rfl, h⟩ := h
      refine zW_s rfl ?_
      refine zW_s rfl ?_
      exact h
set_option maxHeartbeats 4000000 in
theorem b22 {d : Nat} {r0 : Nat} {r1 : Nat} {x2 : Int32} {x3 : Int32} {σ : zH} {Q : Option Value → zH → Prop} (h : (zK σ r1 = 10) ∧ (if (zI σ r1 2) < (nI 40) then (zK σ (zQ σ r1 0) = 23 ∨ zK σ (zQ σ r1 0) = 24) ∧ (vp_in (zI σ r1 2) (zN σ (zQ σ r1 0))) ∧ (zK σ r0 = 3) ∧ (zK σ (zS σ (zQ σ r1 0) (zI σ r1 2).toNatClampNeg) = 6) ∧ zM d 18 [.ref r0] (zsI (zsI (zsI σ r1 2 ((zI σ r1 2) + (nI 1))) (zS σ (zQ σ r1 0) (zI σ r1 2).toNatClampNeg) 0 (zI (zsI σ r1 2 ((zI σ r1 2) + (nI 1))) r0 2)) (zS σ (zQ σ r1 0) (zI σ r1 2).toNatClampNeg) 4 (nI 0)) (fun r σ107 => zqv r ((zK σ107 r0 = 3) ∧ (zK σ107 (zS σ (zQ σ r1 0) (zI σ r1 2).toNatClampNeg) = 6) ∧ (if ¬ (zI (zsI σ107 r0 3 ((zI σ107 r0 3) + x3)) (zS σ (zQ σ r1 0) (zI σ r1 2).toNatClampNeg) 0) = (nI 11) then (if ¬ (zI (zsI σ107 r0 3 ((zI σ107 r0 3) + x3)) (zS σ (zQ σ r1 0) (zI σ r1 2).toNatClampNeg) 0) = (nI 12) then zM d 25 [.ref r0, .ref (zS σ (zQ σ r1 0) (zI σ r1 2).toNatClampNeg)] (zsI σ107 r0 3 ((zI σ107 r0 3) + x3)) (fun r σ112 => zqv r ((zK σ112 r0 = 3) ∧ (zK σ112 (zS σ (zQ σ r1 0) (zI σ r1 2).toNatClampNeg) = 6) ∧ zM d 54 [.ref (zS σ (zQ σ r1 0) (zI σ r1 2).toNatClampNeg)] σ112 (fun r σ115 => zqi r (fun x116 => (zK σ115 r0 = 3) ∧ (zK σ115 r1 = 10) ∧ (zK σ115 (zS σ (zQ σ r1 0) (zI σ r1 2).toNatClampNeg) = 6) ∧ Q none (zsI (zsI σ115 r0 4 ((zI σ112 r0 4) + (if x116 = 0 then nI 0 else x3))) (zS σ (zQ σ r1 0) (zI σ r1 2).toNatClampNeg) 6 (zI (zsI σ115 r0 4 ((zI σ112 r0 4) + (if x116 = 0 then nI 0 else x3))) r1 2)))))) else zM d 23 [.ref r0, .ref r1, .ref (zS σ (zQ σ r1 0) (zI σ r1 2).toNatClampNeg), .int x2, .int x3] (zsI σ107 r0 3 ((zI σ107 r0 3) + x3)) (fun r σ121 => zqv r ((zK σ121 r1 = 10) ∧ (zK σ121 (zS σ (zQ σ r1 0) (zI σ r1 2).toNatClampNeg) = 6) ∧ Q none (zsI σ121 (zS σ (zQ σ r1 0) (zI σ r1 2).toNatClampNeg) 6 (zI σ121 r1 2))))) else zM d 31 [.ref r0, .int (nI 2), .int (nI 9)] (zsI σ107 r0 3 ((zI σ107 r0 3) + x3)) (fun r σ124 => zqi r (fun x125 => (zK σ124 (zS σ (zQ σ r1 0) (zI σ r1 2).toNatClampNeg) = 6) ∧ (zK σ124 r0 = 3) ∧ zM d 24 [.ref r0, .ref r1, .int x2, .int (x3 * (zI (zsI σ124 (zS σ (zQ σ r1 0) (zI σ r1 2).toNatClampNeg) 4 x125) (zS σ (zQ σ r1 0) (zI σ r1 2).toNatClampNeg) 4))] (zsI σ124 (zS σ (zQ σ r1 0) (zI σ r1 2).toNatClampNeg) 4 x125) (fun r σ128 => zqv r ((zK σ128 r1 = 10) ∧ (zK σ128 (zS σ (zQ σ r1 0) (zI σ r1 2).toNatClampNeg) = 6) ∧ Q none (zsI (zsI σ128 (zS σ (zQ σ r1 0) (zI σ r1 2).toNatClampNeg) 5 (zI σ128 r1 2)) (zS σ (zQ σ r1 0) (zI σ r1 2).toNatClampNeg) 6 (zI (zsI σ128 (zS σ (zQ σ r1 0) (zI σ r1 2).toNatClampNeg) 5 (zI σ128 r1 2)) r1 2))))))))) else (zK σ r0 = 3) ∧ zM d 19 [.ref r0, .int (nI 4)] σ (fun r σ132 => zqv r (Q none σ132)))) : zM (d + 1) 22 [.ref r0, .ref r1, .int x2, .int x3] σ Q := by
  unfold zM
  refine zW_s rfl ?_
  have hp101 := h.1; replace h := h.2
  refine zW_p rfl hp101 ?_
  refine zW_s rfl ?_
  refine zW_s rfl ?_
  refine zW_if (fun (c102 : (zI σ r1 2) < (nI 40)) => ?_) (fun (c102 : ¬ ((zI σ r1 2) < (nI 40))) => ?_)
  · rw [if_pos c102] at h
    refine zW_s rfl ?_
    refine zW_p rfl hp101 ?_
    refine zW_s rfl ?_
    refine zW_p rfl hp101 ?_
    have hp103 := h.1; replace h := h.2
    have hp104 := h.1; replace h := h.2
    refine zW_p rfl ⟨hp103, hp104⟩ ?_
    refine zW_s rfl ?_
    refine zW_s rfl ?_
    refine zW_s rfl ?_
    refine zW_p rfl hp101 ?_
    refine zW_s rfl ?_
    refine zW_s rfl ?_
    refine zW_p rfl hp101 ?_
    refine zW_s rfl ?_
    refine zW_s rfl ?_
    have hp105 := h.1; replace h := h.2
    refine zW_p rfl hp105 ?_
    have hp106 := h.1; replace h := h.2
    refine zW_p rfl hp106 ?_
    refine zW_s rfl ?_
    refine zW_s rfl ?_
    refine zW_p rfl hp106 ?_
    refine zW_s rfl ?_
    refine zW_c rfl hp105 (zM_m h ?_)
    intro r σ107 h
    replace h := zqv_e h
    obtain ⟨rfl, h⟩ := h
    refine zW_s rfl ?_
    refine zW_s rfl ?_
    have hp108 := h.1; replace h := h.2
    refine zW_p rfl hp108 ?_
    refine zW_s rfl ?_
    refine zW_s rfl ?_
    refine zW_p rfl hp108 ?_
    refine zW_s rfl ?_
    have hp109 := h.1; replace h := h.2
    refine zW_p rfl hp109 ?_
    refine zW_s rfl ?_
    refine zW_s rfl ?_
    refine zW_if (fun (c110 : ¬ (zI (zsI σ107 r0 3 ((zI σ107 r0 3) + x3)) (zS σ (zQ σ r1 0) (zI σ r1 2).toNatClampNeg) 0) = (nI 11)) => ?_) (fun (c110 : ¬ (¬ (zI (zsI σ107 r0 3 ((zI σ107 r0 3) + x3)) (zS σ (zQ σ r1 0) (zI σ r1 2).toNatClampNeg) 0) = (nI 11))) => ?_)
    · rw [if_pos c110] at h
      refine zW_s rfl ?_
      refine zW_p rfl hp109 ?_
      refine zW_s rfl ?_
      refine zW_s rfl ?_
      refine zW_if (fun (c111 : ¬ (zI (zsI σ107 r0 3 ((zI σ107 r0 3) + x3)) (zS σ (zQ σ r1 0) (zI σ r1 2).toNatClampNeg) 0) = (nI 12)) => ?_) (fun (c111 : ¬ (¬ (zI (zsI σ107 r0 3 ((zI σ107 r0 3) + x3)) (zS σ (zQ σ r1 0) (zI σ r1 2).toNatClampNeg) 0) = (nI 12))) => ?_)
      · rw [if_pos c111] at h
        refine zW_s rfl ?_
        refine zW_s rfl ?_
        refine zW_c rfl hp108 (zM_m h ?_)
        intro r σ112 h
        replace h := zqv_e h
        obtain ⟨rfl, h⟩ := h
        refine zW_s rfl ?_
        refine zW_s rfl ?_
        have hp113 := h.1; replace h := h.2
        refine zW_p rfl hp113 ?_
        refine zW_s rfl ?_
        have hp114 := h.1; replace h := h.2
        refine zW_c rfl hp114 (zM_m h ?_)
        intro r σ115 h
        replace h := zqi_e h
        obtain ⟨x116, rfl, h⟩ := h
        refine zW_s rfl ?_
        have k : ∀ v : Int32, v = (if x116 = 0 then nI 0 else x3) → zW (d + 1) 22 158 [(0, .ref r0), (1, .ref r1), (2, .int x2), (3, .int x3), (4, .ref (zS σ (zQ σ r1 0) (zI σ r1 2).toNatClampNeg))] [.int v, .int (zI σ112 r0 4), .ref r0] σ115 Q := by
          intro v hv
          subst hv
          refine zW_s rfl ?_
          have hp118 := h.1; replace h := h.2
          refine zW_p rfl hp118 ?_
          refine zW_s rfl ?_
          refine zW_s rfl ?_
          have hp119 := h.1; replace h := h.2
          refine zW_p rfl hp119 ?_
          have hp120 := h.1; replace h := h.2
          refine zW_p rfl hp120 ?_
          refine zW_r rfl trivial ?_
          exact h
        refine zW_if (fun (c117 : x116 = 0) => ?_) (fun (c117 : ¬ (x116 = 0)) => ?_)
        · replace k := k _ (if_pos c117).symm
          refine zW_s rfl ?_
          exact k
        · replace k := k _ (if_neg c117).symm
          refine zW_s rfl ?_
          refine zW_s rfl ?_
          exact k
      · rw [if_neg c111] at h
        refine zW_s rfl ?_
        refine zW_s rfl ?_
        refine zW_s rfl ?_
        refine zW_s rfl ?_
        refine zW_s rfl ?_
        refine zW_c rfl hp108 (zM_m h ?_)
        intro r σ121 h
        replace h := zqv_e h
        obtain ⟨rfl, h⟩ := h
        refine zW_s rfl ?_
        refine zW_s rfl ?_
        refine zW_s rfl ?_
        have hp122 := h.1; replace h := h.2
        refine zW_p rfl hp122 ?_
        have hp123 := h.1; replace h := h.2
        refine zW_p rfl hp123 ?_
        refine zW_r rfl trivial ?_
        exact h
    · rw [if_neg c110] at h
      refine zW_s rfl ?_
      refine zW_s rfl ?_
      refine zW_s rfl ?_
      refine zW_s rfl ?_
      refine zW_c rfl hp108 (zM_m h ?_)
      intro r σ124 h
      replace h := zqi_e h
      obtain ⟨x125, rfl, h⟩ := h
      have hp126 := h.1; replace h := h.2
      refine zW_p rfl hp126 ?_
      refine zW_s rfl ?_
      refine zW_s rfl ?_
      refine zW_s rfl ?_
      refine zW_s rfl ?_
      refine zW_s rfl ?_
      refine zW_p rfl hp126 ?_
      refine zW_s rfl ?_
      have hp127 := h.1; replace h := h.2
      refine zW_c rfl hp127 (zM_m h ?_)
      intro r σ128 h
      replace h := zqv_e h
      obtain ⟨rfl, h⟩ := h
      refine zW_s rfl ?_
      refine zW_s rfl ?_
      have hp129 := h.1; replace h := h.2
      refine zW_p rfl hp129 ?_
      have hp130 := h.1; replace h := h.2
      refine zW_p rfl hp130 ?_
      refine zW_s rfl ?_
      refine zW_s rfl ?_
      refine zW_s rfl ?_
      refine zW_p rfl hp129 ?_
      refine zW_p rfl hp130 ?_
      refine zW_r rfl trivial ?_
      exact h
  · rw [if_neg c102] at h
    refine zW_s rfl ?_
    refine zW_s rfl ?_
    have hp131 := h.1; replace h := h.2
    refine zW_c rfl hp131 (zM_m h ?_)
    intro r σ132 h
    replace h := zqv_e h
    obtain ⟨rfl, h⟩ := h
    refine zW_r rfl trivial ?_
    exact h
set_option maxHeartbeats 4000000 in
theorem b23 {d : Nat} {r0 : Nat} {r1 : Nat} {r2 : Nat} {x3 : Int32} {x4 : Int32} {σ : zH} {Q : Option Value → zH → Prop} (h : (zK σ r1 = 10) ∧ (zK σ (zQ σ r1 1) = 1) ∧ (zK σ r2 = 6) ∧ (zK σ r0 = 3) ∧ zM d 32 [.ref r0, .ref (zQ σ r1 1), .int (nI 0)] (zsI σ r2 7 (zI σ (zQ σ r1 1) 3)) (fun r σ105 => zqv r ((zK σ105 r1 = 10) ∧ (zK σ105 (zQ σ105 r1 1) = 1) ∧ (zK σ105 r2 = 6) ∧ (zK σ105 r0 = 3) ∧ zM d 24 [.ref r0, .ref r1, .int x3, .int x4] (zsI σ105 r2 8 (zI σ105 (zQ σ105 r1 1) 3)) (fun r σ110 => zqv r ((zK σ110 r1 = 10) ∧ (zK σ110 r2 = 6) ∧ (zK σ110 r0 = 3) ∧ (if ¬ (zI (zsI σ110 r2 5 (zI σ110 r1 2)) r0 2) = (nI 13) then Q none (zsI σ110 r2 5 (zI σ110 r1 2)) else zM d 18 [.ref r0] (zsI σ110 r2 5 (zI σ110 r1 2)) (fun r σ115 => zqv r ((zK σ115 r0 = 3) ∧ zM d 24 [.ref r0, .ref r1, .int x3, .int x4] σ115 (fun r σ117 => zqv r (Q none σ117)))))))))) : zM (d + 1) 23 [.ref r0, .ref r1, .ref r2, .int x3, .int x4] σ Q := by
  unfold zM
  refine zW_s rfl ?_
  refine zW_s rfl ?_
  have hp101 := h.1; replace h := h.2
  refine zW_p rfl hp101 ?_
  have hp102 := h.1; replace h := h.2
  refine zW_p rfl hp102 ?_
  have hp103 := h.1; replace h := h.2
  refine zW_p rfl hp103 ?_
  refine zW_s rfl ?_
  refine zW_s rfl ?_
  refine zW_p rfl hp101 ?_
  refine zW_s rfl ?_
  have hp104 := h.1; replace h := h.2
  refine zW_c rfl hp104 (zM_m h ?_)
  intro r σ105 h
  replace h := zqv_e h
  obtain ⟨rfl, h⟩ := h
  refine zW_s rfl ?_
  refine zW_s rfl ?_
  have hp106 := h.1; replace h := h.2
  refine zW_p rfl hp106 ?_
  have hp107 := h.1; replace h := h.2
  refine zW_p rfl hp107 ?_
  have hp108 := h.1; replace h := h.2
  refine zW_p rfl hp108 ?_
  refine zW_s rfl ?_
  refine zW_s rfl ?_
  refine zW_s rfl ?_
  refine zW_s rfl ?_
  have hp109 := h.1; replace h := h.2
  refine zW_c rfl hp109 (zM_m h ?_)
  intro r σ110 h
  replace h := zqv_e h
  obtain ⟨rfl, h⟩ := h
  refine zW_s rfl ?_
  refine zW_s rfl ?_
  have hp111 := h.1; replace h := h.2
  refine zW_p rfl hp111 ?_
  have hp112 := h.1; replace h := h.2
  refine zW_p rfl hp112 ?_
  refine zW_s rfl ?_
  have hp113 := h.1; replace h := h.2
  refine zW_p rfl hp113 ?_
  refine zW_s rfl ?_
  refine zW_s rfl ?_
  refine zW_if (fun (c114 : ¬ (zI (zsI σ110 r2 5 (zI σ110 r1 2)) r0 2) = (nI 13)) => ?_) (fun (c114 : ¬ (¬ (zI (zsI σ110 r2 5 (zI σ110 r1 2)) r0 2) = (nI 13))) => ?_)
  · rw [if_pos c114] at h
    refine zW_r rfl trivial ?_
    exact h
  · rw [if_neg c114] at h
    refine zW_s rfl ?_
    refine zW_c rfl hp113 (zM_m h ?_)
    intro r σ115 h
    replace h := zqv_e h
    obtain ⟨rfl, h⟩ := h
    refine zW_s rfl ?_
    refine zW_s rfl ?_
    refine zW_s rfl ?_
    refine zW_s rfl ?_
    have hp116 := h.1; replace h := h.2
    refine zW_c rfl hp116 (zM_m h ?_)
    intro r σ117 h
    replace h := zqv_e h
    obtain ⟨rfl, h⟩ := h
    refine zW_r rfl trivial ?_
    exact h
set_option maxHeartbeats 4000000 in
theorem b24 {d : Nat} {r0 : Nat} {r1 : Nat} {x2 : Int32} {x3 : Int32} {σ : zH} {Q : Option Value → zH → Prop} (h : (zK σ r0 = 3) ∧ (if ¬ (zI σ r0 2) = (nI 37) then zW (d + 1) 24 20 [(0, .ref r0), (1, .ref r1), (2, .int x2), (3, .int x3)] [] σ Q else (if x2 < (nI 4) then zW (d + 1) 24 20 [(0, .ref r0), (1, .ref r1), (2, .int x2), (3, .int x3)] [] σ Q else zM d 19 [.ref r0, .int (nI 4)] σ (fun r σ104 => zqv r (Q none σ104))))) : zM (d + 1) 24 [.ref r0, .ref r1, .int x2, .int x3] σ Q := by
  unfold zM
  refine zW_s rfl ?_
  have hp101 := h.1; replace h := h.2
  refine zW_p rfl hp101 ?_
  refine zW_s rfl ?_
  refine zW_s rfl ?_
  refine zW_if (fun (c102 : ¬ (zI σ r0 2) = (nI 37)) => ?_) (fun (c102 : ¬ (¬ (zI σ r0 2) = (nI 37))) => ?_)
  · rw [if_pos c102] at h
    exact h
  · rw [if_neg c102] at h
    refine zW_s rfl ?_
    refine zW_s rfl ?_
    refine zW_s rfl ?_
    refine zW_if (fun (c103 : x2 < (nI 4)) => ?_) (fun (c103 : ¬ (x2 < (nI 4))) => ?_)
    · rw [if_pos c103] at h
      exact h
    · rw [if_neg c103] at h
      refine zW_s rfl ?_
      refine zW_s rfl ?_
      refine zW_c rfl hp101 (zM_m h ?_)
      intro r σ104 h
      replace h := zqv_e h
      obtain ⟨rfl, h⟩ := h
      refine zW_r rfl trivial ?_
      exact h
set_option maxHeartbeats 4000000 in
theorem b24_20 {d : Nat} {r0 : Nat} {r1 : Nat} {x2 : Int32} {x3 : Int32} {σ : zH} {Q : Option Value → zH → Prop} (h : (zK σ r0 = 3) ∧ zM d 20 [.ref r0, .int (nI 37)] σ (fun r σ102 => zqv r ((zK σ102 r0 = 3) ∧ zM d 21 [.ref r0, .ref r1, .int (x2 + (nI 1)), .int x3] σ102 (fun r σ104 => zqv r ((zK σ104 r0 = 3) ∧ zM d 20 [.ref r0, .int (nI 38)] σ104 (fun r σ106 => zqv r (Q none σ106))))))) : zW (d + 1) 24 20 [(0, .ref r0), (1, .ref r1), (2, .int x2), (3, .int x3)] [] σ Q := by
  refine zW_s rfl ?_
  refine zW_s rfl ?_
  have hp101 := h.1; replace h := h.2
  refine zW_c rfl hp101 (zM_m h ?_)
  intro r σ102 h
  replace h := zqv_e h
  obtain ⟨rfl, h⟩ := h
  refine zW_s rfl ?_
  refine zW_s rfl ?_
  refine zW_s rfl ?_
  refine zW_s rfl ?_
  refine zW_s rfl ?_
  refine zW_s rfl ?_
  have hp103 := h.1; replace h := h.2
  refine zW_c rfl hp103 (zM_m h ?_)
  intro r σ104 h
  replace h := zqv_e h
  obtain ⟨rfl, h⟩ := h
  refine zW_s rfl ?_
  refine zW_s rfl ?_
  have hp105 := h.1; replace h := h.2
  refine zW_c rfl hp105 (zM_m h ?_)
  intro r σ106 h
  replace h := zqv_e h
  obtain ⟨rfl, h⟩ := h
  refine zW_r rfl trivial ?_
  exact h
set_option maxHeartbeats 4000000 in
theorem b25 {d : Nat} {r0 : Nat} {r1 : Nat} {σ : zH} {Q : Option Value → zH → Prop} (h : (zK σ r0 = 3) ∧ zM d 26 [.ref r0, .int (-1)] σ (fun r σ102 => zqi r (fun x103 => (zK σ102 r1 = 6) ∧ (if (zI (zsI σ102 r1 1 x103) r1 0) = nI 0 then (zK σ102 r0 = 3) ∧ zM d 28 [.ref r0] (zsI σ102 r1 1 x103) (fun r σ107 => zqi r (fun x108 => (zK σ107 r1 = 6) ∧ (zK σ107 r0 = 3) ∧ zM d 20 [.ref r0, .int (nI 41)] (zsI σ107 r1 4 x108) (fun r σ111 => zqv r (Q none σ111)))) else (if (zI (zsI σ102 r1 1 x103) r1 0) = nI 1 then (zK σ102 r0 = 3) ∧ zM d 28 [.ref r0] (zsI σ102 r1 1 x103) (fun r σ114 => zqi r (fun x115 => (zK σ114 r1 = 6) ∧ (zK σ114 r0 = 3) ∧ zM d 27 [.ref r0, .int (zI (zsI σ114 r1 4 x115) r1 1)] (zsI σ114 r1 4 x115) (fun r σ118 => zqi r (fun x119 => (zK σ118 r1 = 6) ∧ (zK σ118 r0 = 3) ∧ zM d 20 [.ref r0, .int (nI 41)] (zsI σ118 r1 3 x119) (fun r σ122 => zqv r (Q none σ122)))))) else (if (zI (zsI σ102 r1 1 x103) r1 0) = nI 2 then (zK σ102 r0 = 3) ∧ zM d 28 [.ref r0] (zsI σ102 r1 1 x103) (fun r σ125 => zqi r (fun x126 => (zK σ125 r1 = 6) ∧ (zK σ125 r0 = 3) ∧ zM d 27 [.ref r0, .int (zI (zsI σ125 r1 4 x126) r1 1)] (zsI σ125 r1 4 x126) (fun r σ129 => zqi r (fun x130 => (zK σ129 r1 = 6) ∧ (zK σ129 r0 = 3) ∧ zM d 20 [.ref r0, .int (nI 41)] (zsI σ129 r1 3 x130) (fun r σ133 => zqv r (Q none σ133)))))) else (if (zI (zsI σ102 r1 1 x103) r1 0) = nI 3 then (zK σ102 r0 = 3) ∧ zM d 29 [.ref r0] (zsI σ102 r1 1 x103) (fun r σ136 => zqi r (fun x137 => (zK σ136 r1 = 6) ∧ (zK σ136 r0 = 3) ∧ zM d 27 [.ref r0, .int (zI (zsI σ136 r1 4 x137) r1 1)] (zsI σ136 r1 4 x137) (fun r σ140 => zqi r (fun x141 => (zK σ140 r1 = 6) ∧ (zK σ140 r0 = 3) ∧ zM d 20 [.ref r0, .int (nI 41)] (zsI σ140 r1 3 x141) (fun r σ144 => zqv r (Q none σ144)))))) else (if (zI (zsI σ102 r1 1 x103) r1 0) = nI 4 then (zK σ102 r0 = 3) ∧ zM d 28 [.ref r0] (zsI σ102 r1 1 x103) (fun r σ147 => zqi r (fun x148 => (zK σ147 r1 = 6) ∧ (zK σ147 r0 = 3) ∧ zM d 20 [.ref r0, .int (nI 41)] (zsI σ147 r1 4 x148) (fun r σ151 => zqv r (Q none σ151)))) else (if (zI (zsI σ102 r1 1 x103) r1 0) = nI 5 then (zK σ102 r0 = 3) ∧ zM d 29 [.ref r0] (zsI σ102 r1 1 x103) (fun r σ154 => zqi r (fun x155 => (zK σ154 r1 = 6) ∧ (zK σ154 r0 = 3) ∧ zM d 20 [.ref r0, .int (nI 41)] (zsI σ154 r1 4 x155) (fun r σ158 => zqv r (Q none σ158)))) else (if (zI (zsI σ102 r1 1 x103) r1 0) = nI 6 then (zK σ102 r0 = 3) ∧ zM d 26 [.ref r0, .int (zI (zsI σ102 r1 1 x103) r1 1)] (zsI σ102 r1 1 x103) (fun r σ161 => zqi r (fun x162 => (zK σ161 r1 = 6) ∧ (zK σ161 r0 = 3) ∧ zM d 27 [.ref r0, .int (-1)] (zsI σ161 r1 2 x162) (fun r σ165 => zqi r (fun x166 => (zK σ165 r1 = 6) ∧ (zK σ165 r0 = 3) ∧ zM d 20 [.ref r0, .int (nI 41)] (zsI σ165 r1 3 x166) (fun r σ169 => zqv r (Q none σ169)))))) else (if (zI (zsI σ102 r1 1 x103) r1 0) = nI 7 then (zK σ102 r0 = 3) ∧ zM d 26 [.ref r0, .int (zI (zsI σ102 r1 1 x103) r1 1)] (zsI σ102 r1 1 x103) (fun r σ172 => zqi r (fun x173 => (zK σ172 r1 = 6) ∧ (zK σ172 r0 = 3) ∧ zM d 27 [.ref r0, .int (-1)] (zsI σ172 r1 2 x173) (fun r σ176 => zqi r (fun x177 => (zK σ176 r1 = 6) ∧ (zK σ176 r0 = 3) ∧ zM d 20 [.ref r0, .int (nI 41)] (zsI σ176 r1 3 x177) (fun r σ180 => zqv r (Q none σ180)))))) else (if (zI (zsI σ102 r1 1 x103) r1 0) = nI 8 then (zK σ102 r0 = 3) ∧ zM d 27 [.ref r0, .int (zI (zsI σ102 r1 1 x103) r1 1)] (zsI σ102 r1 1 x103) (fun r σ183 => zqi r (fun x184 => (zK σ183 r1 = 6) ∧ (zK σ183 r0 = 3) ∧ zM d 20 [.ref r0, .int (nI 41)] (zsI σ183 r1 3 x184) (fun r σ187 => zqv r (Q none σ187)))) else (if (zI (zsI σ102 r1 1 x103) r1 0) = nI 9 then (zK σ102 r0 = 3) ∧ zM d 26 [.ref r0, .int (zI (zsI σ102 r1 1 x103) r1 1)] (zsI σ102 r1 1 x103) (fun r σ190 => zqi r (fun x191 => (zK σ190 r1 = 6) ∧ (zK σ190 r0 = 3) ∧ zM d 20 [.ref r0, .int (nI 41)] (zsI σ190 r1 2 x191) (fun r σ194 => zqv r (Q none σ194)))) else (if (zI (zsI σ102 r1 1 x103) r1 0) = nI 10 then (zK σ102 r0 = 3) ∧ zM d 29 [.ref r0] (zsI σ102 r1 1 x103) (fun r σ197 => zqi r (fun x198 => (zK σ197 r1 = 6) ∧ (zK σ197 r0 = 3) ∧ zM d 20 [.ref r0, .int (nI 41)] (zsI σ197 r1 4 x198) (fun r σ201 => zqv r (Q none σ201)))) else (zK σ102 r0 = 3) ∧ zM d 26 [.ref r0, .int (zI (zsI σ102 r1 1 x103) r1 1)] (zsI σ102 r1 1 x103) (fun r σ203 => zqi r (fun x204 => (zK σ203 r1 = 6) ∧ (zK σ203 r0 = 3) ∧ zM d 27 [.ref r0, .int (-1)] (zsI σ203 r1 2 x204) (fun r σ207 => zqi r (fun x208 => (zK σ207 r1 = 6) ∧ (zK σ207 r0 = 3) ∧ zM d 20 [.ref r0, .int (nI 41)] (zsI σ207 r1 3 x208) (fun r σ211 => zqv r (Q none σ211)))))))))))))))))))) : zM (d + 1) 25 [.ref r0, .ref r1] σ Q := by
  unfold zM
  refine zW_s rfl ?_
  refine zW_s rfl ?_
  refine zW_s rfl ?_
  have hp101 := h.1; replace h := h.2
  refine zW_c rfl hp101 (zM_m h ?_)
  intro r σ102 h
  replace h := zqi_e h
  obtain ⟨x103, rfl, h⟩ := h
  have hp104 := h.1; replace h := h.2
  refine zW_p rfl hp104 ?_
  refine zW_s rfl ?_
  refine zW_p rfl hp104 ?_
  refine zW_s rfl ?_
  refine zW_sw (fun (c105 : (zI (zsI σ102 r1 1 x103) r1 0) = nI 0) => ?_) (fun (c105 : ¬ ((zI (zsI σ102 r1 1 x103) r1 0) = nI 0)) => ?_)
  · rw [if_pos c105] at h
    refine zW_s rfl ?_
    refine zW_s rfl ?_
    have hp106 := h.1; replace h := h.2
    refine zW_c rfl hp106 (zM_m h ?_)
    intro r σ107 h
    replace h := zqi_e h
    obtain ⟨x108, rfl, h⟩ := h
    have hp109 := h.1; replace h := h.2
    refine zW_p rfl hp109 ?_
    refine zW_s rfl ?_
    refine zW_s rfl ?_
    refine zW_s rfl ?_
    have hp110 := h.1; replace h := h.2
    refine zW_c rfl hp110 (zM_m h ?_)
    intro r σ111 h
    replace h := zqv_e h
    obtain ⟨rfl, h⟩ := h
    refine zW_r rfl trivial ?_
    exact h
  · rw [if_neg c105] at h
    refine zW_sw (fun (c112 : (zI (zsI σ102 r1 1 x103) r1 0) = nI 1) => ?_) (fun (c112 : ¬ ((zI (zsI σ102 r1 1 x103) r1 0) = nI 1)) => ?_)
    · rw [if_pos c112] at h
      refine zW_s rfl ?_
      refine zW_s rfl ?_
      have hp113 := h.1; replace h := h.2
      refine zW_c rfl hp113 (zM_m h ?_)
      intro r σ114 h
      replace h := zqi_e h
      obtain ⟨x115, rfl, h⟩ := h
      have hp116 := h.1; replace h := h.2
      refine zW_p rfl hp116 ?_
      refine zW_s rfl ?_
      refine zW_s rfl ?_
      refine zW_s rfl ?_
      refine zW_p rfl hp116 ?_
      have hp117 := h.1; replace h := h.2
      refine zW_c rfl hp117 (zM_m h ?_)
      intro r σ118 h
      replace h := zqi_e h
      obtain ⟨x119, rfl, h⟩ := h
      have hp120 := h.1; replace h := h.2
      refine zW_p rfl hp120 ?_
      refine zW_s rfl ?_
      refine zW_s rfl ?_
      refine zW_s rfl ?_
      have hp121 := h.1; replace h := h.2
      refine zW_c rfl hp121 (zM_m h ?_)
      intro r σ122 h
      replace h := zqv_e h
      obtain ⟨rfl, h⟩ := h
      refine zW_r rfl trivial ?_
      exact h
    · rw [if_neg c112] at h
      refine zW_sw (fun (c123 : (zI (zsI σ102 r1 1 x103) r1 0) = nI 2) => ?_) (fun (c123 : ¬ ((zI (zsI σ102 r1 1 x103) r1 0) = nI 2)) => ?_)
      · rw [if_pos c123] at h
        refine zW_s rfl ?_
        refine zW_s rfl ?_
        have hp124 := h.1; replace h := h.2
        refine zW_c rfl hp124 (zM_m h ?_)
        intro r σ125 h
        replace h := zqi_e h
        obtain ⟨x126, rfl, h⟩ := h
        have hp127 := h.1; replace h := h.2
        refine zW_p rfl hp127 ?_
        refine zW_s rfl ?_
        refine zW_s rfl ?_
        refine zW_s rfl ?_
        refine zW_p rfl hp127 ?_
        have hp128 := h.1; replace h := h.2
        refine zW_c rfl hp128 (zM_m h ?_)
        intro r σ129 h
        replace h := zqi_e h
        obtain ⟨x130, rfl, h⟩ := h
        have hp131 := h.1; replace h := h.2
        refine zW_p rfl hp131 ?_
        refine zW_s rfl ?_
        refine zW_s rfl ?_
        refine zW_s rfl ?_
        have hp132 := h.1; replace h := h.2
        refine zW_c rfl hp132 (zM_m h ?_)
        intro r σ133 h
        replace h := zqv_e h
        obtain ⟨rfl, h⟩ := h
        refine zW_r rfl trivial ?_
        exact h
      · rw [if_neg c123] at h
        refine zW_sw (fun (c134 : (zI (zsI σ102 r1 1 x103) r1 0) = nI 3) => ?_) (fun (c134 : ¬ ((zI (zsI σ102 r1 1 x103) r1 0) = nI 3)) => ?_)
        · rw [if_pos c134] at h
          refine zW_s rfl ?_
          refine zW_s rfl ?_
          have hp135 := h.1; replace h := h.2
          refine zW_c rfl hp135 (zM_m h ?_)
          intro r σ136 h
          replace h := zqi_e h
          obtain ⟨x137, rfl, h⟩ := h
          have hp138 := h.1; replace h := h.2
          refine zW_p rfl hp138 ?_
          refine zW_s rfl ?_
          refine zW_s rfl ?_
          refine zW_s rfl ?_
          refine zW_p rfl hp138 ?_
          have hp139 := h.1; replace h := h.2
          refine zW_c rfl hp139 (zM_m h ?_)
          intro r σ140 h
          replace h := zqi_e h
          obtain ⟨x141, rfl, h⟩ := h
          have hp142 := h.1; replace h := h.2
          refine zW_p rfl hp142 ?_
          refine zW_s rfl ?_
          refine zW_s rfl ?_
          refine zW_s rfl ?_
          have hp143 := h.1; replace h := h.2
          refine zW_c rfl hp143 (zM_m h ?_)
          intro r σ144 h
          replace h := zqv_e h
          obtain ⟨rfl, h⟩ := h
          refine zW_r rfl trivial ?_
          exact h
        · rw [if_neg c134] at h
          refine zW_sw (fun (c145 : (zI (zsI σ102 r1 1 x103) r1 0) = nI 4) => ?_) (fun (c145 : ¬ ((zI (zsI σ102 r1 1 x103) r1 0) = nI 4)) => ?_)
          · rw [if_pos c145] at h
            refine zW_s rfl ?_
            refine zW_s rfl ?_
            have hp146 := h.1; replace h := h.2
            refine zW_c rfl hp146 (zM_m h ?_)
            intro r σ147 h
            replace h := zqi_e h
            obtain ⟨x148, rfl, h⟩ := h
            have hp149 := h.1; replace h := h.2
            refine zW_p rfl hp149 ?_
            refine zW_s rfl ?_
            refine zW_s rfl ?_
            refine zW_s rfl ?_
            have hp150 := h.1; replace h := h.2
            refine zW_c rfl hp150 (zM_m h ?_)
            intro r σ151 h
            replace h := zqv_e h
            obtain ⟨rfl, h⟩ := h
            refine zW_r rfl trivial ?_
            exact h
          · rw [if_neg c145] at h
            refine zW_sw (fun (c152 : (zI (zsI σ102 r1 1 x103) r1 0) = nI 5) => ?_) (fun (c152 : ¬ ((zI (zsI σ102 r1 1 x103) r1 0) = nI 5)) => ?_)
            · rw [if_pos c152] at h
              refine zW_s rfl ?_
              refine zW_s rfl ?_
              have hp153 := h.1; replace h := h.2
              refine zW_c rfl hp153 (zM_m h ?_)
              intro r σ154 h
              replace h := zqi_e h
              obtain ⟨x155, rfl, h⟩ := h
              have hp156 := h.1; replace h := h.2
              refine zW_p rfl hp156 ?_
              refine zW_s rfl ?_
              refine zW_s rfl ?_
              refine zW_s rfl ?_
              have hp157 := h.1; replace h := h.2
              refine zW_c rfl hp157 (zM_m h ?_)
              intro r σ158 h
              replace h := zqv_e h
              obtain ⟨rfl, h⟩ := h
              refine zW_r rfl trivial ?_
              exact h
            · rw [if_neg c152] at h
              refine zW_sw (fun (c159 : (zI (zsI σ102 r1 1 x103) r1 0) = nI 6) => ?_) (fun (c159 : ¬ ((zI (zsI σ102 r1 1 x103) r1 0) = nI 6)) => ?_)
              · rw [if_pos c159] at h
                refine zW_s rfl ?_
                refine zW_s rfl ?_
                refine zW_s rfl ?_
                refine zW_p rfl hp104 ?_
                have hp160 := h.1; replace h := h.2
                refine zW_c rfl hp160 (zM_m h ?_)
                intro r σ161 h
                replace h := zqi_e h
                obtain ⟨x162, rfl, h⟩ := h
                have hp163 := h.1; replace h := h.2
                refine zW_p rfl hp163 ?_
                refine zW_s rfl ?_
                refine zW_s rfl ?_
                refine zW_s rfl ?_
                have hp164 := h.1; replace h := h.2
                refine zW_c rfl hp164 (zM_m h ?_)
                intro r σ165 h
                replace h := zqi_e h
                obtain ⟨x166, rfl, h⟩ := h
                have hp167 := h.1; replace h := h.2
                refine zW_p rfl hp167 ?_
                refine zW_s rfl ?_
                refine zW_s rfl ?_
                have hp168 := h.1; replace h := h.2
                refine zW_c rfl hp168 (zM_m h ?_)
                intro r σ169 h
                replace h := zqv_e h
                obtain ⟨rfl, h⟩ := h
                refine zW_r rfl trivial ?_
                exact h
              · rw [if_neg c159] at h
                refine zW_sw (fun (c170 : (zI (zsI σ102 r1 1 x103) r1 0) = nI 7) => ?_) (fun (c170 : ¬ ((zI (zsI σ102 r1 1 x103) r1 0) = nI 7)) => ?_)
                · rw [if_pos c170] at h
                  refine zW_s rfl ?_
                  refine zW_s rfl ?_
                  refine zW_s rfl ?_
                  refine zW_p rfl hp104 ?_
                  have hp171 := h.1; replace h := h.2
                  refine zW_c rfl hp171 (zM_m h ?_)
                  intro r σ172 h
                  replace h := zqi_e h
                  obtain ⟨x173, rfl, h⟩ := h
                  have hp174 := h.1; replace h := h.2
                  refine zW_p rfl hp174 ?_
                  refine zW_s rfl ?_
                  refine zW_s rfl ?_
                  refine zW_s rfl ?_
                  have hp175 := h.1; replace h := h.2
                  refine zW_c rfl hp175 (zM_m h ?_)
                  intro r σ176 h
                  replace h := zqi_e h
                  obtain ⟨x177, rfl, h⟩ := h
                  have hp178 := h.1; replace h := h.2
                  refine zW_p rfl hp178 ?_
                  refine zW_s rfl ?_
                  refine zW_s rfl ?_
                  have hp179 := h.1; replace h := h.2
                  refine zW_c rfl hp179 (zM_m h ?_)
                  intro r σ180 h
                  replace h := zqv_e h
                  obtain ⟨rfl, h⟩ := h
                  refine zW_r rfl trivial ?_
                  exact h
                · rw [if_neg c170] at h
                  refine zW_sw (fun (c181 : (zI (zsI σ102 r1 1 x103) r1 0) = nI 8) => ?_) (fun (c181 : ¬ ((zI (zsI σ102 r1 1 x103) r1 0) = nI 8)) => ?_)
                  · rw [if_pos c181] at h
                    refine zW_s rfl ?_
                    refine zW_s rfl ?_
                    refine zW_s rfl ?_
                    refine zW_p rfl hp104 ?_
                    have hp182 := h.1; replace h := h.2
                    refine zW_c rfl hp182 (zM_m h ?_)
                    intro r σ183 h
                    replace h := zqi_e h
                    obtain ⟨x184, rfl, h⟩ := h
                    have hp185 := h.1; replace h := h.2
                    refine zW_p rfl hp185 ?_
                    refine zW_s rfl ?_
                    refine zW_s rfl ?_
                    refine zW_s rfl ?_
                    have hp186 := h.1; replace h := h.2
                    refine zW_c rfl hp186 (zM_m h ?_)
                    intro r σ187 h
                    replace h := zqv_e h
                    obtain ⟨rfl, h⟩ := h
                    refine zW_r rfl trivial ?_
                    exact h
                  · rw [if_neg c181] at h
                    refine zW_sw (fun (c188 : (zI (zsI σ102 r1 1 x103) r1 0) = nI 9) => ?_) (fun (c188 : ¬ ((zI (zsI σ102 r1 1 x103) r1 0) = nI 9)) => ?_)
                    · rw [if_pos c188] at h
                      refine zW_s rfl ?_
                      refine zW_s rfl ?_
                      refine zW_s rfl ?_
                      refine zW_p rfl hp104 ?_
                      have hp189 := h.1; replace h := h.2
                      refine zW_c rfl hp189 (zM_m h ?_)
                      intro r σ190 h
                      replace h := zqi_e h
                      obtain ⟨x191, rfl, h⟩ := h
                      have hp192 := h.1; replace h := h.2
                      refine zW_p rfl hp192 ?_
                      refine zW_s rfl ?_
                      refine zW_s rfl ?_
                      refine zW_s rfl ?_
                      have hp193 := h.1; replace h := h.2
                      refine zW_c rfl hp193 (zM_m h ?_)
                      intro r σ194 h
                      replace h := zqv_e h
                      obtain ⟨rfl, h⟩ := h
                      refine zW_r rfl trivial ?_
                      exact h
                    · rw [if_neg c188] at h
                      refine zW_sw (fun (c195 : (zI (zsI σ102 r1 1 x103) r1 0) = nI 10) => ?_) (fun (c195 : ¬ ((zI (zsI σ102 r1 1 x103) r1 0) = nI 10)) => ?_)
                      · rw [if_pos c195] at h
                        refine zW_s rfl ?_
                        refine zW_s rfl ?_
                        have hp196 := h.1; replace h := h.2
                        refine zW_c rfl hp196 (zM_m h ?_)
                        intro r σ197 h
                        replace h := zqi_e h
                        obtain ⟨x198, rfl, h⟩ := h
                        have hp199 := h.1; replace h := h.2
                        refine zW_p rfl hp199 ?_
                        refine zW_s rfl ?_
                        refine zW_s rfl ?_
                        refine zW_s rfl ?_
                        have hp200 := h.1; replace h := h.2
                        refine zW_c rfl hp200 (zM_m h ?_)
                        intro r σ201 h
                        replace h := zqv_e h
                        obtain ⟨rfl, h⟩ := h
                        refine zW_r rfl trivial ?_
                        exact h
                      · rw [if_neg c195] at h
                        refine zW_s rfl ?_
                        refine zW_s rfl ?_
                        refine zW_s rfl ?_
                        refine zW_p rfl hp104 ?_
                        have hp202 := h.1; replace h := h.2
                        refine zW_c rfl hp202 (zM_m h ?_)
                        intro r σ203 h
                        replace h := zqi_e h
                        obtain ⟨x204, rfl, h⟩ := h
                        have hp205 := h.1; replace h := h.2
                        refine zW_p rfl hp205 ?_
                        refine zW_s rfl ?_
                        refine zW_s rfl ?_
                        refine zW_s rfl ?_
                        have hp206 := h.1; replace h := h.2
                        refine zW_c rfl hp206 (zM_m h ?_)
                        intro r σ207 h
                        replace h := zqi_e h
                        obtain ⟨x208, rfl, h⟩ := h
                        have hp209 := h.1; replace h := h.2
                        refine zW_p rfl hp209 ?_
                        refine zW_s rfl ?_
                        refine zW_s rfl ?_
                        have hp210 := h.1; replace h := h.2
                        refine zW_c rfl hp210 (zM_m h ?_)
                        intro r σ211 h
                        replace h := zqv_e h
                        obtain ⟨rfl, h⟩ := h
                        refine zW_r rfl trivial ?_
                        exact h
set_option maxHeartbeats 4000000 in
theorem b26 {d : Nat} {r0 : Nat} {x1 : Int32} {σ : zH} {Q : Option Value → zH → Prop} (h : (zK σ r0 = 3) ∧ (if ((zI σ r0 2) - (nI 17)) < 0 then zM d 19 [.ref r0, .int (nI 2)] σ (fun r σ103 => zqv r (Q (some (.int (nI 0))) σ103)) else (if ((zI σ r0 2) - (nI 17)) < (nI 4) then (if ¬ ((zI σ r0 2) - (nI 17)) = x1 then zM d 18 [.ref r0] σ (fun r σ106 => zqv r (Q (some (.int ((zI σ r0 2) - (nI 17)))) σ106)) else zM d 19 [.ref r0, .int (nI 3)] σ (fun r σ107 => zqv r (Q (some (.int (nI 0))) σ107))) else zM d 19 [.ref r0, .int (nI 2)] σ (fun r σ108 => zqv r (Q (some (.int (nI 0))) σ108))))) : zM (d + 1) 26 [.ref r0, .int x1] σ Q := by
  unfold zM
  refine zW_s rfl ?_
  have hp101 := h.1; replace h := h.2
  refine zW_p rfl hp101 ?_
  refine zW_s rfl ?_
  refine zW_s rfl ?_
  refine zW_s rfl ?_
  refine zW_s rfl ?_
  refine zW_s rfl ?_
  refine zW_if (fun (c102 : ((zI σ r0 2) - (nI 17)) < 0) => ?_) (fun (c102 : ¬ (((zI σ r0 2) - (nI 17)) < 0)) => ?_)
  · rw [if_pos c102] at h
    refine zW_s rfl ?_
    refine zW_s rfl ?_
    refine zW_c rfl hp101 (zM_m h ?_)
    intro r σ103 h
    replace h := zqv_e h
    obtain ⟨rfl, h⟩ := h
    refine zW_s rfl ?_
    refine zW_r rfl trivial ?_
    exact h
  · rw [if_neg c102] at h
    refine zW_s rfl ?_
    refine zW_s rfl ?_
    refine zW_s rfl ?_
    refine zW_if (fun (c104 : ((zI σ r0 2) - (nI 17)) < (nI 4)) => ?_) (fun (c104 : ¬ (((zI σ r0 2) - (nI 17)) < (nI 4))) => ?_)
    · rw [if_pos c104] at h
      refine zW_s rfl ?_
      refine zW_s rfl ?_
      refine zW_s rfl ?_
      refine zW_if (fun (c105 : ¬ ((zI σ r0 2) - (nI 17)) = x1) => ?_) (fun (c105 : ¬ (¬ ((zI σ r0 2) - (nI 17)) = x1)) => ?_)
      · rw [if_pos c105] at h
        refine zW_s rfl ?_
        refine zW_c rfl hp101 (zM_m h ?_)
        intro r σ106 h
        replace h := zqv_e h
        obtain ⟨rfl, h⟩ := h
        refine zW_s rfl ?_
        refine zW_r rfl trivial ?_
        exact h
      · rw [if_neg c105] at h
        refine zW_s rfl ?_
        refine zW_s rfl ?_
        refine zW_c rfl hp101 (zM_m h ?_)
        intro r σ107 h
        replace h := zqv_e h
        obtain ⟨rfl, h⟩ := h
        refine zW_s rfl ?_
        refine zW_r rfl trivial ?_
        exact h
    · rw [if_neg c104] at h
      refine zW_s rfl ?_
      refine zW_s rfl ?_
      refine zW_c rfl hp101 (zM_m h ?_)
      intro r σ108 h
      replace h := zqv_e h
      obtain ⟨rfl, h⟩ := h
      refine zW_s rfl ?_
      refine zW_r rfl trivial ?_
      exact h
set_option maxHeartbeats 4000000 in
theorem b27 {d : Nat} {r0 : Nat} {x1 : Int32} {σ : zH} {Q : Option Value → zH → Prop} (h : (zK σ r0 = 3) ∧ zM d 20 [.ref r0, .int (nI 14)] σ (fun r σ102 => zqv r ((zK σ102 r0 = 3) ∧ zM d 26 [.ref r0, .int x1] σ102 (fun r σ104 => zqi r (fun x105 => Q (some (.int x105)) σ104))))) : zM (d + 1) 27 [.ref r0, .int x1] σ Q := by
  unfold zM
  refine zW_s rfl ?_
  refine zW_s rfl ?_
  have hp101 := h.1; replace h := h.2
  refine zW_c rfl hp101 (zM_m h ?_)
  intro r σ102 h
  replace h := zqv_e h
  obtain ⟨rfl, h⟩ := h
  refine zW_s rfl ?_
  refine zW_s rfl ?_
  have hp103 := h.1; replace h := h.2
  refine zW_c rfl hp103 (zM_m h ?_)
  intro r σ104 h
  replace h := zqi_e h
  obtain ⟨x105, rfl, h⟩ := h
  refine zW_r rfl trivial ?_
  exact h
set_option maxHeartbeats 4000000 in
theorem b28 {d : Nat} {r0 : Nat} {σ : zH} {Q : Option Value → zH → Prop} (h : (zK σ r0 = 3) ∧ (if ¬ (zI σ r0 2) = (nI 15) then zM d 30 [.ref r0, .int (nI 0)] σ (fun r σ103 => zqi r (fun x104 => Q (some (.int x104)) σ103)) else zM d 18 [.ref r0] σ (fun r σ105 => zqv r (Q (some (.int (nI 9))) σ105)))) : zM (d + 1) 28 [.ref r0] σ Q := by
  unfold zM
  refine zW_s rfl ?_
  have hp101 := h.1; replace h := h.2
  refine zW_p rfl hp101 ?_
  refine zW_s rfl ?_
  refine zW_s rfl ?_
  refine zW_if (fun (c102 : ¬ (zI σ r0 2) = (nI 15)) => ?_) (fun (c102 : ¬ (¬ (zI σ r0 2) = (nI 15))) => ?_)
  · rw [if_pos c102] at h
    refine zW_s rfl ?_
    refine zW_s rfl ?_
    refine zW_c rfl hp101 (zM_m h ?_)
    intro r σ103 h
    replace h := zqi_e h
    obtain ⟨x104, rfl, h⟩ := h
    refine zW_r rfl trivial ?_
    exact h
  · rw [if_neg c102] at h
    refine zW_s rfl ?_
    refine zW_c rfl hp101 (zM_m h ?_)
    intro r σ105 h
    replace h := zqv_e h
    obtain ⟨rfl, h⟩ := h
    refine zW_s rfl ?_
    refine zW_r rfl trivial ?_
    exact h
set_option maxHeartbeats 4000000 in
theorem b29 {d : Nat} {r0 : Nat} {σ : zH} {Q : Option Value → zH → Prop} (h : (zK σ r0 = 3) ∧ zM d 30 [.ref r0, .int (nI 1)] σ (fun r σ102 => zqi r (fun x103 => Q (some (.int x103)) σ102))) : zM (d + 1) 29 [.ref r0] σ Q := by
  unfold zM
  refine zW_s rfl ?_
  refine zW_s rfl ?_
  have hp101 := h.1; replace h := h.2
  refine zW_c rfl hp101 (zM_m h ?_)
  intro r σ102 h
  replace h := zqi_e h
  obtain ⟨x103, rfl, h⟩ := h
  refine zW_r rfl trivial ?_
  exact h
set_option maxHeartbeats 4000000 in
theorem b30 {d : Nat} {r0 : Nat} {x1 : Int32} {σ : zH} {Q : Option Value → zH → Prop} (h : (zK σ r0 = 3) ∧ (if ¬ (zI σ r0 2) = (nI 16) then zM d 31 [.ref r0, .int x1, .int (nI 9)] σ (fun r σ103 => zqi r (fun x104 => Q (some (.int x104)) σ103)) else zM d 18 [.ref r0] σ (fun r σ105 => zqv r (Q (some (.int (-1))) σ105)))) : zM (d + 1) 30 [.ref r0, .int x1] σ Q := by
  unfold zM
  refine zW_s rfl ?_
  have hp101 := h.1; replace h := h.2
  refine zW_p rfl hp101 ?_
  refine zW_s rfl ?_
  refine zW_s rfl ?_
  refine zW_if (fun (c102 : ¬ (zI σ r0 2) = (nI 16)) => ?_) (fun (c102 : ¬ (¬ (zI σ r0 2) = (nI 16))) => ?_)
  · rw [if_pos c102] at h
    refine zW_s rfl ?_
    refine zW_s rfl ?_
    refine zW_s rfl ?_
    refine zW_c rfl hp101 (zM_m h ?_)
    intro r σ103 h
    replace h := zqi_e h
    obtain ⟨x104, rfl, h⟩ := h
    refine zW_r rfl trivial ?_
    exact h
  · rw [if_neg c102] at h
    refine zW_s rfl ?_
    refine zW_c rfl hp101 (zM_m h ?_)
    intro r σ105 h
    replace h := zqv_e h
    obtain ⟨rfl, h⟩ := h
    refine zW_s rfl ?_
    refine zW_r rfl trivial ?_
    exact h
set_option maxHeartbeats 4000000 in
theorem b31 {d : Nat} {r0 : Nat} {x1 : Int32} {x2 : Int32} {σ : zH} {Q : Option Value → zH → Prop} (h : (zK σ r0 = 3) ∧ (zK σ (zQ σ r0 0) = 9) ∧ (zK σ (zQ σ (zQ σ r0 0) 2) = 20) ∧ (vp_in (zI σ r0 1) (zN σ (zQ σ (zQ σ r0 0) 2))) ∧ (if (zI σ r0 2) = (nI 36) then (if (zA σ (zQ σ (zQ σ r0 0) 2) (zI σ r0 1).toNatClampNeg) < x1 then zM d 19 [.ref r0, .int (nI 3)] σ (fun r σ107 => zqv r (Q (some (.int x1)) σ107)) else (if (zA σ (zQ σ (zQ σ r0 0) 2) (zI σ r0 1).toNatClampNeg) ≤ x2 then zM d 18 [.ref r0] σ (fun r σ109 => zqv r (Q (some (.int (zA σ (zQ σ (zQ σ r0 0) 2) (zI σ r0 1).toNatClampNeg))) σ109)) else zM d 19 [.ref r0, .int (nI 3)] σ (fun r σ110 => zqv r (Q (some (.int x1)) σ110)))) else zM d 19 [.ref r0, .int (nI 2)] σ (fun r σ111 => zqv r (Q (some (.int x1)) σ111)))) : zM (d + 1) 31 [.ref r0, .int x1, .int x2] σ Q := by
  unfold zM
  refine zW_s rfl ?_
  have hp101 := h.1; replace h := h.2
  refine zW_p rfl hp101 ?_
  have hp102 := h.1; replace h := h.2
  refine zW_p rfl hp102 ?_
  refine zW_s rfl ?_
  refine zW_p rfl hp101 ?_
  have hp103 := h.1; replace h := h.2
  have hp104 := h.1; replace h := h.2
  refine zW_p rfl ⟨hp103, hp104⟩ ?_
  refine zW_s rfl ?_
  refine zW_s rfl ?_
  refine zW_p rfl hp101 ?_
  refine zW_s rfl ?_
  refine zW_s rfl ?_
  refine zW_if (fun (c105 : (zI σ r0 2) = (nI 36)) => ?_) (fun (c105 : ¬ ((zI σ r0 2) = (nI 36))) => ?_)
  · rw [if_pos c105] at h
    refine zW_s rfl ?_
    refine zW_s rfl ?_
    refine zW_s rfl ?_
    refine zW_if (fun (c106 : (zA σ (zQ σ (zQ σ r0 0) 2) (zI σ r0 1).toNatClampNeg) < x1) => ?_) (fun (c106 : ¬ ((zA σ (zQ σ (zQ σ r0 0) 2) (zI σ r0 1).toNatClampNeg) < x1)) => ?_)
    · rw [if_pos c106] at h
      refine zW_s rfl ?_
      refine zW_s rfl ?_
      refine zW_c rfl hp101 (zM_m h ?_)
      intro r σ107 h
      replace h := zqv_e h
      obtain ⟨rfl, h⟩ := h
      refine zW_s rfl ?_
      refine zW_r rfl trivial ?_
      exact h
    · rw [if_neg c106] at h
      refine zW_s rfl ?_
      refine zW_s rfl ?_
      refine zW_s rfl ?_
      refine zW_if (fun (c108 : (zA σ (zQ σ (zQ σ r0 0) 2) (zI σ r0 1).toNatClampNeg) ≤ x2) => ?_) (fun (c108 : ¬ ((zA σ (zQ σ (zQ σ r0 0) 2) (zI σ r0 1).toNatClampNeg) ≤ x2)) => ?_)
      · rw [if_pos c108] at h
        refine zW_s rfl ?_
        refine zW_c rfl hp101 (zM_m h ?_)
        intro r σ109 h
        replace h := zqv_e h
        obtain ⟨rfl, h⟩ := h
        refine zW_s rfl ?_
        refine zW_r rfl trivial ?_
        exact h
      · rw [if_neg c108] at h
        refine zW_s rfl ?_
        refine zW_s rfl ?_
        refine zW_c rfl hp101 (zM_m h ?_)
        intro r σ110 h
        replace h := zqv_e h
        obtain ⟨rfl, h⟩ := h
        refine zW_s rfl ?_
        refine zW_r rfl trivial ?_
        exact h
  · rw [if_neg c105] at h
    refine zW_s rfl ?_
    refine zW_s rfl ?_
    refine zW_c rfl hp101 (zM_m h ?_)
    intro r σ111 h
    replace h := zqv_e h
    obtain ⟨rfl, h⟩ := h
    refine zW_s rfl ?_
    refine zW_r rfl trivial ?_
    exact h
set_option maxHeartbeats 4000000 in
theorem b32 {d : Nat} {r0 : Nat} {r1 : Nat} {x2 : Int32} {σ : zH} {Q : Option Value → zH → Prop} (h : (zK σ r0 = 3) ∧ zM d 33 [.ref r0, .ref r1, .int x2] σ (fun r σ102 => zqv r (zW (d + 1) 32 8 [(0, .ref r0), (1, .ref r1), (2, .int x2), (3, .int (nI 0))] [] σ102 Q))) : zM (d + 1) 32 [.ref r0, .ref r1, .int x2] σ Q := by
  unfold zM
  refine zW_s rfl ?_
  refine zW_s rfl ?_
  refine zW_s rfl ?_
  have hp101 := h.1; replace h := h.2
  refine zW_c rfl hp101 (zM_m h ?_)
  intro r σ102 h
  replace h := zqv_e h
  obtain ⟨rfl, h⟩ := h
  refine zW_s rfl ?_
  refine zW_s rfl ?_
  exact h
set_option maxHeartbeats 4000000 in
theorem b32_8 {d : Nat} {r0 : Nat} {r1 : Nat} {x2 : Int32} {x3 : Int32} {σ : zH} {Q : Option Value → zH → Prop} (h : (if (nI 900) ≤ x3 then Q none σ else (zK σ r0 = 3) ∧ (if ¬ (zI σ r0 2) = (nI 21) then Q none σ else zM d 18 [.ref r0] σ (fun r σ104 => zqv r ((zK σ104 r0 = 3) ∧ zM d 33 [.ref r0, .ref r1, .int x2] σ104 (fun r σ106 => zqv r ((zK σ106 r1 = 1) ∧ zM d 1 [.ref r1, .int (nI 21), .int (nI 0), .int (nI 0)] σ106 (fun r σ108 => zqv r (zW (d + 1) 32 8 [(0, .ref r0), (1, .ref r1), (2, .int x2), (3, .int (x3 + nI 1))] [] σ108 Q))))))))) : zW (d + 1) 32 8 [(0, .ref r0), (1, .ref r1), (2, .int x2), (3, .int x3)] [] σ Q := by
  refine zW_s rfl ?_
  refine zW_s rfl ?_
  refine zW_s rfl ?_
  refine zW_if (fun (c101 : (nI 900) ≤ x3) => ?_) (fun (c101 : ¬ ((nI 900) ≤ x3)) => ?_)
  · rw [if_pos c101] at h
    refine zW_r rfl trivial ?_
    exact h
  · rw [if_neg c101] at h
    refine zW_s rfl ?_
    have hp102 := h.1; replace h := h.2
    refine zW_p rfl hp102 ?_
    refine zW_s rfl ?_
    refine zW_s rfl ?_
    refine zW_if (fun (c103 : ¬ (zI σ r0 2) = (nI 21)) => ?_) (fun (c103 : ¬ (¬ (zI σ r0 2) = (nI 21))) => ?_)
    · rw [if_pos c103] at h
      refine zW_r rfl trivial ?_
      exact h
    · rw [if_neg c103] at h
      refine zW_s rfl ?_
      refine zW_c rfl hp102 (zM_m h ?_)
      intro r σ104 h
      replace h := zqv_e h
      obtain ⟨rfl, h⟩ := h
      refine zW_s rfl ?_
      refine zW_s rfl ?_
      refine zW_s rfl ?_
      have hp105 := h.1; replace h := h.2
      refine zW_c rfl hp105 (zM_m h ?_)
      intro r σ106 h
      replace h := zqv_e h
      obtain ⟨rfl, h⟩ := h
      refine zW_s rfl ?_
      refine zW_s rfl ?_
      refine zW_s rfl ?_
      refine zW_s rfl ?_
      have hp107 := h.1; replace h := h.2
      refine zW_c rfl hp107 (zM_m h ?_)
      intro r σ108 h
      replace h := zqv_e h
      obtain ⟨rfl, h⟩ := h
      refine zW_s rfl ?_
      refine zW_s rfl ?_
      exact h
set_option maxHeartbeats 4000000 in
theorem b33 {d : Nat} {r0 : Nat} {r1 : Nat} {x2 : Int32} {σ : zH} {Q : Option Value → zH → Prop} (h : (zK σ r0 = 3) ∧ zM d 34 [.ref r0, .ref r1, .int x2] σ (fun r σ102 => zqv r (zW (d + 1) 33 8 [(0, .ref r0), (1, .ref r1), (2, .int x2), (3, .int (nI 0))] [] σ102 Q))) : zM (d + 1) 33 [.ref r0, .ref r1, .int x2] σ Q := by
  unfold zM
  refine zW_s rfl ?_
  refine zW_s rfl ?_
  refine zW_s rfl ?_
  have hp101 := h.1; replace h := h.2
  refine zW_c rfl hp101 (zM_m h ?_)
  intro r σ102 h
  replace h := zqv_e h
  obtain ⟨rfl, h⟩ := h
  refine zW_s rfl ?_
  refine zW_s rfl ?_
  exact h
set_option maxHeartbeats 4000000 in
theorem b33_8 {d : Nat} {r0 : Nat} {r1 : Nat} {x2 : Int32} {x3 : Int32} {σ : zH} {Q : Option Value → zH → Prop} (h : (if (nI 900) ≤ x3 then Q none σ else (zK σ r0 = 3) ∧ (if ¬ (zI σ r0 2) = (nI 22) then Q none σ else zM d 18 [.ref r0] σ (fun r σ104 => zqv r ((zK σ104 r0 = 3) ∧ zM d 34 [.ref r0, .ref r1, .int x2] σ104 (fun r σ106 => zqv r ((zK σ106 r1 = 1) ∧ zM d 1 [.ref r1, .int (nI 22), .int (nI 0), .int (nI 0)] σ106 (fun r σ108 => zqv r (zW (d + 1) 33 8 [(0, .ref r0), (1, .ref r1), (2, .int x2), (3, .int (x3 + nI 1))] [] σ108 Q))))))))) : zW (d + 1) 33 8 [(0, .ref r0), (1, .ref r1), (2, .int x2), (3, .int x3)] [] σ Q := by
  refine zW_s rfl ?_
  refine zW_s rfl ?_
  refine zW_s rfl ?_
  refine zW_if (fun (c101 : (nI 900) ≤ x3) => ?_) (fun (c101 : ¬ ((nI 900) ≤ x3)) => ?_)
  · rw [if_pos c101] at h
    refine zW_r rfl trivial ?_
    exact h
  · rw [if_neg c101] at h
    refine zW_s rfl ?_
    have hp102 := h.1; replace h := h.2
    refine zW_p rfl hp102 ?_
    refine zW_s rfl ?_
    refine zW_s rfl ?_
    refine zW_if (fun (c103 : ¬ (zI σ r0 2) = (nI 22)) => ?_) (fun (c103 : ¬ (¬ (zI σ r0 2) = (nI 22))) => ?_)
    · rw [if_pos c103] at h
      refine zW_r rfl trivial ?_
      exact h
    · rw [if_neg c103] at h
      refine zW_s rfl ?_
      refine zW_c rfl hp102 (zM_m h ?_)
      intro r σ104 h
      replace h := zqv_e h
      obtain ⟨rfl, h⟩ := h
      refine zW_s rfl ?_
      refine zW_s rfl ?_
      refine zW_s rfl ?_
      have hp105 := h.1; replace h := h.2
      refine zW_c rfl hp105 (zM_m h ?_)
      intro r σ106 h
      replace h := zqv_e h
      obtain ⟨rfl, h⟩ := h
      refine zW_s rfl ?_
      refine zW_s rfl ?_
      refine zW_s rfl ?_
      refine zW_s rfl ?_
      have hp107 := h.1; replace h := h.2
      refine zW_c rfl hp107 (zM_m h ?_)
      intro r σ108 h
      replace h := zqv_e h
      obtain ⟨rfl, h⟩ := h
      refine zW_s rfl ?_
      refine zW_s rfl ?_
      exact h
set_option maxHeartbeats 4000000 in
theorem b34 {d : Nat} {r0 : Nat} {r1 : Nat} {x2 : Int32} {σ : zH} {Q : Option Value → zH → Prop} (h : (zK σ r0 = 3) ∧ (if (zI σ r0 2) = nI 23 then zM d 35 [.ref r0, .ref r1, .int x2] σ (fun r σ103 => zqv r (Q none σ103)) else (if (zI σ r0 2) = nI 24 then zM d 36 [.ref r0, .ref r1] σ (fun r σ105 => zqv r (Q none σ105)) else (if (zI σ r0 2) = nI 25 then zM d 36 [.ref r0, .ref r1] σ (fun r σ107 => zqv r (Q none σ107)) else (if (zI σ r0 2) = nI 26 then zM d 36 [.ref r0, .ref r1] σ (fun r σ109 => zqv r (Q none σ109)) else (if (zI σ r0 2) = nI 39 then zM d 35 [.ref r0, .ref r1, .int x2] σ (fun r σ111 => zqv r (Q none σ111)) else zM d 38 [.ref r0, .ref r1] σ (fun r σ112 => zqv r (Q none σ112)))))))) : zM (d + 1) 34 [.ref r0, .ref r1, .int x2] σ Q := by
  unfold zM
  refine zW_s rfl ?_
  have hp101 := h.1; replace h := h.2
  refine zW_p rfl hp101 ?_
  refine zW_s rfl ?_
  refine zW_sw (fun (c102 : (zI σ r0 2) = nI 23) => ?_) (fun (c102 : ¬ ((zI σ r0 2) = nI 23)) => ?_)
  · rw [if_pos c102] at h
    refine zW_s rfl ?_
    refine zW_s rfl ?_
    refine zW_s rfl ?_
    refine zW_c rfl hp101 (zM_m h ?_)
    intro r σ103 h
    replace h := zqv_e h
    obtain ⟨rfl, h⟩ := h
    refine zW_s rfl ?_
    refine zW_r rfl trivial ?_
    exact h
  · rw [if_neg c102] at h
    refine zW_sw (fun (c104 : (zI σ r0 2) = nI 24) => ?_) (fun (c104 : ¬ ((zI σ r0 2) = nI 24)) => ?_)
    · rw [if_pos c104] at h
      refine zW_s rfl ?_
      refine zW_s rfl ?_
      refine zW_c rfl hp101 (zM_m h ?_)
      intro r σ105 h
      replace h := zqv_e h
      obtain ⟨rfl, h⟩ := h
      refine zW_s rfl ?_
      refine zW_r rfl trivial ?_
      exact h
    · rw [if_neg c104] at h
      refine zW_sw (fun (c106 : (zI σ r0 2) = nI 25) => ?_) (fun (c106 : ¬ ((zI σ r0 2) = nI 25)) => ?_)
      · rw [if_pos c106] at h
        refine zW_s rfl ?_
        refine zW_s rfl ?_
        refine zW_c rfl hp101 (zM_m h ?_)
        intro r σ107 h
        replace h := zqv_e h
        obtain ⟨rfl, h⟩ := h
        refine zW_s rfl ?_
        refine zW_r rfl trivial ?_
        exact h
      · rw [if_neg c106] at h
        refine zW_sw (fun (c108 : (zI σ r0 2) = nI 26) => ?_) (fun (c108 : ¬ ((zI σ r0 2) = nI 26)) => ?_)
        · rw [if_pos c108] at h
          refine zW_s rfl ?_
          refine zW_s rfl ?_
          refine zW_c rfl hp101 (zM_m h ?_)
          intro r σ109 h
          replace h := zqv_e h
          obtain ⟨rfl, h⟩ := h
          refine zW_s rfl ?_
          refine zW_r rfl trivial ?_
          exact h
        · rw [if_neg c108] at h
          refine zW_sw (fun (c110 : (zI σ r0 2) = nI 39) => ?_) (fun (c110 : ¬ ((zI σ r0 2) = nI 39)) => ?_)
          · rw [if_pos c110] at h
            refine zW_s rfl ?_
            refine zW_s rfl ?_
            refine zW_s rfl ?_
            refine zW_c rfl hp101 (zM_m h ?_)
            intro r σ111 h
            replace h := zqv_e h
            obtain ⟨rfl, h⟩ := h
            refine zW_s rfl ?_
            refine zW_r rfl trivial ?_
            exact h
          · rw [if_neg c110] at h
            refine zW_s rfl ?_
            refine zW_s rfl ?_
            refine zW_c rfl hp101 (zM_m h ?_)
            intro r σ112 h
            replace h := zqv_e h
            obtain ⟨rfl, h⟩ := h
            refine zW_r rfl trivial ?_
            exact h
set_option maxHeartbeats 4000000 in
theorem b35 {d : Nat} {r0 : Nat} {r1 : Nat} {x2 : Int32} {σ : zH} {Q : Option Value → zH → Prop} (h : (if x2 < (nI 8) then (zK σ r0 = 3) ∧ (if ¬ (zI σ r0 2) = (nI 23) then zM d 18 [.ref r0] σ (fun r σ104 => zqv r ((zK σ104 r0 = 3) ∧ zM d 32 [.ref r0, .ref r1, .int (x2 + (nI 1))] σ104 (fun r σ106 => zqv r ((zK σ106 r0 = 3) ∧ zM d 20 [.ref r0, .int (nI 40)] σ106 (fun r σ108 => zqv r (Q none σ108)))))) else zM d 18 [.ref r0] σ (fun r σ109 => zqv r ((zK σ109 r0 = 3) ∧ zM d 34 [.ref r0, .ref r1, .int (x2 + (nI 1))] σ109 (fun r σ111 => zqv r ((zK σ111 r1 = 1) ∧ zM d 1 [.ref r1, .int (nI 23), .int (nI 0), .int (nI 0)] σ111 (fun r σ113 => zqv r (Q none σ113))))))) else (zK σ r0 = 3) ∧ zM d 19 [.ref r0, .int (nI 4)] σ (fun r σ115 => zqv r (Q none σ115)))) : zM (d + 1) 35 [.ref r0, .ref r1, .int x2] σ Q := by
  unfold zM
  refine zW_s rfl ?_
  refine zW_s rfl ?_
  refine zW_s rfl ?_
  refine zW_if (fun (c101 : x2 < (nI 8)) => ?_) (fun (c101 : ¬ (x2 < (nI 8))) => ?_)
  · rw [if_pos c101] at h
    refine zW_s rfl ?_
    have hp102 := h.1; replace h := h.2
    refine zW_p rfl hp102 ?_
    refine zW_s rfl ?_
    refine zW_s rfl ?_
    refine zW_if (fun (c103 : ¬ (zI σ r0 2) = (nI 23)) => ?_) (fun (c103 : ¬ (¬ (zI σ r0 2) = (nI 23))) => ?_)
    · rw [if_pos c103] at h
      refine zW_s rfl ?_
      refine zW_c rfl hp102 (zM_m h ?_)
      intro r σ104 h
      replace h := zqv_e h
      obtain ⟨rfl, h⟩ := h
      refine zW_s rfl ?_
      refine zW_s rfl ?_
      refine zW_s rfl ?_
      refine zW_s rfl ?_
      refine zW_s rfl ?_
      have hp105 := h.1; replace h := h.2
      refine zW_c rfl hp105 (zM_m h ?_)
      intro r σ106 h
      replace h := zqv_e h
      obtain ⟨rfl, h⟩ := h
      refine zW_s rfl ?_
      refine zW_s rfl ?_
      have hp107 := h.1; replace h := h.2
      refine zW_c rfl hp107 (zM_m h ?_)
      intro r σ108 h
      replace h := zqv_e h
      obtain ⟨rfl, h⟩ := h
      refine zW_r rfl trivial ?_
      exact h
    · rw [if_neg c103] at h
      refine zW_s rfl ?_
      refine zW_c rfl hp102 (zM_m h ?_)
      intro r σ109 h
      replace h := zqv_e h
      obtain ⟨rfl, h⟩ := h
      refine zW_s rfl ?_
      refine zW_s rfl ?_
      refine zW_s rfl ?_
      refine zW_s rfl ?_
      refine zW_s rfl ?_
      have hp110 := h.1; replace h := h.2
      refine zW_c rfl hp110 (zM_m h ?_)
      intro r σ111 h
      replace h := zqv_e h
      obtain ⟨rfl, h⟩ := h
      refine zW_s rfl ?_
      refine zW_s rfl ?_
      refine zW_s rfl ?_
      refine zW_s rfl ?_
      have hp112 := h.1; replace h := h.2
      refine zW_c rfl hp112 (zM_m h ?_)
      intro r σ113 h
      replace h := zqv_e h
      obtain ⟨rfl, h⟩ := h
      refine zW_s rfl ?_
      refine zW_r rfl trivial ?_
      exact h
  · rw [if_neg c101] at h
    refine zW_s rfl ?_
    refine zW_s rfl ?_
    have hp114 := h.1; replace h := h.2
    refine zW_c rfl hp114 (zM_m h ?_)
    intro r σ115 h
    replace h := zqv_e h
    obtain ⟨rfl, h⟩ := h
    refine zW_r rfl trivial ?_
    exact h
set_option maxHeartbeats 4000000 in
theorem b36 {d : Nat} {r0 : Nat} {r1 : Nat} {σ : zH} {Q : Option Value → zH → Prop} (h : (zK σ r0 = 3) ∧ zM d 18 [.ref r0] σ (fun r σ102 => zqv r ((if ¬ (zI σ r0 2) = (nI 25) then zW (d + 1) 36 26 [(0, .ref r0), (1, .ref r1), (2, .int (zI σ r0 2))] [.int (nI 0)] σ102 Q else (zK σ102 r0 = 3) ∧ zM d 31 [.ref r0, .int (nI 2), .int (nI 9)] σ102 (fun r σ105 => zqi r (fun x106 => zW (d + 1) 36 26 [(0, .ref r0), (1, .ref r1), (2, .int (zI σ r0 2))] [.int x106] σ105 Q)))))) : zM (d + 1) 36 [.ref r0, .ref r1] σ Q := by
  unfold zM
  refine zW_s rfl ?_
  have hp101 := h.1; replace h := h.2
  refine zW_p rfl hp101 ?_
  refine zW_s rfl ?_
  refine zW_s rfl ?_
  refine zW_c rfl hp101 (zM_m h ?_)
  intro r σ102 h
  replace h := zqv_e h
  obtain ⟨rfl, h⟩ := h
  refine zW_s rfl ?_
  refine zW_s rfl ?_
  refine zW_s rfl ?_
  refine zW_if (fun (c103 : ¬ (zI σ r0 2) = (nI 25)) => ?_) (fun (c103 : ¬ (¬ (zI σ r0 2) = (nI 25))) => ?_)
  · rw [if_pos c103] at h
    refine zW_s rfl ?_
    exact h
  · rw [if_neg c103] at h
    refine zW_s rfl ?_
    refine zW_s rfl ?_
    refine zW_s rfl ?_
    have hp104 := h.1; replace h := h.2
    refine zW_c rfl hp104 (zM_m h ?_)
    intro r σ105 h
    replace h := zqi_e h
    obtain ⟨x106, rfl, h⟩ := h
    refine zW_s rfl ?_
    exact h
set_option maxHeartbeats 4000000 in
theorem b36_26 {d : Nat} {r0 : Nat} {r1 : Nat} {x2 : Int32} {v0 : Int32} {σ : zH} {Q : Option Value → zH → Prop} (h : (if ¬ x2 = (nI 26) then (zK σ r0 = 3) ∧ zM d 37 [.ref r0] σ (fun r σ103 => zqi r (fun x104 => zW (d + 1) 36 42 [(0, .ref r0), (1, .ref r1), (2, .int x2), (3, .int v0)] [.int x104] σ103 Q)) else zW (d + 1) 36 42 [(0, .ref r0), (1, .ref r1), (2, .int x2), (3, .int v0)] [.int (nI 31)] σ Q)) : zW (d + 1) 36 26 [(0, .ref r0), (1, .ref r1), (2, .int x2)] [.int v0] σ Q := by
  refine zW_s rfl ?_
  refine zW_s rfl ?_
  refine zW_s rfl ?_
  refine zW_s rfl ?_
  refine zW_if (fun (c101 : ¬ x2 = (nI 26)) => ?_) (fun (c101 : ¬ (¬ x2 = (nI 26))) => ?_)
  · rw [if_pos c101] at h
    refine zW_s rfl ?_
    have hp102 := h.1; replace h := h.2
    refine zW_c rfl hp102 (zM_m h ?_)
    intro r σ103 h
    replace h := zqi_e h
    obtain ⟨x104, rfl, h⟩ := h
    exact h
  · rw [if_neg c101] at h
    refine zW_s rfl ?_
    refine zW_s rfl ?_
    exact h
set_option maxHeartbeats 4000000 in
theorem b36_42 {d : Nat} {r0 : Nat} {r1 : Nat} {x2 : Int32} {x3 : Int32} {v0 : Int32} {σ : zH} {Q : Option Value → zH → Prop} (h : (zK σ r0 = 3) ∧ zM d 26 [.ref r0, .int (-1)] σ (fun r σ102 => zqi r (fun x103 => zM d 4 [.int x103, .int x3] σ102 (fun r σ104 => zqi r (fun x105 => (zK σ104 r1 = 1) ∧ zM d 1 [.ref r1, .int x2, .int v0, .int x105] σ104 (fun r σ107 => zqv r (Q none σ107))))))) : zW (d + 1) 36 42 [(0, .ref r0), (1, .ref r1), (2, .int x2), (3, .int x3)] [.int v0] σ Q := by
  refine zW_s rfl ?_
  refine zW_s rfl ?_
  refine zW_s rfl ?_
  have hp101 := h.1; replace h := h.2
  refine zW_c rfl hp101 (zM_m h ?_)
  intro r σ102 h
  replace h := zqi_e h
  obtain ⟨x103, rfl, h⟩ := h
  refine zW_s rfl ?_
  refine zW_s rfl ?_
  refine zW_s rfl ?_
  refine zW_s rfl ?_
  refine zW_s rfl ?_
  refine zW_s rfl ?_
  refine zW_c rfl trivial (zM_m h ?_)
  intro r σ104 h
  replace h := zqi_e h
  obtain ⟨x105, rfl, h⟩ := h
  have hp106 := h.1; replace h := h.2
  refine zW_c rfl hp106 (zM_m h ?_)
  intro r σ107 h
  replace h := zqv_e h
  obtain ⟨rfl, h⟩ := h
  refine zW_r rfl trivial ?_
  exact h
