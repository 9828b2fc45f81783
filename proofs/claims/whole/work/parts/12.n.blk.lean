set_option maxHeartbeats 4000000 in
theorem b191 {d : Nat} {r0 : Nat} {x1 : Int32} {x2 : Int32} {σ : zH} {Q : Option Value → zH → Prop} (h : (zK σ r0 = 13) ∧ zM d 184 [.ref r0, .int (nI 11)] σ (fun r σ102 => zqv r (zW (d + 1) 191 11 [(0, .ref r0), (1, .int x1), (2, .int x2), (3, .int (nI 11)), (4, .int (nI 0))] [] σ102 Q))) : zM (d + 1) 191 [.ref r0, .int x1, .int x2] σ Q := by
  unfold zM
  refine zW_s rfl ?_
  refine zW_s rfl ?_
  refine zW_s rfl ?_
  refine zW_s rfl ?_
  have hp101 := h.1; replace h := h.2
  refine zW_c rfl hp101 (zM_m h ?_)
  intro r σ102 h
  replace h := zqv_e h
  obtain ⟨rfl, h⟩ := h
  refine zW_s rfl ?_
  refine zW_s rfl ?_
  exact h
set_option maxHeartbeats 4000000 in
theorem b191_11 {d : Nat} {r0 : Nat} {x1 : Int32} {x2 : Int32} {x3 : Int32} {x4 : Int32} {σ : zH} {Q : Option Value → zH → Prop} (h : (zK σ r0 = 13) ∧ (zK σ (zQ σ r0 44) = 20) ∧ (vp_in x1 (zN σ (zQ σ r0 44))) ∧ (if (zA σ (zQ σ r0 44) x1.toNatClampNeg) ≤ x4 then zW (d + 1) 191 68 [(0, .ref r0), (1, .int x1), (2, .int x2), (3, .int x3), (4, .int (nI 0))] [] σ Q else (if ¬ (zI σ r0 46) = 0 then zW (d + 1) 191 68 [(0, .ref r0), (1, .int x1), (2, .int x2), (3, .int x3), (4, .int (nI 0))] [] σ Q else (zK σ (zQ σ r0 42) = 21) ∧ (vp_in (((nI 3001) * x1) + x4) (zN σ (zQ σ r0 42))) ∧ (zK σ (zQ σ r0 43) = 21) ∧ (vp_in (((nI 3001) * x1) + x4) (zN σ (zQ σ r0 43))) ∧ zM d 185 [.ref r0, .long (zB σ (zQ σ r0 42) (((nI 3001) * x1) + x4).toNatClampNeg), .long (zB σ (zQ σ r0 43) (((nI 3001) * x1) + x4).toNatClampNeg)] σ (fun r σ110 => zqv r (zW (d + 1) 191 11 [(0, .ref r0), (1, .int x1), (2, .int x2), (3, .int x3), (4, .int (x4 + nI 1))] [] σ110 Q))))) : zW (d + 1) 191 11 [(0, .ref r0), (1, .int x1), (2, .int x2), (3, .int x3), (4, .int x4)] [] σ Q := by
  refine zW_s rfl ?_
  refine zW_s rfl ?_
  have hp101 := h.1; replace h := h.2
  refine zW_p rfl hp101 ?_
  refine zW_s rfl ?_
  have hp102 := h.1; replace h := h.2
  have hp103 := h.1; replace h := h.2
  refine zW_p rfl ⟨hp102, hp103⟩ ?_
  refine zW_s rfl ?_
  refine zW_if (fun (c104 : (zA σ (zQ σ r0 44) x1.toNatClampNeg) ≤ x4) => ?_) (fun (c104 : ¬ ((zA σ (zQ σ r0 44) x1.toNatClampNeg) ≤ x4)) => ?_)
  · rw [if_pos c104] at h
    refine zW_s rfl ?_
    refine zW_s rfl ?_
    exact h
  · rw [if_neg c104] at h
    refine zW_s rfl ?_
    refine zW_p rfl hp101 ?_
    refine zW_s rfl ?_
    refine zW_if (fun (c105 : ¬ (zI σ r0 46) = 0) => ?_) (fun (c105 : ¬ (¬ (zI σ r0 46) = 0)) => ?_)
    · rw [if_pos c105] at h
      refine zW_s rfl ?_
      refine zW_s rfl ?_
      exact h
    · rw [if_neg c105] at h
      refine zW_s rfl ?_
      refine zW_s rfl ?_
      refine zW_p rfl hp101 ?_
      refine zW_s rfl ?_
      refine zW_s rfl ?_
      refine zW_s rfl ?_
      refine zW_s rfl ?_
      refine zW_s rfl ?_
      have hp106 := h.1; replace h := h.2
      have hp107 := h.1; replace h := h.2
      refine zW_p rfl ⟨hp106, hp107⟩ ?_
      refine zW_s rfl ?_
      refine zW_p rfl hp101 ?_
      refine zW_s rfl ?_
      refine zW_s rfl ?_
      refine zW_s rfl ?_
      refine zW_s rfl ?_
      refine zW_s rfl ?_
      have hp108 := h.1; replace h := h.2
      have hp109 := h.1; replace h := h.2
      refine zW_p rfl ⟨hp108, hp109⟩ ?_
      refine zW_c rfl hp101 (zM_m h ?_)
      intro r σ110 h
      replace h := zqv_e h
      obtain ⟨rfl, h⟩ := h
      refine zW_s rfl ?_
      refine zW_s rfl ?_
      exact h
set_option maxHeartbeats 4000000 in
theorem b191_68 {d : Nat} {r0 : Nat} {x1 : Int32} {x2 : Int32} {x3 : Int32} {x4 : Int32} {σ : zH} {Q : Option Value → zH → Prop} (h : (zK σ r0 = 13) ∧ (zK σ (zQ σ r0 44) = 20) ∧ (vp_in x2 (zN σ (zQ σ r0 44))) ∧ (if (zA σ (zQ σ r0 44) x2.toNatClampNeg) ≤ x4 then zM d 189 [.ref r0, .int x3, .int x1] σ (fun r σ105 => zqv r (Q none σ105)) else (if ¬ (zI σ r0 46) = 0 then zM d 189 [.ref r0, .int x3, .int x1] σ (fun r σ107 => zqv r (Q none σ107)) else (zK σ (zQ σ r0 42) = 21) ∧ (vp_in (((nI 3001) * x2) + x4) (zN σ (zQ σ r0 42))) ∧ (zK σ (zQ σ r0 43) = 21) ∧ (vp_in (((nI 3001) * x2) + x4) (zN σ (zQ σ r0 43))) ∧ zM d 185 [.ref r0, .long (zB σ (zQ σ r0 42) (((nI 3001) * x2) + x4).toNatClampNeg), .long (zB σ (zQ σ r0 43) (((nI 3001) * x2) + x4).toNatClampNeg)] σ (fun r σ112 => zqv r (zW (d + 1) 191 68 [(0, .ref r0), (1, .int x1), (2, .int x2), (3, .int x3), (4, .int (x4 + nI 1))] [] σ112 Q))))) : zW (d + 1) 191 68 [(0, .ref r0), (1, .int x1), (2, .int x2), (3, .int x3), (4, .int x4)] [] σ Q := by
  refine zW_s rfl ?_
  refine zW_s rfl ?_
  have hp101 := h.1; replace h := h.2
  refine zW_p rfl hp101 ?_
  refine zW_s rfl ?_
  have hp102 := h.1; replace h := h.2
  have hp103 := h.1; replace h := h.2
  refine zW_p rfl ⟨hp102, hp103⟩ ?_
  refine zW_s rfl ?_
  refine zW_if (fun (c104 : (zA σ (zQ σ r0 44) x2.toNatClampNeg) ≤ x4) => ?_) (fun (c104 : ¬ ((zA σ (zQ σ r0 44) x2.toNatClampNeg) ≤ x4)) => ?_)
  · rw [if_pos c104] at h
    refine zW_s rfl ?_
    refine zW_s rfl ?_
    refine zW_s rfl ?_
    refine zW_c rfl hp101 (zM_m h ?_)
    intro r σ105 h
    replace h := zqv_e h
    obtain ⟨rfl, h⟩ := h
    refine zW_r rfl trivial ?_
    exact h
  · rw [if_neg c104] at h
    refine zW_s rfl ?_
    refine zW_p rfl hp101 ?_
    refine zW_s rfl ?_
    refine zW_if (fun (c106 : ¬ (zI σ r0 46) = 0) => ?_) (fun (c106 : ¬ (¬ (zI σ r0 46) = 0)) => ?_)
    · rw [if_pos c106] at h
      refine zW_s rfl ?_
      refine zW_s rfl ?_
      refine zW_s rfl ?_
      refine zW_c rfl hp101 (zM_m h ?_)
      intro r σ107 h
      replace h := zqv_e h
      obtain ⟨rfl, h⟩ := h
      refine zW_r rfl trivial ?_
      exact h
    · rw [if_neg c106] at h
      refine zW_s rfl ?_
      refine zW_s rfl ?_
      refine zW_p rfl hp101 ?_
      refine zW_s rfl ?_
      refine zW_s rfl ?_
      refine zW_s rfl ?_
      refine zW_s rfl ?_
      refine zW_s rfl ?_
      have hp108 := h.1; replace h := h.2
      have hp109 := h.1; replace h := h.2
      refine zW_p rfl ⟨hp108, hp109⟩ ?_
      refine zW_s rfl ?_
      refine zW_p rfl hp101 ?_
      refine zW_s rfl ?_
      refine zW_s rfl ?_
      refine zW_s rfl ?_
      refine zW_s rfl ?_
      refine zW_s rfl ?_
      have hp110 := h.1; replace h := h.2
      have hp111 := h.1; replace h := h.2
      refine zW_p rfl ⟨hp110, hp111⟩ ?_
      refine zW_c rfl hp101 (zM_m h ?_)
      intro r σ112 h
      replace h := zqv_e h
      obtain ⟨rfl, h⟩ := h
      refine zW_s rfl ?_
      refine zW_s rfl ?_
      exact h
set_option maxHeartbeats 4000000 in
theorem b192 {d : Nat} {r0 : Nat} {r1 : Nat} {σ : zH} {Q : Option Value → zH → Prop} (h : (zK σ r0 = 13) ∧ zM d 136 [.ref r0, .ref r1] (zsI σ r0 46 (nI 0)) (fun r σ102 => zqv r ((zK σ102 r0 = 13) ∧ (zK σ102 (zQ σ102 r0 44) = 20) ∧ (vp_in (nI 0) (zN σ102 (zQ σ102 r0 44))) ∧ zM d 137 [.ref r0] (zsA σ102 (zQ σ102 r0 44) (nI 0).toNatClampNeg (nI 1)) (fun r σ106 => zql r (fun x107 => (zK σ106 (zQ σ102 r0 42) = 21) ∧ (vp_in (nI 0) (zN σ106 (zQ σ102 r0 42))) ∧ (zK σ106 r0 = 13) ∧ (zK σ106 (zQ σ106 r0 43) = 21) ∧ (vp_in (nI 0) (zN σ106 (zQ σ106 r0 43))) ∧ zM d 187 [.ref r0, .int (nI 0), .int (zI σ106 r0 30), .int (nI 0), .int (nI 1)] (zsB (zsB σ106 (zQ σ102 r0 42) (nI 0).toNatClampNeg x107) (zQ σ106 r0 43) (nI 0).toNatClampNeg (lN 0)) (fun r σ113 => zqv r ((zK σ113 r0 = 13) ∧ (if (zI σ113 r0 46) = 0 then zW (d + 1) 192 63 [(0, .ref r0), (2, .int (nI 0)), (3, .long (lN 9223372036854775807)), (5, .int (nI 0))] [] σ113 Q else Q (some (.int (nI 2))) σ113)))))))) : zM (d + 1) 192 [.ref r0, .ref r1] σ Q := by
  unfold zM
  refine zW_s rfl ?_
  refine zW_s rfl ?_
  have hp101 := h.1; replace h := h.2
  refine zW_p rfl ⟨hp101, by decide⟩ ?_
  refine zW_s rfl ?_
  refine zW_s rfl ?_
  refine zW_c rfl hp101 (zM_m h ?_)
  intro r σ102 h
  replace h := zqv_e h
  obtain ⟨rfl, h⟩ := h
  refine zW_s rfl ?_
  have hp103 := h.1; replace h := h.2
  refine zW_p rfl hp103 ?_
  refine zW_s rfl ?_
  refine zW_s rfl ?_
  have hp104 := h.1; replace h := h.2
  have hp105 := h.1; replace h := h.2
  refine zW_p rfl ⟨hp104, hp105⟩ ?_
  refine zW_s rfl ?_
  refine zW_p rfl hp103 ?_
  refine zW_s rfl ?_
  refine zW_s rfl ?_
  refine zW_c rfl hp103 (zM_m h ?_)
  intro r σ106 h
  replace h := zql_e h
  obtain ⟨x107, rfl, h⟩ := h
  have hp108 := h.1; replace h := h.2
  have hp109 := h.1; replace h := h.2
  refine zW_p rfl ⟨hp108, hp109⟩ ?_
  refine zW_s rfl ?_
  have hp110 := h.1; replace h := h.2
  refine zW_p rfl hp110 ?_
  refine zW_s rfl ?_
  refine zW_s rfl ?_
  have hp111 := h.1; replace h := h.2
  have hp112 := h.1; replace h := h.2
  refine zW_p rfl ⟨hp111, hp112⟩ ?_
  refine zW_s rfl ?_
  refine zW_s rfl ?_
  refine zW_s rfl ?_
  refine zW_p rfl hp110 ?_
  refine zW_s rfl ?_
  refine zW_s rfl ?_
  refine zW_c rfl hp110 (zM_m h ?_)
  intro r σ113 h
  replace h := zqv_e h
  obtain ⟨rfl, h⟩ := h
  refine zW_s rfl ?_
  have hp114 := h.1; replace h := h.2
  refine zW_p rfl hp114 ?_
  refine zW_s rfl ?_
  refine zW_if (fun (c115 : (zI σ113 r0 46) = 0) => ?_) (fun (c115 : ¬ ((zI σ113 r0 46) = 0)) => ?_)
  · rw [if_pos c115] at h
    refine zW_s rfl ?_
    refine zW_s rfl ?_
    refine zW_s rfl ?_
    refine zW_s rfl ?_
    refine zW_s rfl ?_
    refine zW_s rfl ?_
    refine zW_k [0, 2, 3, 4] rfl ?_
    exact h
  · rw [if_neg c115] at h
    refine zW_s rfl ?_
    refine zW_r rfl trivial ?_
    exact h
set_option maxHeartbeats 4000000 in
theorem b192_63 {d : Nat} {r0 : Nat} {x2 : Int32} {y3 : Int64} {x5 : Int32} {σ : zH} {Q : Option Value → zH → Prop} (h : (zK σ r0 = 13) ∧ (zK σ (zQ σ r0 44) = 20) ∧ (vp_in (nI 0) (zN σ (zQ σ r0 44))) ∧ (if (zA σ (zQ σ r0 44) (nI 0).toNatClampNeg) ≤ x5 then Q (some (.int (if ¬ x2 = (zA σ (zQ σ r0 44) (nI 0).toNatClampNeg) then nI 1 else nI 0))) (zsJ (zsI (zsI σ r0 48 (zA σ (zQ σ r0 44) (nI 0).toNatClampNeg)) r0 49 x2) r0 50 y3) else (zK σ (zQ σ r0 42) = 21) ∧ (vp_in x5 (zN σ (zQ σ r0 42))) ∧ zM d 138 [.ref r0, .long (zB σ (zQ σ r0 42) x5.toNatClampNeg)] σ (fun r σ108 => zqv r ((zK σ108 r0 = 13) ∧ zM d 173 [.ref r0] σ108 (fun r σ110 => zqi r (fun x111 => (if x111 = 0 then (zK σ110 r0 = 13) ∧ (zK σ110 (zQ σ110 r0 43) = 21) ∧ (vp_in x5 (zN σ110 (zQ σ110 r0 43))) ∧ (if 0 ≤ (lg_cmp (zB σ110 (zQ σ110 r0 43) x5.toNatClampNeg) y3) then zW (d + 1) 192 63 [(0, .ref r0), (2, .int x2), (3, .long y3), (5, .int (x5 + nI 1))] [] σ110 Q else zW (d + 1) 192 63 [(0, .ref r0), (2, .int x2), (3, .long (zB σ110 (zQ σ110 r0 43) x5.toNatClampNeg)), (5, .int (x5 + nI 1))] [] σ110 Q) else zW (d + 1) 192 63 [(0, .ref r0), (2, .int (x2 + nI 1)), (3, .long y3), (5, .int (x5 + nI 1))] [] σ110 Q))))))) : zW (d + 1) 192 63 [(0, .ref r0), (2, .int x2), (3, .long y3), (5, .int x5)] [] σ Q := by
  refine zW_s rfl ?_
  refine zW_s rfl ?_
  have hp101 := h.1; replace h := h.2
  refine zW_p rfl hp101 ?_
  refine zW_s rfl ?_
  have hp102 := h.1; replace h := h.2
  have hp103 := h.1; replace h := h.2
  refine zW_p rfl ⟨hp102, hp103⟩ ?_
  refine zW_s rfl ?_
  refine zW_if (fun (c104 : (zA σ (zQ σ r0 44) (nI 0).toNatClampNeg) ≤ x5) => ?_) (fun (c104 : ¬ ((zA σ (zQ σ r0 44) (nI 0).toNatClampNeg) ≤ x5)) => ?_)
  · rw [if_pos c104] at h
    refine zW_s rfl ?_
    refine zW_s rfl ?_
    refine zW_p rfl hp101 ?_
    refine zW_s rfl ?_
    refine zW_p rfl ⟨hp102, hp103⟩ ?_
    refine zW_p rfl hp101 ?_
    refine zW_s rfl ?_
    refine zW_s rfl ?_
    refine zW_p rfl hp101 ?_
    refine zW_s rfl ?_
    refine zW_s rfl ?_
    refine zW_p rfl hp101 ?_
    refine zW_s rfl ?_
    refine zW_s rfl ?_
    refine zW_p rfl hp101 ?_
    refine zW_s rfl ?_
    refine zW_p rfl ⟨hp102, hp103⟩ ?_
    refine zW_s rfl ?_
    have k : ∀ v : Int32, v = (if ¬ x2 = (zA σ (zQ σ r0 44) (nI 0).toNatClampNeg) then nI 1 else nI 0) → zW (d + 1) 192 163 [(0, .ref r0), (2, .int x2), (3, .long y3), (5, .int x5)] [.int v] (zsJ (zsI (zsI σ r0 48 (zA σ (zQ σ r0 44) (nI 0).toNatClampNeg)) r0 49 x2) r0 50 y3) Q := by
      intro v hv
      subst hv
      refine zW_r rfl trivial ?_
      exact h
    refine zW_if (fun (c105 : ¬ x2 = (zA σ (zQ σ r0 44) (nI 0).toNatClampNeg)) => ?_) (fun (c105 : ¬ (¬ x2 = (zA σ (zQ σ r0 44) (nI 0).toNatClampNeg))) => ?_)
    · replace k := k _ (if_pos c105).symm
      refine zW_s rfl ?_
      exact k
    · replace k := k _ (if_neg c105).symm
      refine zW_s rfl ?_
      refine zW_s rfl ?_
      exact k
  · rw [if_neg c104] at h
    refine zW_s rfl ?_
    refine zW_s rfl ?_
    refine zW_p rfl hp101 ?_
    refine zW_s rfl ?_
    have hp106 := h.1; replace h := h.2
    have hp107 := h.1; replace h := h.2
    refine zW_p rfl ⟨hp106, hp107⟩ ?_
    refine zW_c rfl hp101 (zM_m h ?_)
    intro r σ108 h
    replace h := zqv_e h
    obtain ⟨rfl, h⟩ := h
    refine zW_s rfl ?_
    have hp109 := h.1; replace h := h.2
    refine zW_c rfl hp109 (zM_m h ?_)
    intro r σ110 h
    replace h := zqi_e h
    obtain ⟨x111, rfl, h⟩ := h
    refine zW_s rfl ?_
    refine zW_if (fun (c112 : x111 = 0) => ?_) (fun (c112 : ¬ (x111 = 0)) => ?_)
    · rw [if_pos c112] at h
      refine zW_s rfl ?_
      have hp113 := h.1; replace h := h.2
      refine zW_p rfl hp113 ?_
      refine zW_s rfl ?_
      have hp114 := h.1; replace h := h.2
      have hp115 := h.1; replace h := h.2
      refine zW_p rfl ⟨hp114, hp115⟩ ?_
      refine zW_s rfl ?_
      refine zW_s rfl ?_
      refine zW_s rfl ?_
      refine zW_if (fun (c116 : 0 ≤ (lg_cmp (zB σ110 (zQ σ110 r0 43) x5.toNatClampNeg) y3)) => ?_) (fun (c116 : ¬ (0 ≤ (lg_cmp (zB σ110 (zQ σ110 r0 43) x5.toNatClampNeg) y3))) => ?_)
      · rw [if_pos c116] at h
        refine zW_s rfl ?_
        refine zW_s rfl ?_
        refine zW_s rfl ?_
        refine zW_s rfl ?_
        exact h
      · rw [if_neg c116] at h
        refine zW_s rfl ?_
        refine zW_p rfl hp113 ?_
        refine zW_s rfl ?_
        refine zW_p rfl ⟨hp114, hp115⟩ ?_
        refine zW_s rfl ?_
        refine zW_s rfl ?_
        refine zW_s rfl ?_
        refine zW_s rfl ?_
        exact h
    · rw [if_neg c112] at h
      refine zW_s rfl ?_
      refine zW_s rfl ?_
      refine zW_s rfl ?_
      refine zW_s rfl ?_
      exact h
set_option maxHeartbeats 4000000 in
theorem b193 {d : Nat} {r0 : Nat} {σ : zH} {Q : Option Value → zH → Prop} (h : (zK σ r0 = 13) ∧ zM d 192 [.ref r0, .ref (zQ σ r0 9)] (zsI σ r0 0 (nI 0)) (fun r σ102 => zqi r (fun x103 => (zK σ102 r0 = 13) ∧ Q (some (.int (zI (zsI (zsI (zsI (zsI σ102 r0 52 x103) r0 51 (nI 1)) r0 53 (zI (zsI (zsI σ102 r0 52 x103) r0 51 (nI 1)) r0 48)) r0 54 (zI (zsI (zsI (zsI σ102 r0 52 x103) r0 51 (nI 1)) r0 53 (zI (zsI (zsI σ102 r0 52 x103) r0 51 (nI 1)) r0 48)) r0 49)) r0 52))) (zsJ (zsI (zsI (zsI (zsI σ102 r0 52 x103) r0 51 (nI 1)) r0 53 (zI (zsI (zsI σ102 r0 52 x103) r0 51 (nI 1)) r0 48)) r0 54 (zI (zsI (zsI (zsI σ102 r0 52 x103) r0 51 (nI 1)) r0 53 (zI (zsI (zsI σ102 r0 52 x103) r0 51 (nI 1)) r0 48)) r0 49)) r0 55 (zJ σ102 r0 50))))) : zM (d + 1) 193 [.ref r0] σ Q := by
  unfold zM
  refine zW_s rfl ?_
  refine zW_s rfl ?_
  have hp101 := h.1; replace h := h.2
  refine zW_p rfl hp101 ?_
  refine zW_s rfl ?_
  refine zW_s rfl ?_
  refine zW_s rfl ?_
  refine zW_p rfl hp101 ?_
  refine zW_c rfl hp101 (zM_m h ?_)
  intro r σ102 h
  replace h := zqi_e h
  obtain ⟨x103, rfl, h⟩ := h
  have hp104 := h.1; replace h := h.2
  refine zW_p rfl hp104 ?_
  refine zW_s rfl ?_
  refine zW_s rfl ?_
  refine zW_p rfl ⟨hp104, by decide⟩ ?_
  refine zW_s rfl ?_
  refine zW_s rfl ?_
  refine zW_p rfl hp104 ?_
  refine zW_p rfl hp104 ?_
  refine zW_s rfl ?_
  refine zW_s rfl ?_
  refine zW_p rfl hp104 ?_
  refine zW_p rfl hp104 ?_
  refine zW_s rfl ?_
  refine zW_s rfl ?_
  refine zW_p rfl hp104 ?_
  refine zW_p rfl hp104 ?_
  refine zW_s rfl ?_
  refine zW_p rfl hp104 ?_
  refine zW_r rfl trivial ?_
  exact h
set_option maxHeartbeats 4000000 in
theorem b194 {d : Nat} {r0 : Nat} {y1 : Int64} {σ : zH} {Q : Option Value → zH → Prop} (h : zW (d) 194 2 [(1, .long y1), (3, .int (nI 0))] [] σ Q) : zM (d) 194 [.ref r0, .long y1] σ Q := by
  unfold zM
  refine zW_s rfl ?_
  refine zW_s rfl ?_
  refine zW_k [1, 2] rfl ?_
  exact h
set_option maxHeartbeats 4000000 in
theorem b194_2 {d : Nat} {y1 : Int64} {x3 : Int32} {σ : zH} {Q : Option Value → zH → Prop} (h : (if (nI 8) ≤ x3 then Q (some (.int x3)) σ else (if (lg_cmp ((zlsr y1 ((nI 56) - ((nI 8) * x3))) &&& (lN 255)) (lN 0)) = 0 then Q (some (.int x3)) σ else zW (d) 194 2 [(1, .long y1), (3, .int (x3 + nI 1))] [] σ Q))) : zW (d) 194 2 [(1, .long y1), (3, .int x3)] [] σ Q := by
  refine zW_s rfl ?_
  refine zW_s rfl ?_
  refine zW_s rfl ?_
  refine zW_if (fun (c101 : (nI 8) ≤ x3) => ?_) (fun (c101 : ¬ ((nI 8) ≤ x3)) => ?_)
  · rw [if_pos c101] at h
    refine zW_s rfl ?_
    refine zW_r rfl trivial ?_
    exact h
  · rw [if_neg c101] at h
    refine zW_s rfl ?_
    refine zW_s rfl ?_
    refine zW_s rfl ?_
    refine zW_s rfl ?_
    refine zW_s rfl ?_
    refine zW_s rfl ?_
    refine zW_s rfl ?_
    refine zW_s rfl ?_
    refine zW_s rfl ?_
    refine zW_s rfl ?_
    refine zW_s rfl ?_
    refine zW_s rfl ?_
    refine zW_if (fun (c102 : (lg_cmp ((zlsr y1 ((nI 56) - ((nI 8) * x3))) &&& (lN 255)) (lN 0)) = 0) => ?_) (fun (c102 : ¬ ((lg_cmp ((zlsr y1 ((nI 56) - ((nI 8) * x3))) &&& (lN 255)) (lN 0)) = 0)) => ?_)
    · rw [if_pos c102] at h
      refine zW_s rfl ?_
      refine zW_r rfl trivial ?_
      exact h
    · rw [if_neg c102] at h
      refine zW_s rfl ?_
      refine zW_s rfl ?_
      exact h
set_option maxHeartbeats 4000000 in
theorem b195 {d : Nat} {r0 : Nat} {x1 : Int32} {σ : zH} {Q : Option Value → zH → Prop} (h : (zK σ r0 = 13) ∧ (if (zI (zsI σ r0 0 (nI 0)) r0 51) = 0 then Q (some (.int (-1))) (zsI σ r0 0 (nI 0)) else (if ¬ (zI (zsI σ r0 0 (nI 0)) r0 52) = (nI 2) then (if ¬ x1 = 0 then (if ¬ x1 = (nI 1) then (if ¬ x1 = (nI 2) then Q (some (.int (-1))) (zsI σ r0 0 (nI 0)) else (if ¬ (zI (zsI σ r0 0 (nI 0)) r0 52) = (nI 1) then Q (some (.int (-1))) (zsI σ r0 0 (nI 0)) else zM d 194 [.ref r0, .long (zJ σ r0 55)] (zsI σ r0 0 (nI 0)) (fun r σ108 => zqi r (fun x109 => Q (some (.int x109)) σ108)))) else Q (some (.int (zI (zsI σ r0 0 (nI 0)) r0 54))) (zsI σ r0 0 (nI 0))) else Q (some (.int (zI (zsI σ r0 0 (nI 0)) r0 53))) (zsI σ r0 0 (nI 0))) else Q (some (.int (-1))) (zsI σ r0 0 (nI 0))))) : zM (d + 1) 195 [.ref r0, .int x1] σ Q := by
  unfold zM
  refine zW_s rfl ?_
  refine zW_s rfl ?_
  have hp101 := h.1; replace h := h.2
  refine zW_p rfl hp101 ?_
  refine zW_s rfl ?_
  refine zW_p rfl hp101 ?_
  refine zW_s rfl ?_
  refine zW_if (fun (c102 : (zI (zsI σ r0 0 (nI 0)) r0 51) = 0) => ?_) (fun (c102 : ¬ ((zI (zsI σ r0 0 (nI 0)) r0 51) = 0)) => ?_)
  · rw [if_pos c102] at h
    refine zW_s rfl ?_
    refine zW_r rfl trivial ?_
    exact h
  · rw [if_neg c102] at h
    refine zW_s rfl ?_
    refine zW_p rfl hp101 ?_
    refine zW_s rfl ?_
    refine zW_s rfl ?_
    refine zW_if (fun (c103 : ¬ (zI (zsI σ r0 0 (nI 0)) r0 52) = (nI 2)) => ?_) (fun (c103 : ¬ (¬ (zI (zsI σ r0 0 (nI 0)) r0 52) = (nI 2))) => ?_)
    · rw [if_pos c103] at h
      refine zW_s rfl ?_
      refine zW_s rfl ?_
      refine zW_if (fun (c104 : ¬ x1 = 0) => ?_) (fun (c104 : ¬ (¬ x1 = 0)) => ?_)
      · rw [if_pos c104] at h
        refine zW_s rfl ?_
        refine zW_s rfl ?_
        refine zW_s rfl ?_
        refine zW_if (fun (c105 : ¬ x1 = (nI 1)) => ?_) (fun (c105 : ¬ (¬ x1 = (nI 1))) => ?_)
        · rw [if_pos c105] at h
          refine zW_s rfl ?_
          refine zW_s rfl ?_
          refine zW_s rfl ?_
          refine zW_if (fun (c106 : ¬ x1 = (nI 2)) => ?_) (fun (c106 : ¬ (¬ x1 = (nI 2))) => ?_)
          · rw [if_pos c106] at h
            refine zW_s rfl ?_
            refine zW_r rfl trivial ?_
            exact h
          · rw [if_neg c106] at h
            refine zW_s rfl ?_
            refine zW_p rfl hp101 ?_
            refine zW_s rfl ?_
            refine zW_s rfl ?_
            refine zW_if (fun (c107 : ¬ (zI (zsI σ r0 0 (nI 0)) r0 52) = (nI 1)) => ?_) (fun (c107 : ¬ (¬ (zI (zsI σ r0 0 (nI 0)) r0 52) = (nI 1))) => ?_)
            · rw [if_pos c107] at h
              refine zW_s rfl ?_
              refine zW_r rfl trivial ?_
              exact h
            · rw [if_neg c107] at h
              refine zW_s rfl ?_
              refine zW_s rfl ?_
              refine zW_p rfl hp101 ?_
              refine zW_c rfl hp101 (zM_m h ?_)
              intro r σ108 h
              replace h := zqi_e h
              obtain ⟨x109, rfl, h⟩ := h
              refine zW_s rfl ?_
              refine zW_r rfl trivial ?_
              exact h
        · rw [if_neg c105] at h
          refine zW_s rfl ?_
          refine zW_p rfl hp101 ?_
          refine zW_r rfl trivial ?_
          exact h
      · rw [if_neg c104] at h
        refine zW_s rfl ?_
        refine zW_p rfl hp101 ?_
        refine zW_r rfl trivial ?_
        exact h
    · rw [if_neg c103] at h
      refine zW_s rfl ?_
      refine zW_r rfl trivial ?_
      exact h
set_option maxHeartbeats 4000000 in
theorem b196 {d : Nat} {r0 : Nat} {x1 : Int32} {σ : zH} {Q : Option Value → zH → Prop} (h : (zK σ r0 = 13) ∧ (if (zI (zsI σ r0 0 (nI 0)) r0 51) = 0 then Q (some (.int (-1))) (zsI σ r0 0 (nI 0)) else (if ¬ (zI (zsI σ r0 0 (nI 0)) r0 52) = (nI 1) then Q (some (.int (-1))) (zsI σ r0 0 (nI 0)) else (if x1 < 0 then Q (some (.int (-1))) (zsI σ r0 0 (nI 0)) else zM d 194 [.ref r0, .long (zJ σ r0 55)] (zsI σ r0 0 (nI 0)) (fun r σ105 => zqi r (fun x106 => (if x1 < x106 then (zK σ105 r0 = 13) ∧ Q (some (.int ((((zlsr (zJ σ105 r0 55) ((nI 56) - ((nI 8) * x1))) &&& (lN 255)).toInt32) - (nI 1)))) σ105 else Q (some (.int (-1))) σ105))))))) : zM (d + 1) 196 [.ref r0, .int x1] σ Q := by
  unfold zM
  refine zW_s rfl ?_
  refine zW_s rfl ?_
  have hp101 := h.1; replace h := h.2
  refine zW_p rfl hp101 ?_
  refine zW_s rfl ?_
  refine zW_p rfl hp101 ?_
  refine zW_s rfl ?_
  refine zW_if (fun (c102 : (zI (zsI σ r0 0 (nI 0)) r0 51) = 0) => ?_) (fun (c102 : ¬ ((zI (zsI σ r0 0 (nI 0)) r0 51) = 0)) => ?_)
  · rw [if_pos c102] at h
    refine zW_s rfl ?_
    refine zW_r rfl trivial ?_
    exact h
  · rw [if_neg c102] at h
    refine zW_s rfl ?_
    refine zW_p rfl hp101 ?_
    refine zW_s rfl ?_
    refine zW_s rfl ?_
    refine zW_if (fun (c103 : ¬ (zI (zsI σ r0 0 (nI 0)) r0 52) = (nI 1)) => ?_) (fun (c103 : ¬ (¬ (zI (zsI σ r0 0 (nI 0)) r0 52) = (nI 1))) => ?_)
    · rw [if_pos c103] at h
      refine zW_s rfl ?_
      refine zW_r rfl trivial ?_
      exact h
    · rw [if_neg c103] at h
      refine zW_s rfl ?_
      refine zW_s rfl ?_
      refine zW_if (fun (c104 : x1 < 0) => ?_) (fun (c104 : ¬ (x1 < 0)) => ?_)
      · rw [if_pos c104] at h
        refine zW_s rfl ?_
        refine zW_r rfl trivial ?_
        exact h
      · rw [if_neg c104] at h
        refine zW_s rfl ?_
        refine zW_s rfl ?_
        refine zW_s rfl ?_
        refine zW_p rfl hp101 ?_
        refine zW_c rfl hp101 (zM_m h ?_)
        intro r σ105 h
        replace h := zqi_e h
        obtain ⟨x106, rfl, h⟩ := h
        refine zW_s rfl ?_
        refine zW_if (fun (c107 : x1 < x106) => ?_) (fun (c107 : ¬ (x1 < x106)) => ?_)
        · rw [if_pos c107] at h
          refine zW_s rfl ?_
          have hp108 := h.1; replace h := h.2
          refine zW_p rfl hp108 ?_
          refine zW_s rfl ?_
          refine zW_s rfl ?_
          refine zW_s rfl ?_
          refine zW_s rfl ?_
          refine zW_s rfl ?_
          refine zW_s rfl ?_
          refine zW_s rfl ?_
          refine zW_s rfl ?_
          refine zW_s rfl ?_
          refine zW_s rfl ?_
          refine zW_s rfl ?_
          refine zW_r rfl trivial ?_
          exact h
        · rw [if_neg c107] at h
          refine zW_s rfl ?_
          refine zW_r rfl trivial ?_
          exact h
set_option maxHeartbeats 4000000 in
theorem b197 {d : Nat} {r0 : Nat} {σ : zH} {Q : Option Value → zH → Prop} (h : (zK σ r0 = 13) ∧ zM d 136 [.ref r0, .ref (zQ σ r0 9)] (zsI (zsI (zsI (zsI (zsI (zsI σ r0 0 (nI 0)) r0 61 (zI (zsI σ r0 0 (nI 0)) r0 2)) r0 2 (nI 0)) r0 59 (nI 0)) r0 60 (nI 0)) r0 57 (nI 0)) (fun r σ102 => zqv r ((zK σ102 r0 = 13) ∧ zM d 198 [.ref r0, .int (nI 0), .int (zI σ102 r0 30)] σ102 (fun r σ104 => zqv r ((zK σ104 r0 = 13) ∧ zM d 137 [.ref r0] σ104 (fun r σ106 => zql r (fun x107 => (zK σ106 r0 = 13) ∧ Q (some (.int (if (zI (zsI σ106 r0 56 (nI 1)) r0 57) = 0 then zI (zsI σ106 r0 56 (nI 1)) r0 60 else (-1) - (zI (zsI σ106 r0 56 (nI 1)) r0 60)))) (zsI (zsJ σ106 r0 58 x107) r0 56 (nI 1))))))))) : zM (d + 1) 197 [.ref r0] σ Q := by
  unfold zM
  refine zW_s rfl ?_
  refine zW_s rfl ?_
  have hp101 := h.1; replace h := h.2
  refine zW_p rfl hp101 ?_
  refine zW_s rfl ?_
  refine zW_s rfl ?_
  refine zW_p rfl hp101 ?_
  refine zW_p rfl hp101 ?_
  refine zW_s rfl ?_
  refine zW_s rfl ?_
  refine zW_p rfl hp101 ?_
  refine zW_s rfl ?_
  refine zW_s rfl ?_
  refine zW_p rfl hp101 ?_
  refine zW_s rfl ?_
  refine zW_s rfl ?_
  refine zW_p rfl hp101 ?_
  refine zW_s rfl ?_
  refine zW_s rfl ?_
  refine zW_p rfl ⟨hp101, by decide⟩ ?_
  refine zW_s rfl ?_
  refine zW_s rfl ?_
  refine zW_p rfl hp101 ?_
  refine zW_c rfl hp101 (zM_m h ?_)
  intro r σ102 h
  replace h := zqv_e h
  obtain ⟨rfl, h⟩ := h
  refine zW_s rfl ?_
  refine zW_s rfl ?_
  refine zW_s rfl ?_
  have hp103 := h.1; replace h := h.2
  refine zW_p rfl hp103 ?_
  refine zW_c rfl hp103 (zM_m h ?_)
  intro r σ104 h
  replace h := zqv_e h
  obtain ⟨rfl, h⟩ := h
  refine zW_s rfl ?_
  refine zW_s rfl ?_
  have hp105 := h.1; replace h := h.2
  refine zW_c rfl hp105 (zM_m h ?_)
  intro r σ106 h
  replace h := zql_e h
  obtain ⟨x107, rfl, h⟩ := h
  have hp108 := h.1; replace h := h.2
  refine zW_p rfl hp108 ?_
  refine zW_s rfl ?_
  refine zW_s rfl ?_
  refine zW_p rfl ⟨hp108, by decide⟩ ?_
  refine zW_s rfl ?_
  refine zW_p rfl hp108 ?_
  refine zW_s rfl ?_
  have k : ∀ v : Int32, v = (if (zI (zsI σ106 r0 56 (nI 1)) r0 57) = 0 then zI (zsI σ106 r0 56 (nI 1)) r0 60 else (-1) - (zI (zsI σ106 r0 56 (nI 1)) r0 60)) → zW (d + 1) 197 83 [(0, .ref r0)] [.int v] (zsI (zsJ σ106 r0 58 x107) r0 56 (nI 1)) Q := by
    intro v hv
    subst hv
    refine zW_r rfl trivial ?_
    exact h
  refine zW_if (fun (c109 : (zI (zsI σ106 r0 56 (nI 1)) r0 57) = 0) => ?_) (fun (c109 : ¬ ((zI (zsI σ106 r0 56 (nI 1)) r0 57) = 0)) => ?_)
  · replace k := k _ (if_pos c109).symm
    refine zW_s rfl ?_
    refine zW_p rfl hp108 ?_
    exact k
  · replace k := k _ (if_neg c109).symm
    refine zW_s rfl ?_
    refine zW_s rfl ?_
    refine zW_p rfl hp108 ?_
    refine zW_s rfl ?_
    refine zW_s rfl ?_
    exact k
set_option maxHeartbeats 4000000 in
theorem b198 {d : Nat} {r0 : Nat} {x1 : Int32} {x2 : Int32} {σ : zH} {Q : Option Value → zH → Prop} (h : zW (d + 1) 198 2 [(0, .ref r0), (2, .int x2), (3, .int x1)] [] σ Q) : zM (d + 1) 198 [.ref r0, .int x1, .int x2] σ Q := by
  unfold zM
  refine zW_s rfl ?_
  refine zW_s rfl ?_
  refine zW_k [0, 2, 3] rfl ?_
  exact h
set_option maxHeartbeats 4000000 in
theorem b198_2 {d : Nat} {r0 : Nat} {x2 : Int32} {x3 : Int32} {σ : zH} {Q : Option Value → zH → Prop} (h : (if x2 ≤ x3 then Q none σ else (zK σ r0 = 13) ∧ (if ¬ (zI σ r0 57) = 0 then Q none σ else (zK σ (zQ σ r0 21) = 21) ∧ (vp_in (((nI 48) * (zI σ r0 29)) + x3) (zN σ (zQ σ r0 21))) ∧ (if ¬ (lg_cmp (zB σ (zQ σ r0 21) (((nI 48) * (zI σ r0 29)) + x3).toNatClampNeg) (lN 499984983411)) = 0 then (if ¬ (lg_cmp (zB σ (zQ σ r0 21) (((nI 48) * (zI σ r0 29)) + x3).toNatClampNeg) (lN 26982)) = 0 then zM d 175 [.ref r0, .int (((nI 48) * (zI σ r0 29)) + x3)] σ (fun r σ108 => zqi r (fun x109 => (if x109 ≤ 0 then (zK σ108 r0 = 13) ∧ zM d 179 [.ref r0, .int (((nI 48) * (zI σ r0 29)) + x3), .int (nI 0)] σ108 (fun r σ112 => zqv r (zW (d + 1) 198 274 [(0, .ref r0), (2, .int x2), (3, .int (x3 + nI 1))] [] σ112 Q)) else (zK σ108 r0 = 13) ∧ (if (zI σ108 r0 59) = (zI σ108 r0 61) then zW (d + 1) 198 225 [(0, .ref r0), (2, .int x2), (3, .int x3), (4, .int (((nI 48) * (zI σ r0 29)) + x3))] [.int (nI 1), .ref r0] σ108 Q else (zK σ108 (zQ σ108 r0 1) = 22) ∧ (vp_in (zI σ108 r0 59) (zN σ108 (zQ σ108 r0 1))) ∧ (if (zI (zsI σ108 r0 57 (if ((zA σ108 (zQ σ108 r0 1) (zI σ108 r0 59).toNatClampNeg) &&& (nI 255)) < x109 then nI 0 else nI 1)) r0 57) = 0 then (vp_in (zI (zsI σ108 r0 57 (if ((zA σ108 (zQ σ108 r0 1) (zI σ108 r0 59).toNatClampNeg) &&& (nI 255)) < x109 then nI 0 else nI 1)) r0 59) (zN σ108 (zQ σ108 r0 1))) ∧ zM d 179 [.ref r0, .int (((nI 48) * (zI σ r0 29)) + x3), .int ((zA σ108 (zQ σ108 r0 1) (zI (zsI σ108 r0 57 (if ((zA σ108 (zQ σ108 r0 1) (zI σ108 r0 59).toNatClampNeg) &&& (nI 255)) < x109 then nI 0 else nI 1)) r0 59).toNatClampNeg) &&& (nI 255))] (zsI (zsI σ108 r0 57 (if ((zA σ108 (zQ σ108 r0 1) (zI σ108 r0 59).toNatClampNeg) &&& (nI 255)) < x109 then nI 0 else nI 1)) r0 59 ((zI (zsI σ108 r0 57 (if ((zA σ108 (zQ σ108 r0 1) (zI σ108 r0 59).toNatClampNeg) &&& (nI 255)) < x109 then nI 0 else nI 1)) r0 59) + (nI 1))) (fun r σ120 => zqv r (zW (d + 1) 198 274 [(0, .ref r0), (2, .int x2), (3, .int (x3 + nI 1))] [] σ120 Q)) else zW (d + 1) 198 2 [(0, .ref r0), (2, .int x2), (3, .int x3)] [] (zsI σ108 r0 57 (if ((zA σ108 (zQ σ108 r0 1) (zI σ108 r0 59).toNatClampNeg) &&& (nI 255)) < x109 then nI 0 else nI 1)) Q))))) else (zK σ (zQ σ r0 26) = 20) ∧ (vp_in (((nI 48) * (zI σ r0 29)) + x3) (zN σ (zQ σ r0 26))) ∧ zM d 172 [.ref r0, .int (zA σ (zQ σ r0 26) (((nI 48) * (zI σ r0 29)) + x3).toNatClampNeg)] σ (fun r σ123 => zqi r (fun x124 => (if x124 = 0 then (zK σ123 r0 = 13) ∧ (zK σ123 (zQ σ123 r0 27) = 20) ∧ (vp_in (((nI 48) * (zI σ r0 29)) + x3) (zN σ123 (zQ σ123 r0 27))) ∧ zW (d + 1) 198 138 [(0, .ref r0), (2, .int x2), (4, .int (((nI 48) * (zI σ r0 29)) + x3)), (5, .int x124)] [.int (zA σ123 (zQ σ123 r0 27) (((nI 48) * (zI σ r0 29)) + x3).toNatClampNeg), .ref r0] σ123 Q else zW (d + 1) 198 138 [(0, .ref r0), (2, .int x2), (4, .int (((nI 48) * (zI σ r0 29)) + x3)), (5, .int x124)] [.int (x3 + (nI 1)), .ref r0] σ123 Q)))) else zW (d + 1) 198 42 [(0, .ref r0), (2, .int x2), (3, .int x3), (4, .int (((nI 48) * (zI σ r0 29)) + x3)), (5, .int (nI 0))] [] σ Q)))) : zW (d + 1) 198 2 [(0, .ref r0), (2, .int x2), (3, .int x3)] [] σ Q := by
  refine zW_s rfl ?_
  refine zW_s rfl ?_
  refine zW_s rfl ?_
  refine zW_if (fun (c101 : x2 ≤ x3) => ?_) (fun (c101 : ¬ (x2 ≤ x3)) => ?_)
  · rw [if_pos c101] at h
    refine zW_r rfl trivial ?_
    exact h
  · rw [if_neg c101] at h
    refine zW_s rfl ?_
    have hp102 := h.1; replace h := h.2
    refine zW_p rfl hp102 ?_
    refine zW_s rfl ?_
    refine zW_if (fun (c103 : ¬ (zI σ r0 57) = 0) => ?_) (fun (c103 : ¬ (¬ (zI σ r0 57) = 0)) => ?_)
    · rw [if_pos c103] at h
      refine zW_r rfl trivial ?_
      exact h
    · rw [if_neg c103] at h
      refine zW_s rfl ?_
      refine zW_s rfl ?_
      refine zW_p rfl hp102 ?_
      refine zW_s rfl ?_
      refine zW_s rfl ?_
      refine zW_s rfl ?_
      refine zW_s rfl ?_
      refine zW_s rfl ?_
      refine zW_p rfl hp102 ?_
      refine zW_s rfl ?_
      have hp104 := h.1; replace h := h.2
      have hp105 := h.1; replace h := h.2
      refine zW_p rfl ⟨hp104, hp105⟩ ?_
      refine zW_s rfl ?_
      refine zW_s rfl ?_
      refine zW_s rfl ?_
      refine zW_if (fun (c106 : ¬ (lg_cmp (zB σ (zQ σ r0 21) (((nI 48) * (zI σ r0 29)) + x3).toNatClampNeg) (lN 499984983411)) = 0) => ?_) (fun (c106 : ¬ (¬ (lg_cmp (zB σ (zQ σ r0 21) (((nI 48) * (zI σ r0 29)) + x3).toNatClampNeg) (lN 499984983411)) = 0)) => ?_)
      · rw [if_pos c106] at h
        refine zW_s rfl ?_
        refine zW_p rfl hp102 ?_
        refine zW_s rfl ?_
        refine zW_p rfl ⟨hp104, hp105⟩ ?_
        refine zW_s rfl ?_
        refine zW_s rfl ?_
        refine zW_s rfl ?_
        refine zW_if (fun (c107 : ¬ (lg_cmp (zB σ (zQ σ r0 21) (((nI 48) * (zI σ r0 29)) + x3).toNatClampNeg) (lN 26982)) = 0) => ?_) (fun (c107 : ¬ (¬ (lg_cmp (zB σ (zQ σ r0 21) (((nI 48) * (zI σ r0 29)) + x3).toNatClampNeg) (lN 26982)) = 0)) => ?_)
        · rw [if_pos c107] at h
          refine zW_s rfl ?_
          refine zW_s rfl ?_
          refine zW_c rfl hp102 (zM_m h ?_)
          intro r σ108 h
          replace h := zqi_e h
          obtain ⟨x109, rfl, h⟩ := h
          refine zW_s rfl ?_
          refine zW_s rfl ?_
          refine zW_s rfl ?_
          refine zW_s rfl ?_
          refine zW_s rfl ?_
          refine zW_if (fun (c110 : x109 ≤ 0) => ?_) (fun (c110 : ¬ (x109 ≤ 0)) => ?_)
          · rw [if_pos c110] at h
            refine zW_s rfl ?_
            refine zW_s rfl ?_
            refine zW_s rfl ?_
            have hp111 := h.1; replace h := h.2
            refine zW_c rfl hp111 (zM_m h ?_)
            intro r σ112 h
            replace h := zqv_e h
            obtain ⟨rfl, h⟩ := h
            refine zW_s rfl ?_
            refine zW_k [0, 1, 2] rfl ?_
            exact h
          · rw [if_neg c110] at h
            refine zW_s rfl ?_
            refine zW_s rfl ?_
            have hp113 := h.1; replace h := h.2
            refine zW_p rfl hp113 ?_
            refine zW_s rfl ?_
            refine zW_p rfl hp113 ?_
            refine zW_s rfl ?_
            refine zW_if (fun (c114 : (zI σ108 r0 59) = (zI σ108 r0 61)) => ?_) (fun (c114 : ¬ ((zI σ108 r0 59) = (zI σ108 r0 61))) => ?_)
            · rw [if_pos c114] at h
              refine zW_s rfl ?_
              refine zW_s rfl ?_
              refine zW_k [0, 1, 2, 3] rfl ?_
              exact h
            · rw [if_neg c114] at h
              refine zW_s rfl ?_
              refine zW_p rfl hp113 ?_
              refine zW_s rfl ?_
              refine zW_p rfl hp113 ?_
              have hp115 := h.1; replace h := h.2
              have hp116 := h.1; replace h := h.2
              refine zW_p rfl ⟨hp115, hp116⟩ ?_
              refine zW_s rfl ?_
              refine zW_s rfl ?_
              refine zW_s rfl ?_
              refine zW_s rfl ?_
              have k : ∀ v : Int32, v = (if ((zA σ108 (zQ σ108 r0 1) (zI σ108 r0 59).toNatClampNeg) &&& (nI 255)) < x109 then nI 0 else nI 1) → zW (d + 1) 198 225 [(0, .ref r0), (2, .int x2), (3, .int x3), (4, .int (((nI 48) * (zI σ r0 29)) + x3)), (5, .int x109), (6, .int (nI 0))] [.int v, .ref r0] σ108 Q := by
                intro v hv
                subst hv
                refine zW_p rfl ⟨hp113, zb01⟩ ?_
                refine zW_s rfl ?_
                refine zW_p rfl hp113 ?_
                refine zW_s rfl ?_
                refine zW_if (fun (c118 : (zI (zsI σ108 r0 57 (if ((zA σ108 (zQ σ108 r0 1) (zI σ108 r0 59).toNatClampNeg) &&& (nI 255)) < x109 then nI 0 else nI 1)) r0 57) = 0) => ?_) (fun (c118 : ¬ ((zI (zsI σ108 r0 57 (if ((zA σ108 (zQ σ108 r0 1) (zI σ108 r0 59).toNatClampNeg) &&& (nI 255)) < x109 then nI 0 else nI 1)) r0 57) = 0)) => ?_)
                · rw [if_pos c118] at h
                  refine zW_s rfl ?_
                  refine zW_p rfl hp113 ?_
                  refine zW_s rfl ?_
                  refine zW_p rfl hp113 ?_
                  have hp119 := h.1; replace h := h.2
                  refine zW_p rfl ⟨hp115, hp119⟩ ?_
                  refine zW_s rfl ?_
                  refine zW_s rfl ?_
                  refine zW_s rfl ?_
                  refine zW_s rfl ?_
                  refine zW_s rfl ?_
                  refine zW_p rfl hp113 ?_
                  refine zW_s rfl ?_
                  refine zW_s rfl ?_
                  refine zW_p rfl hp113 ?_
                  refine zW_s rfl ?_
                  refine zW_s rfl ?_
                  refine zW_s rfl ?_
                  refine zW_c rfl hp113 (zM_m h ?_)
                  intro r σ120 h
                  replace h := zqv_e h
                  obtain ⟨rfl, h⟩ := h
                  refine zW_s rfl ?_
                  refine zW_k [0, 1, 2] rfl ?_
                  exact h
                · rw [if_neg c118] at h
                  refine zW_s rfl ?_
                  refine zW_k [0, 1, 2] rfl ?_
                  exact h
              refine zW_if (fun (c117 : ((zA σ108 (zQ σ108 r0 1) (zI σ108 r0 59).toNatClampNeg) &&& (nI 255)) < x109) => ?_) (fun (c117 : ¬ (((zA σ108 (zQ σ108 r0 1) (zI σ108 r0 59).toNatClampNeg) &&& (nI 255)) < x109)) => ?_)
              · replace k := k _ (if_pos c117).symm
                refine zW_s rfl ?_
                exact k
              · replace k := k _ (if_neg c117).symm
                refine zW_s rfl ?_
                refine zW_s rfl ?_
                exact k
        · rw [if_neg c107] at h
          refine zW_s rfl ?_
          refine zW_s rfl ?_
          refine zW_p rfl hp102 ?_
          refine zW_s rfl ?_
          have hp121 := h.1; replace h := h.2
          have hp122 := h.1; replace h := h.2
          refine zW_p rfl ⟨hp121, hp122⟩ ?_
          refine zW_c rfl hp102 (zM_m h ?_)
          intro r σ123 h
          replace h := zqi_e h
          obtain ⟨x124, rfl, h⟩ := h
          refine zW_s rfl ?_
          refine zW_s rfl ?_
          refine zW_s rfl ?_
          refine zW_s rfl ?_
          refine zW_if (fun (c125 : x124 = 0) => ?_) (fun (c125 : ¬ (x124 = 0)) => ?_)
          · rw [if_pos c125] at h
            refine zW_s rfl ?_
            have hp126 := h.1; replace h := h.2
            refine zW_p rfl hp126 ?_
            refine zW_s rfl ?_
            have hp127 := h.1; replace h := h.2
            have hp128 := h.1; replace h := h.2
            refine zW_p rfl ⟨hp127, hp128⟩ ?_
            refine zW_k [0, 1, 3, 4] rfl ?_
            exact h
          · rw [if_neg c125] at h
            refine zW_s rfl ?_
            refine zW_s rfl ?_
            refine zW_s rfl ?_
            refine zW_s rfl ?_
            refine zW_k [0, 1, 3, 4] rfl ?_
            exact h
      · rw [if_neg c106] at h
        refine zW_s rfl ?_
        refine zW_s rfl ?_
        exact h
set_option maxHeartbeats 4000000 in
theorem b198_274 {d : Nat} {r0 : Nat} {x2 : Int32} {x3 : Int32} {σ : zH} {Q : Option Value → zH → Prop} (h : (zK σ r0 = 13) ∧ (if ¬ (zI σ r0 57) = 0 then zW (d + 1) 198 2 [(0, .ref r0), (2, .int x2), (3, .int x3)] [] σ Q else zW (d + 1) 198 2 [(0, .ref r0), (2, .int x2), (3, .int x3)] [] (zsI σ r0 60 ((zI σ r0 60) + (nI 1))) Q)) : zW (d + 1) 198 274 [(0, .ref r0), (2, .int x2), (3, .int x3)] [] σ Q := by
  refine zW_s rfl ?_
  have hp101 := h.1; replace h := h.2
  refine zW_p rfl hp101 ?_
  refine zW_s rfl ?_
  refine zW_if (fun (c102 : ¬ (zI σ r0 57) = 0) => ?_) (fun (c102 : ¬ (¬ (zI σ r0 57) = 0)) => ?_)
  · rw [if_pos c102] at h
    refine zW_s rfl ?_
    exact h
  · rw [if_neg c102] at h
    refine zW_s rfl ?_
    refine zW_s rfl ?_
    refine zW_p rfl hp101 ?_
    refine zW_s rfl ?_
    refine zW_s rfl ?_
    refine zW_p rfl hp101 ?_
    refine zW_s rfl ?_
    exact h
set_option maxHeartbeats 4000000 in
theorem b198_225 {d : Nat} {r0 : Nat} {x2 : Int32} {x3 : Int32} {x4 : Int32} {v0 : Int32} {v1 : Nat} {σ : zH} {Q : Option Value → zH → Prop} (h : (zK σ v1 = 13) ∧ (v0 = 0 ∨ v0 = 1) ∧ (zK σ r0 = 13) ∧ (if (zI (zsI σ v1 57 v0) r0 57) = 0 then (zK σ (zQ σ r0 1) = 22) ∧ (vp_in (zI (zsI σ v1 57 v0) r0 59) (zN σ (zQ σ r0 1))) ∧ zM d 179 [.ref r0, .int x4, .int ((zA σ (zQ σ r0 1) (zI (zsI σ v1 57 v0) r0 59).toNatClampNeg) &&& (nI 255))] (zsI (zsI σ v1 57 v0) r0 59 ((zI (zsI σ v1 57 v0) r0 59) + (nI 1))) (fun r σ107 => zqv r (zW (d + 1) 198 274 [(0, .ref r0), (2, .int x2), (3, .int (x3 + nI 1))] [] σ107 Q)) else zW (d + 1) 198 2 [(0, .ref r0), (2, .int x2), (3, .int x3)] [] (zsI σ v1 57 v0) Q)) : zW (d + 1) 198 225 [(0, .ref r0), (2, .int x2), (3, .int x3), (4, .int x4)] [.int v0, .ref v1] σ Q := by
  have hp101 := h.1; replace h := h.2
  have hp102 := h.1; replace h := h.2
  refine zW_p rfl ⟨hp101, hp102⟩ ?_
  refine zW_s rfl ?_
  have hp103 := h.1; replace h := h.2
  refine zW_p rfl hp103 ?_
  refine zW_s rfl ?_
  refine zW_if (fun (c104 : (zI (zsI σ v1 57 v0) r0 57) = 0) => ?_) (fun (c104 : ¬ ((zI (zsI σ v1 57 v0) r0 57) = 0)) => ?_)
  · rw [if_pos c104] at h
    refine zW_s rfl ?_
    refine zW_p rfl hp103 ?_
    refine zW_s rfl ?_
    refine zW_p rfl hp103 ?_
    have hp105 := h.1; replace h := h.2
    have hp106 := h.1; replace h := h.2
    refine zW_p rfl ⟨hp105, hp106⟩ ?_
    refine zW_s rfl ?_
    refine zW_s rfl ?_
    refine zW_s rfl ?_
    refine zW_s rfl ?_
    refine zW_s rfl ?_
    refine zW_p rfl hp103 ?_
    refine zW_s rfl ?_
    refine zW_s rfl ?_
    refine zW_p rfl hp103 ?_
    refine zW_s rfl ?_
    refine zW_s rfl ?_
    refine zW_s rfl ?_
    refine zW_c rfl hp103 (zM_m h ?_)
    intro r σ107 h
    replace h := zqv_e h
    obtain ⟨rfl, h⟩ := h
    refine zW_s rfl ?_
    refine zW_k [0, 1, 2] rfl ?_
    exact h
  · rw [if_neg c104] at h
    refine zW_s rfl ?_
    refine zW_k [0, 1, 2] rfl ?_
    exact h
set_option maxHeartbeats 4000000 in
theorem b198_138 {d : Nat} {r0 : Nat} {x2 : Int32} {x4 : Int32} {x5 : Int32} {v0 : Int32} {v1 : Nat} {σ : zH} {Q : Option Value → zH → Prop} (h : (if x5 = 0 then (zK σ r0 = 13) ∧ (zK σ (zQ σ r0 28) = 20) ∧ (vp_in x4 (zN σ (zQ σ r0 28))) ∧ zW (d + 1) 198 160 [(0, .ref r0), (2, .int x2), (4, .int x4)] [.int (zA σ (zQ σ r0 28) x4.toNatClampNeg), .int v0, .ref v1] σ Q else (zK σ r0 = 13) ∧ (zK σ (zQ σ r0 27) = 20) ∧ (vp_in x4 (zN σ (zQ σ r0 27))) ∧ zW (d + 1) 198 160 [(0, .ref r0), (2, .int x2), (4, .int x4)] [.int (zA σ (zQ σ r0 27) x4.toNatClampNeg), .int v0, .ref v1] σ Q)) : zW (d + 1) 198 138 [(0, .ref r0), (2, .int x2), (4, .int x4), (5, .int x5)] [.int v0, .ref v1] σ Q := by
  refine zW_s rfl ?_
  refine zW_s rfl ?_
  refine zW_if (fun (c101 : x5 = 0) => ?_) (fun (c101 : ¬ (x5 = 0)) => ?_)
  · rw [if_pos c101] at h
    refine zW_s rfl ?_
    have hp102 := h.1; replace h := h.2
    refine zW_p rfl hp102 ?_
    refine zW_s rfl ?_
    have hp103 := h.1; replace h := h.2
    have hp104 := h.1; replace h := h.2
    refine zW_p rfl ⟨hp103, hp104⟩ ?_
    refine zW_k [0, 1, 2] rfl ?_
    exact h
  · rw [if_neg c101] at h
    refine zW_s rfl ?_
    have hp105 := h.1; replace h := h.2
    refine zW_p rfl hp105 ?_
    refine zW_s rfl ?_
    have hp106 := h.1; replace h := h.2
    have hp107 := h.1; replace h := h.2
    refine zW_p rfl ⟨hp106, hp107⟩ ?_
    refine zW_s rfl ?_
    refine zW_k [0, 1, 2] rfl ?_
    exact h
set_option maxHeartbeats 4000000 in
theorem b198_42 {d : Nat} {r0 : Nat} {x2 : Int32} {x3 : Int32} {x4 : Int32} {x5 : Int32} {σ : zH} {Q : Option Value → zH → Prop} (h : (zK σ r0 = 13) ∧ (zK σ (zQ σ r0 25) = 20) ∧ (vp_in x4 (zN σ (zQ σ r0 25))) ∧ (if (zA σ (zQ σ r0 25) x4.toNatClampNeg) ≤ x5 then (zK σ (zQ σ r0 28) = 20) ∧ (vp_in x4 (zN σ (zQ σ r0 28))) ∧ zW (d + 1) 198 274 [(0, .ref r0), (2, .int x2), (3, .int (zA σ (zQ σ r0 28) x4.toNatClampNeg))] [] σ Q else (if ¬ (zI σ r0 57) = 0 then (zK σ (zQ σ r0 28) = 20) ∧ (vp_in x4 (zN σ (zQ σ r0 28))) ∧ zW (d + 1) 198 274 [(0, .ref r0), (2, .int x2), (3, .int (zA σ (zQ σ r0 28) x4.toNatClampNeg))] [] σ Q else (zK σ (zQ σ r0 28) = 20) ∧ (vp_in x4 (zN σ (zQ σ r0 28))) ∧ zM d 198 [.ref r0, .int (x3 + (nI 1)), .int (zA σ (zQ σ r0 28) x4.toNatClampNeg)] σ (fun r σ112 => zqv r (zW (d + 1) 198 42 [(0, .ref r0), (2, .int x2), (3, .int x3), (4, .int x4), (5, .int (x5 + nI 1))] [] σ112 Q))))) : zW (d + 1) 198 42 [(0, .ref r0), (2, .int x2), (3, .int x3), (4, .int x4), (5, .int x5)] [] σ Q := by
  refine zW_s rfl ?_
  refine zW_s rfl ?_
  have hp101 := h.1; replace h := h.2
  refine zW_p rfl hp101 ?_
  refine zW_s rfl ?_
  have hp102 := h.1; replace h := h.2
  have hp103 := h.1; replace h := h.2
  refine zW_p rfl ⟨hp102, hp103⟩ ?_
  refine zW_s rfl ?_
  refine zW_if (fun (c104 : (zA σ (zQ σ r0 25) x4.toNatClampNeg) ≤ x5) => ?_) (fun (c104 : ¬ ((zA σ (zQ σ r0 25) x4.toNatClampNeg) ≤ x5)) => ?_)
  · rw [if_pos c104] at h
    refine zW_s rfl ?_
    refine zW_p rfl hp101 ?_
    refine zW_s rfl ?_
    have hp105 := h.1; replace h := h.2
    have hp106 := h.1; replace h := h.2
    refine zW_p rfl ⟨hp105, hp106⟩ ?_
    refine zW_s rfl ?_
    refine zW_s rfl ?_
    refine zW_k [0, 1, 2] rfl ?_
    exact h
  · rw [if_neg c104] at h
    refine zW_s rfl ?_
    refine zW_p rfl hp101 ?_
    refine zW_s rfl ?_
    refine zW_if (fun (c107 : ¬ (zI σ r0 57) = 0) => ?_) (fun (c107 : ¬ (¬ (zI σ r0 57) = 0)) => ?_)
    · rw [if_pos c107] at h
      refine zW_s rfl ?_
      refine zW_p rfl hp101 ?_
      refine zW_s rfl ?_
      have hp108 := h.1; replace h := h.2
      have hp109 := h.1; replace h := h.2
      refine zW_p rfl ⟨hp108, hp109⟩ ?_
      refine zW_s rfl ?_
      refine zW_s rfl ?_
      refine zW_k [0, 1, 2] rfl ?_
      exact h
    · rw [if_neg c107] at h
      refine zW_s rfl ?_
      refine zW_s rfl ?_
      refine zW_s rfl ?_
      refine zW_s rfl ?_
      refine zW_s rfl ?_
      refine zW_p rfl hp101 ?_
      refine zW_s rfl ?_
      have hp110 := h.1; replace h := h.2
      have hp111 := h.1; replace h := h.2
      refine zW_p rfl ⟨hp110, hp111⟩ ?_
      refine zW_c rfl hp101 (zM_m h ?_)
      intro r σ112 h
      replace h := zqv_e h
      obtain ⟨rfl, h⟩ := h
      refine zW_s rfl ?_
      refine zW_s rfl ?_
      exact h
set_option maxHeartbeats 4000000 in
theorem b198_160 {d : Nat} {r0 : Nat} {x2 : Int32} {x4 : Int32} {v0 : Int32} {v1 : Int32} {v2 : Nat} {σ : zH} {Q : Option Value → zH → Prop} (h : (zK σ v2 = 13) ∧ zM d 198 [.ref v2, .int v1, .int v0] σ (fun r σ102 => zqv r ((zK σ102 r0 = 13) ∧ (zK σ102 (zQ σ102 r0 28) = 20) ∧ (vp_in x4 (zN σ102 (zQ σ102 r0 28))) ∧ zW (d + 1) 198 274 [(0, .ref r0), (2, .int x2), (3, .int (zA σ102 (zQ σ102 r0 28) x4.toNatClampNeg))] [] σ102 Q))) : zW (d + 1) 198 160 [(0, .ref r0), (2, .int x2), (4, .int x4)] [.int v0, .int v1, .ref v2] σ Q := by
  have hp101 := h.1; replace h := h.2
  refine zW_c rfl hp101 (zM_m h ?_)
  intro r σ102 h
  replace h := zqv_e h
  obtain ⟨rfl, h⟩ := h
  refine zW_s rfl ?_
  have hp103 := h.1; replace h := h.2
  refine zW_p rfl hp103 ?_
  refine zW_s rfl ?_
  have hp104 := h.1; replace h := h.2
  have hp105 := h.1; replace h := h.2
  refine zW_p rfl ⟨hp104, hp105⟩ ?_
  refine zW_s rfl ?_
  refine zW_s rfl ?_
  refine zW_k [0, 1, 3] rfl ?_
  exact h
set_option maxHeartbeats 4000000 in
theorem b199 {d : Nat} {r0 : Nat} {x1 : Int32} {x2 : Int32} {σ : zH} {Q : Option Value → zH → Prop} (h : (zK σ r0 = 13) ∧ (if (zI (zsI σ r0 0 (nI 0)) r0 56) = 0 then Q (some (.int (nI 0))) (zsI σ r0 0 (nI 0)) else (if x1 < 0 then Q (some (.int (nI 0))) (zsI σ r0 0 (nI 0)) else (if x1 ≤ (nI 3) then zM d 138 [.ref r0, .long (zJ σ r0 58)] (zsI σ r0 0 (nI 0)) (fun r σ105 => zqv r ((if x2 < (nI 1) then Q (some (.int (nI 0))) σ105 else (zK σ105 r0 = 13) ∧ (zK σ105 (zQ σ105 r0 11) = 20) ∧ (vp_in x1 (zN σ105 (zQ σ105 r0 11))) ∧ (if x2 ≤ (zA σ105 (zQ σ105 r0 11) x1.toNatClampNeg) then (zK σ105 (zQ σ105 r0 10) = 20) ∧ (vp_in ((((nI 10) * x1) + x2) - (nI 1)) (zN σ105 (zQ σ105 r0 10))) ∧ Q (some (.int ((zA σ105 (zQ σ105 r0 10) ((((nI 10) * x1) + x2) - (nI 1)).toNatClampNeg) + (if ¬ ((zA σ105 (zQ σ105 r0 10) ((((nI 10) * x1) + x2) - (nI 1)).toNatClampNeg) &&& (nI 15)) = (zI σ105 r0 12) then nI 0 else nI 32)))) σ105 else Q (some (.int (nI 0))) σ105)))) else Q (some (.int (nI 0))) (zsI σ r0 0 (nI 0)))))) : zM (d + 1) 199 [.ref r0, .int x1, .int x2] σ Q := by
  unfold zM
  refine zW_s rfl ?_
  refine zW_s rfl ?_
  have hp101 := h.1; replace h := h.2
  refine zW_p rfl hp101 ?_
  refine zW_s rfl ?_
  refine zW_p rfl hp101 ?_
  refine zW_s rfl ?_
  refine zW_if (fun (c102 : (zI (zsI σ r0 0 (nI 0)) r0 56) = 0) => ?_) (fun (c102 : ¬ ((zI (zsI σ r0 0 (nI 0)) r0 56) = 0)) => ?_)
  · rw [if_pos c102] at h
    refine zW_s rfl ?_
    refine zW_r rfl trivial ?_
    exact h
  · rw [if_neg c102] at h
    refine zW_s rfl ?_
    refine zW_s rfl ?_
    refine zW_if (fun (c103 : x1 < 0) => ?_) (fun (c103 : ¬ (x1 < 0)) => ?_)
    · rw [if_pos c103] at h
      refine zW_s rfl ?_
      refine zW_r rfl trivial ?_
      exact h
    · rw [if_neg c103] at h
      refine zW_s rfl ?_
      refine zW_s rfl ?_
      refine zW_s rfl ?_
      refine zW_if (fun (c104 : x1 ≤ (nI 3)) => ?_) (fun (c104 : ¬ (x1 ≤ (nI 3))) => ?_)
      · rw [if_pos c104] at h
        refine zW_s rfl ?_
        refine zW_s rfl ?_
        refine zW_p rfl hp101 ?_
        refine zW_c rfl hp101 (zM_m h ?_)
        intro r σ105 h
        replace h := zqv_e h
        obtain ⟨rfl, h⟩ := h
        refine zW_s rfl ?_
        refine zW_s rfl ?_
        refine zW_s rfl ?_
        refine zW_if (fun (c106 : x2 < (nI 1)) => ?_) (fun (c106 : ¬ (x2 < (nI 1))) => ?_)
        · rw [if_pos c106] at h
          refine zW_s rfl ?_
          refine zW_r rfl trivial ?_
          exact h
        · rw [if_neg c106] at h
          refine zW_s rfl ?_
          refine zW_s rfl ?_
          have hp107 := h.1; replace h := h.2
          refine zW_p rfl hp107 ?_
          refine zW_s rfl ?_
          have hp108 := h.1; replace h := h.2
          have hp109 := h.1; replace h := h.2
          refine zW_p rfl ⟨hp108, hp109⟩ ?_
          refine zW_s rfl ?_
          refine zW_if (fun (c110 : x2 ≤ (zA σ105 (zQ σ105 r0 11) x1.toNatClampNeg)) => ?_) (fun (c110 : ¬ (x2 ≤ (zA σ105 (zQ σ105 r0 11) x1.toNatClampNeg))) => ?_)
          · rw [if_pos c110] at h
            refine zW_s rfl ?_
            refine zW_p rfl hp107 ?_
            refine zW_s rfl ?_
            refine zW_s rfl ?_
            refine zW_s rfl ?_
            refine zW_s rfl ?_
            refine zW_s rfl ?_
            refine zW_s rfl ?_
            refine zW_s rfl ?_
            have hp111 := h.1; replace h := h.2
            have hp112 := h.1; replace h := h.2
            refine zW_p rfl ⟨hp111, hp112⟩ ?_
            refine zW_s rfl ?_
            refine zW_s rfl ?_
            refine zW_s rfl ?_
            refine zW_s rfl ?_
            refine zW_s rfl ?_
            refine zW_s rfl ?_
            refine zW_p rfl hp107 ?_
            refine zW_s rfl ?_
            have k : ∀ v : Int32, v = (if ¬ ((zA σ105 (zQ σ105 r0 10) ((((nI 10) * x1) + x2) - (nI 1)).toNatClampNeg) &&& (nI 15)) = (zI σ105 r0 12) then nI 0 else nI 32) → zW (d + 1) 199 80 [(0, .ref r0), (1, .int x1), (2, .int x2), (3, .int (zA σ105 (zQ σ105 r0 10) ((((nI 10) * x1) + x2) - (nI 1)).toNatClampNeg))] [.int v, .int (zA σ105 (zQ σ105 r0 10) ((((nI 10) * x1) + x2) - (nI 1)).toNatClampNeg)] σ105 Q := by
              intro v hv
              subst hv
              refine zW_s rfl ?_
              refine zW_r rfl trivial ?_
              exact h
            refine zW_if (fun (c113 : ¬ ((zA σ105 (zQ σ105 r0 10) ((((nI 10) * x1) + x2) - (nI 1)).toNatClampNeg) &&& (nI 15)) = (zI σ105 r0 12)) => ?_) (fun (c113 : ¬ (¬ ((zA σ105 (zQ σ105 r0 10) ((((nI 10) * x1) + x2) - (nI 1)).toNatClampNeg) &&& (nI 15)) = (zI σ105 r0 12))) => ?_)
            · replace k := k _ (if_pos c113).symm
              refine zW_s rfl ?_
              exact k
            · replace k := k _ (if_neg c113).symm
              refine zW_s rfl ?_
              refine zW_s rfl ?_
              exact k
          · rw [if_neg c110] at h
            refine zW_s rfl ?_
            refine zW_r rfl trivial ?_
            exact h
      · rw [if_neg c104] at h
        refine zW_s rfl ?_
        refine zW_r rfl trivial ?_
        exact h
set_option maxHeartbeats 4000000 in
theorem b200 {d : Nat} {r0 : Nat} {σ : zH} {Q : Option Value → zH → Prop} (h : (zK σ r0 = 13) ∧ (if (zI (zsI σ r0 0 (nI 0)) r0 56) = 0 then zM d 136 [.ref r0, .ref (zQ σ r0 9)] (zsI σ r0 0 (nI 0)) (fun r σ103 => zqv r ((zK σ103 r0 = 13) ∧ zM d 173 [.ref r0] σ103 (fun r σ105 => zqi r (fun x106 => (x106 = 0 ∨ x106 = 1) ∧ Q (some (.int x106)) σ105)))) else zM d 138 [.ref r0, .long (zJ σ r0 58)] (zsI σ r0 0 (nI 0)) (fun r σ108 => zqv r ((zK σ108 r0 = 13) ∧ zM d 173 [.ref r0] σ108 (fun r σ110 => zqi r (fun x111 => (x111 = 0 ∨ x111 = 1) ∧ Q (some (.int x111)) σ110)))))) : zM (d + 1) 200 [.ref r0] σ Q := by
  unfold zM
  refine zW_s rfl ?_
  refine zW_s rfl ?_
  have hp101 := h.1; replace h := h.2
  refine zW_p rfl hp101 ?_
  refine zW_s rfl ?_
  refine zW_p rfl hp101 ?_
  refine zW_s rfl ?_
  refine zW_if (fun (c102 : (zI (zsI σ r0 0 (nI 0)) r0 56) = 0) => ?_) (fun (c102 : ¬ ((zI (zsI σ r0 0 (nI 0)) r0 56) = 0)) => ?_)
  · rw [if_pos c102] at h
    refine zW_s rfl ?_
    refine zW_s rfl ?_
    refine zW_p rfl hp101 ?_
    refine zW_c rfl hp101 (zM_m h ?_)
    intro r σ103 h
    replace h := zqv_e h
    obtain ⟨rfl, h⟩ := h
    refine zW_s rfl ?_
    have hp104 := h.1; replace h := h.2
    refine zW_c rfl hp104 (zM_m h ?_)
    intro r σ105 h
    replace h := zqi_e h
    obtain ⟨x106, rfl, h⟩ := h
    have hp107 := h.1; replace h := h.2
    refine zW_r rfl hp107 ?_
    exact h
  · rw [if_neg c102] at h
    refine zW_s rfl ?_
    refine zW_s rfl ?_
    refine zW_p rfl hp101 ?_
    refine zW_c rfl hp101 (zM_m h ?_)
    intro r σ108 h
    replace h := zqv_e h
    obtain ⟨rfl, h⟩ := h
    refine zW_s rfl ?_
    refine zW_s rfl ?_
    have hp109 := h.1; replace h := h.2
    refine zW_c rfl hp109 (zM_m h ?_)
    intro r σ110 h
    replace h := zqi_e h
    obtain ⟨x111, rfl, h⟩ := h
    have hp112 := h.1; replace h := h.2
    refine zW_r rfl hp112 ?_
    exact h
set_option maxHeartbeats 4000000 in
theorem b201 {d : Nat} {r0 : Nat} {x1 : Int32} {σ : zH} {Q : Option Value → zH → Prop} (h : (if x1 < (nI 1) then zW (d + 1) 201 12 [(0, .ref r0), (1, .int x1)] [.ref r0] σ Q else (zK σ r0 = 13) ∧ (if ¬ (zI (zsI σ r0 0 (if x1 ≤ (nI 50) then nI 0 else nI 1)) r0 0) = (nI 1) then zW (d + 1) 201 32 [(0, .ref r0), (1, .int x1), (2, .int (nI 0))] [] (zsI σ r0 0 (if x1 ≤ (nI 50) then nI 0 else nI 1)) Q else Q (some (.int (nI 0))) (zsI σ r0 0 (if x1 ≤ (nI 50) then nI 0 else nI 1))))) : zM (d + 1) 201 [.ref r0, .int x1] σ Q := by
  unfold zM
  refine zW_s rfl ?_
  refine zW_s rfl ?_
  refine zW_s rfl ?_
  refine zW_s rfl ?_
  refine zW_if (fun (c101 : x1 < (nI 1)) => ?_) (fun (c101 : ¬ (x1 < (nI 1))) => ?_)
  · rw [if_pos c101] at h
    exact h
  · rw [if_neg c101] at h
    refine zW_s rfl ?_
    refine zW_s rfl ?_
    refine zW_s rfl ?_
    have k : ∀ v : Int32, v = (if x1 ≤ (nI 50) then nI 0 else nI 1) → zW (d + 1) 201 17 [(0, .ref r0), (1, .int x1)] [.int v, .ref r0] σ Q := by
      intro v hv
      subst hv
      have hp103 := h.1; replace h := h.2
      refine zW_p rfl hp103 ?_
      refine zW_s rfl ?_
      refine zW_p rfl hp103 ?_
      refine zW_s rfl ?_
      refine zW_s rfl ?_
      refine zW_if (fun (c104 : ¬ (zI (zsI σ r0 0 (if x1 ≤ (nI 50) then nI 0 else nI 1)) r0 0) = (nI 1)) => ?_) (fun (c104 : ¬ (¬ (zI (zsI σ r0 0 (if x1 ≤ (nI 50) then nI 0 else nI 1)) r0 0) = (nI 1))) => ?_)
      · rw [if_pos c104] at h
        refine zW_s rfl ?_
        refine zW_s rfl ?_
        exact h
      · rw [if_neg c104] at h
        refine zW_s rfl ?_
        refine zW_r rfl trivial ?_
        exact h
    refine zW_if (fun (c102 : x1 ≤ (nI 50)) => ?_) (fun (c102 : ¬ (x1 ≤ (nI 50))) => ?_)
    · replace k := k _ (if_pos c102).symm
      refine zW_s rfl ?_
      exact k
    · replace k := k _ (if_neg c102).symm
      refine zW_s rfl ?_
      refine zW_s rfl ?_
      exact k
set_option maxHeartbeats 4000000 in
theorem b201_12 {d : Nat} {r0 : Nat} {x1 : Int32} {v0 : Nat} {σ : zH} {Q : Option Value → zH → Prop} (h : (zK σ v0 = 13) ∧ (zK σ r0 = 13) ∧ (if ¬ (zI (zsI σ v0 0 (nI 1)) r0 0) = (nI 1) then zW (d + 1) 201 32 [(0, .ref r0), (1, .int x1), (2, .int (nI 0))] [] (zsI σ v0 0 (nI 1)) Q else Q (some (.int (nI 0))) (zsI σ v0 0 (nI 1)))) : zW (d + 1) 201 12 [(0, .ref r0), (1, .int x1)] [.ref v0] σ Q := by
  refine zW_s rfl ?_
  refine zW_s rfl ?_
  have hp101 := h.1; replace h := h.2
  refine zW_p rfl hp101 ?_
  refine zW_s rfl ?_
  have hp102 := h.1; replace h := h.2
  refine zW_p rfl hp102 ?_
  refine zW_s rfl ?_
  refine zW_s rfl ?_
  refine zW_if (fun (c103 : ¬ (zI (zsI σ v0 0 (nI 1)) r0 0) = (nI 1)) => ?_) (fun (c103 : ¬ (¬ (zI (zsI σ v0 0 (nI 1)) r0 0) = (nI 1))) => ?_)
  · rw [if_pos c103] at h
    refine zW_s rfl ?_
    refine zW_s rfl ?_
    exact h
  · rw [if_neg c103] at h
    refine zW_s rfl ?_
    refine zW_r rfl trivial ?_
    exact h
set_option maxHeartbeats 4000000 in
theorem b201_32 {d : Nat} {r0 : Nat} {x1 : Int32} {x2 : Int32} {σ : zH} {Q : Option Value → zH → Prop} (h : (zK σ r0 = 13) ∧ (if (zI σ r0 5) ≤ x2 then zW (d + 1) 201 57 [(0, .ref r0), (1, .int x1), (2, .int (nI 0))] [] σ Q else (zK σ (zQ σ r0 62) = 20) ∧ (vp_in x2 (zN σ (zQ σ r0 62))) ∧ zW (d + 1) 201 32 [(0, .ref r0), (1, .int x1), (2, .int (x2 + nI 1))] [] (zsA σ (zQ σ r0 62) x2.toNatClampNeg (x2 + (nI 1))) Q)) : zW (d + 1) 201 32 [(0, .ref r0), (1, .int x1), (2, .int x2)] [] σ Q := by
  refine zW_s rfl ?_
  refine zW_s rfl ?_
  have hp101 := h.1; replace h := h.2
  refine zW_p rfl hp101 ?_
  refine zW_s rfl ?_
  refine zW_if (fun (c102 : (zI σ r0 5) ≤ x2) => ?_) (fun (c102 : ¬ ((zI σ r0 5) ≤ x2)) => ?_)
  · rw [if_pos c102] at h
    refine zW_s rfl ?_
    refine zW_s rfl ?_
    exact h
  · rw [if_neg c102] at h
    refine zW_s rfl ?_
    refine zW_p rfl hp101 ?_
    refine zW_s rfl ?_
    refine zW_s rfl ?_
    refine zW_s rfl ?_
    refine zW_s rfl ?_
    have hp103 := h.1; replace h := h.2
    have hp104 := h.1; replace h := h.2
    refine zW_p rfl ⟨hp103, hp104⟩ ?_
    refine zW_s rfl ?_
    refine zW_s rfl ?_
    exact h
set_option maxHeartbeats 4000000 in
theorem b201_57 {d : Nat} {r0 : Nat} {x1 : Int32} {x2 : Int32} {σ : zH} {Q : Option Value → zH → Prop} (h : (if x1 ≤ x2 then Q (some (.int (-1))) σ else (zK σ r0 = 13) ∧ zM d 192 [.ref r0, .ref (zQ σ r0 62)] σ (fun r σ103 => zqi r (fun x104 => (if ¬ x104 = 0 then (zK σ103 r0 = 13) ∧ zM d 202 [.ref r0] σ103 (fun r σ107 => zqi r (fun x108 => (if ¬ x108 = 0 then zW (d + 1) 201 57 [(0, .ref r0), (1, .int x1), (2, .int (x2 + nI 1))] [] σ107 Q else Q (some (.int (-1))) σ107))) else zW (d + 1) 201 75 [(0, .ref r0), (2, .int x2), (3, .int (nI 0))] [] σ103 Q))))) : zW (d + 1) 201 57 [(0, .ref r0), (1, .int x1), (2, .int x2)] [] σ Q := by
  refine zW_s rfl ?_
  refine zW_s rfl ?_
  refine zW_s rfl ?_
  refine zW_if (fun (c101 : x1 ≤ x2) => ?_) (fun (c101 : ¬ (x1 ≤ x2)) => ?_)
  · rw [if_pos c101] at h
    refine zW_s rfl ?_
    refine zW_r rfl trivial ?_
    exact h
  · rw [if_neg c101] at h
    refine zW_s rfl ?_
    refine zW_s rfl ?_
    have hp102 := h.1; replace h := h.2
    refine zW_p rfl hp102 ?_
    refine zW_c rfl hp102 (zM_m h ?_)
    intro r σ103 h
    replace h := zqi_e h
    obtain ⟨x104, rfl, h⟩ := h
    refine zW_s rfl ?_
    refine zW_if (fun (c105 : ¬ x104 = 0) => ?_) (fun (c105 : ¬ (¬ x104 = 0)) => ?_)
    · rw [if_pos c105] at h
      refine zW_s rfl ?_
      have hp106 := h.1; replace h := h.2
      refine zW_c rfl hp106 (zM_m h ?_)
      intro r σ107 h
      replace h := zqi_e h
      obtain ⟨x108, rfl, h⟩ := h
      refine zW_s rfl ?_
      refine zW_if (fun (c109 : ¬ x108 = 0) => ?_) (fun (c109 : ¬ (¬ x108 = 0)) => ?_)
      · rw [if_pos c109] at h
        refine zW_s rfl ?_
        refine zW_s rfl ?_
        exact h
      · rw [if_neg c109] at h
        refine zW_s rfl ?_
        refine zW_r rfl trivial ?_
        exact h
    · rw [if_neg c105] at h
      refine zW_s rfl ?_
      refine zW_s rfl ?_
      refine zW_k [0, 2, 3] rfl ?_
      exact h
set_option maxHeartbeats 4000000 in
theorem b201_75 {d : Nat} {r0 : Nat} {x2 : Int32} {x3 : Int32} {σ : zH} {Q : Option Value → zH → Prop} (h : (zK σ r0 = 13) ∧ (if (zI σ r0 5) ≤ x3 then Q (some (.int x2)) σ else (zK σ (zQ σ r0 62) = 20) ∧ (vp_in x3 (zN σ (zQ σ r0 62))) ∧ (zK σ (zQ σ r0 9) = 20) ∧ (vp_in x3 (zN σ (zQ σ r0 9))) ∧ zW (d + 1) 201 75 [(0, .ref r0), (2, .int x2), (3, .int (x3 + nI 1))] [] (zsA σ (zQ σ r0 9) x3.toNatClampNeg (zA σ (zQ σ r0 62) x3.toNatClampNeg)) Q)) : zW (d + 1) 201 75 [(0, .ref r0), (2, .int x2), (3, .int x3)] [] σ Q := by
  refine zW_s rfl ?_
  refine zW_s rfl ?_
  have hp101 := h.1; replace h := h.2
  refine zW_p rfl hp101 ?_
  refine zW_s rfl ?_
  refine zW_if (fun (c102 : (zI σ r0 5) ≤ x3) => ?_) (fun (c102 : ¬ ((zI σ r0 5) ≤ x3)) => ?_)
  · rw [if_pos c102] at h
    refine zW_s rfl ?_
    refine zW_r rfl trivial ?_
    exact h
  · rw [if_neg c102] at h
    refine zW_s rfl ?_
    refine zW_p rfl hp101 ?_
    refine zW_s rfl ?_
    refine zW_s rfl ?_
    refine zW_p rfl hp101 ?_
    refine zW_s rfl ?_
    have hp103 := h.1; replace h := h.2
    have hp104 := h.1; replace h := h.2
    refine zW_p rfl ⟨hp103, hp104⟩ ?_
    have hp105 := h.1; replace h := h.2
    have hp106 := h.1; replace h := h.2
    refine zW_p rfl ⟨hp105, hp106⟩ ?_
    refine zW_s rfl ?_
    refine zW_s rfl ?_
    exact h
