set_option maxHeartbeats 4000000 in
theorem b173 {d : Nat} {r0 : Nat} {σ : zH} {Q : Option Value → zH → Prop} (h : (zK σ r0 = 13) ∧ (if (zI σ r0 38) < 0 then Q (some (.int (nI 1))) σ else zM d 172 [.ref r0, .int (zI σ r0 38)] σ (fun r σ103 => zqi r (fun x104 => Q (some (.int (if x104 = 0 then nI 0 else nI 1))) σ103)))) : zM (d + 1) 173 [.ref r0] σ Q := by
  unfold zM
  refine zW_s rfl ?_
  have hp101 := h.1; replace h := h.2
  refine zW_p rfl hp101 ?_
  refine zW_s rfl ?_
  refine zW_if (fun (c102 : (zI σ r0 38) < 0) => ?_) (fun (c102 : ¬ ((zI σ r0 38) < 0)) => ?_)
  · rw [if_pos c102] at h
    refine zW_s rfl ?_
    refine zW_s rfl ?_
    refine zW_r rfl (by decide) ?_
    exact h
  · rw [if_neg c102] at h
    refine zW_s rfl ?_
    refine zW_s rfl ?_
    refine zW_p rfl hp101 ?_
    refine zW_c rfl hp101 (zM_m h ?_)
    intro r σ103 h
    replace h := zqi_e h
    obtain ⟨x104, rfl, h⟩ := h
    refine zW_s rfl ?_
    have k : ∀ v : Int32, v = (if x104 = 0 then nI 0 else nI 1) → zW (d + 1) 173 23 [(0, .ref r0)] [.int v] σ103 Q := by
      intro v hv
      subst hv
      refine zW_r rfl zb01 ?_
      exact h
    refine zW_if (fun (c105 : x104 = 0) => ?_) (fun (c105 : ¬ (x104 = 0)) => ?_)
    · replace k := k _ (if_pos c105).symm
      refine zW_s rfl ?_
      exact k
    · replace k := k _ (if_neg c105).symm
      refine zW_s rfl ?_
      refine zW_s rfl ?_
      exact k
set_option maxHeartbeats 4000000 in
theorem b174 {d : Nat} {x0 : Int32} {x1 : Int32} {σ : zH} {Q : Option Value → zH → Prop} (h : zW (d) 174 5 [(0, .int x0), (1, .int x1), (2, .long (lN 1)), (4, .int (nI 1))] [] σ Q) : zM (d) 174 [.int x0, .int x1] σ Q := by
  unfold zM
  refine zW_s rfl ?_
  refine zW_s rfl ?_
  refine zW_s rfl ?_
  refine zW_s rfl ?_
  exact h
set_option maxHeartbeats 4000000 in
theorem b174_5 {d : Nat} {x0 : Int32} {x1 : Int32} {y2 : Int64} {x4 : Int32} {σ : zH} {Q : Option Value → zH → Prop} (h : (if x1 < x4 then Q (some (.long y2)) σ else (¬ (x4.toInt64) = 0) ∧ zW (d) 174 5 [(0, .int x0), (1, .int x1), (2, .long ((y2 * ((x0 + x4).toInt64)) / (x4.toInt64))), (4, .int (x4 + nI 1))] [] σ Q)) : zW (d) 174 5 [(0, .int x0), (1, .int x1), (2, .long y2), (4, .int x4)] [] σ Q := by
  refine zW_s rfl ?_
  refine zW_s rfl ?_
  refine zW_s rfl ?_
  refine zW_if (fun (c101 : x1 < x4) => ?_) (fun (c101 : ¬ (x1 < x4)) => ?_)
  · rw [if_pos c101] at h
    refine zW_s rfl ?_
    refine zW_r rfl trivial ?_
    exact h
  · rw [if_neg c101] at h
    refine zW_s rfl ?_
    refine zW_s rfl ?_
    refine zW_s rfl ?_
    refine zW_s rfl ?_
    refine zW_s rfl ?_
    refine zW_s rfl ?_
    refine zW_s rfl ?_
    refine zW_s rfl ?_
    have hp102 := h.1; replace h := h.2
    refine zW_p rfl hp102 ?_
    refine zW_s rfl ?_
    refine zW_s rfl ?_
    refine zW_s rfl ?_
    exact h
set_option maxHeartbeats 4000000 in
theorem b175 {d : Nat} {r0 : Nat} {x1 : Int32} {σ : zH} {Q : Option Value → zH → Prop} (h : (zK σ r0 = 13) ∧ (zK σ (zQ σ r0 22) = 20) ∧ (vp_in x1 (zN σ (zQ σ r0 22))) ∧ (zK σ (zQ σ r0 11) = 20) ∧ (vp_in (zA σ (zQ σ r0 22) x1.toNatClampNeg) (zN σ (zQ σ r0 11))) ∧ (zK σ (zQ σ r0 21) = 21) ∧ (vp_in x1 (zN σ (zQ σ r0 21))) ∧ (if ¬ (lg_cmp (zB σ (zQ σ r0 21) x1.toNatClampNeg) (lN 125797015120997)) = 0 then (zK σ (zQ σ r0 25) = 20) ∧ (vp_in x1 (zN σ (zQ σ r0 25))) ∧ (if (zA σ (zQ σ r0 25) x1.toNatClampNeg) = (nI 11) then (if ¬ (lg_cmp (zB σ (zQ σ r0 21) x1.toNatClampNeg) (lN 6518132)) = 0 then (if (lg_cmp (zB σ (zQ σ r0 21) x1.toNatClampNeg) (lN 1684365676)) = 0 then Q (some (.int ((zA σ (zQ σ r0 11) (zA σ (zQ σ r0 22) x1.toNatClampNeg).toNatClampNeg) + (nI 1)))) σ else (if (lg_cmp (zB σ (zQ σ r0 21) x1.toNatClampNeg) (lN 1836021349)) = 0 then Q (some (.int ((zA σ (zQ σ r0 11) (zA σ (zQ σ r0 22) x1.toNatClampNeg).toNatClampNeg) + (nI 1)))) σ else (if ¬ (lg_cmp (zB σ (zQ σ r0 21) x1.toNatClampNeg) (lN 1953854062)) = 0 then Q (some (.int (if (zA σ (zQ σ r0 11) (zA σ (zQ σ r0 22) x1.toNatClampNeg).toNatClampNeg) ≤ (nI 1) then nI 1 else zA σ (zQ σ r0 11) (zA σ (zQ σ r0 22) x1.toNatClampNeg).toNatClampNeg))) σ else Q (some (.int ((zA σ (zQ σ r0 11) (zA σ (zQ σ r0 22) x1.toNatClampNeg).toNatClampNeg) + (nI 1)))) σ))) else Q (some (.int (if (zA σ (zQ σ r0 11) (zA σ (zQ σ r0 22) x1.toNatClampNeg).toNatClampNeg) ≤ (nI 1) then nI 1 else zA σ (zQ σ r0 11) (zA σ (zQ σ r0 22) x1.toNatClampNeg).toNatClampNeg))) σ) else Q (some (.int (nI 0))) σ) else (zK σ (zQ σ r0 23) = 20) ∧ (vp_in x1 (zN σ (zQ σ r0 23))) ∧ (vp_in (zA σ (zQ σ r0 23) x1.toNatClampNeg) (zN σ (zQ σ r0 11))) ∧ zM d 174 [.int (zA σ (zQ σ r0 11) (zA σ (zQ σ r0 22) x1.toNatClampNeg).toNatClampNeg), .int (zA σ (zQ σ r0 11) (zA σ (zQ σ r0 23) x1.toNatClampNeg).toNatClampNeg)] σ (fun r σ121 => zql r (fun x122 => Q (some (.int (x122.toInt32))) σ121)))) : zM (d + 1) 175 [.ref r0, .int x1] σ Q := by
  unfold zM
  refine zW_s rfl ?_
  have hp101 := h.1; replace h := h.2
  refine zW_p rfl hp101 ?_
  refine zW_s rfl ?_
  refine zW_p rfl hp101 ?_
  refine zW_s rfl ?_
  have hp102 := h.1; replace h := h.2
  have hp103 := h.1; replace h := h.2
  refine zW_p rfl ⟨hp102, hp103⟩ ?_
  have hp104 := h.1; replace h := h.2
  have hp105 := h.1; replace h := h.2
  refine zW_p rfl ⟨hp104, hp105⟩ ?_
  refine zW_s rfl ?_
  refine zW_s rfl ?_
  refine zW_p rfl hp101 ?_
  refine zW_s rfl ?_
  have hp106 := h.1; replace h := h.2
  have hp107 := h.1; replace h := h.2
  refine zW_p rfl ⟨hp106, hp107⟩ ?_
  refine zW_s rfl ?_
  refine zW_s rfl ?_
  refine zW_s rfl ?_
  refine zW_if (fun (c108 : ¬ (lg_cmp (zB σ (zQ σ r0 21) x1.toNatClampNeg) (lN 125797015120997)) = 0) => ?_) (fun (c108 : ¬ (¬ (lg_cmp (zB σ (zQ σ r0 21) x1.toNatClampNeg) (lN 125797015120997)) = 0)) => ?_)
  · rw [if_pos c108] at h
    refine zW_s rfl ?_
    refine zW_p rfl hp101 ?_
    refine zW_s rfl ?_
    have hp109 := h.1; replace h := h.2
    have hp110 := h.1; replace h := h.2
    refine zW_p rfl ⟨hp109, hp110⟩ ?_
    refine zW_s rfl ?_
    refine zW_s rfl ?_
    refine zW_if (fun (c111 : (zA σ (zQ σ r0 25) x1.toNatClampNeg) = (nI 11)) => ?_) (fun (c111 : ¬ ((zA σ (zQ σ r0 25) x1.toNatClampNeg) = (nI 11))) => ?_)
    · rw [if_pos c111] at h
      refine zW_s rfl ?_
      refine zW_p rfl hp101 ?_
      refine zW_s rfl ?_
      refine zW_p rfl ⟨hp106, hp107⟩ ?_
      refine zW_s rfl ?_
      refine zW_s rfl ?_
      refine zW_s rfl ?_
      refine zW_if (fun (c112 : ¬ (lg_cmp (zB σ (zQ σ r0 21) x1.toNatClampNeg) (lN 6518132)) = 0) => ?_) (fun (c112 : ¬ (¬ (lg_cmp (zB σ (zQ σ r0 21) x1.toNatClampNeg) (lN 6518132)) = 0)) => ?_)
      · rw [if_pos c112] at h
        refine zW_s rfl ?_
        refine zW_p rfl hp101 ?_
        refine zW_s rfl ?_
        refine zW_p rfl ⟨hp106, hp107⟩ ?_
        refine zW_s rfl ?_
        refine zW_s rfl ?_
        refine zW_s rfl ?_
        refine zW_if (fun (c113 : (lg_cmp (zB σ (zQ σ r0 21) x1.toNatClampNeg) (lN 1684365676)) = 0) => ?_) (fun (c113 : ¬ ((lg_cmp (zB σ (zQ σ r0 21) x1.toNatClampNeg) (lN 1684365676)) = 0)) => ?_)
        · rw [if_pos c113] at h
          refine zW_s rfl ?_
          refine zW_s rfl ?_
          refine zW_s rfl ?_
          refine zW_s rfl ?_
          refine zW_r rfl trivial ?_
          exact h
        · rw [if_neg c113] at h
          refine zW_s rfl ?_
          refine zW_p rfl hp101 ?_
          refine zW_s rfl ?_
          refine zW_p rfl ⟨hp106, hp107⟩ ?_
          refine zW_s rfl ?_
          refine zW_s rfl ?_
          refine zW_s rfl ?_
          refine zW_if (fun (c114 : (lg_cmp (zB σ (zQ σ r0 21) x1.toNatClampNeg) (lN 1836021349)) = 0) => ?_) (fun (c114 : ¬ ((lg_cmp (zB σ (zQ σ r0 21) x1.toNatClampNeg) (lN 1836021349)) = 0)) => ?_)
          · rw [if_pos c114] at h
            refine zW_s rfl ?_
            refine zW_s rfl ?_
            refine zW_s rfl ?_
            refine zW_s rfl ?_
            refine zW_r rfl trivial ?_
            exact h
          · rw [if_neg c114] at h
            refine zW_s rfl ?_
            refine zW_p rfl hp101 ?_
            refine zW_s rfl ?_
            refine zW_p rfl ⟨hp106, hp107⟩ ?_
            refine zW_s rfl ?_
            refine zW_s rfl ?_
            refine zW_s rfl ?_
            refine zW_if (fun (c115 : ¬ (lg_cmp (zB σ (zQ σ r0 21) x1.toNatClampNeg) (lN 1953854062)) = 0) => ?_) (fun (c115 : ¬ (¬ (lg_cmp (zB σ (zQ σ r0 21) x1.toNatClampNeg) (lN 1953854062)) = 0)) => ?_)
            · rw [if_pos c115] at h
              refine zW_s rfl ?_
              refine zW_s rfl ?_
              refine zW_s rfl ?_
              have k : ∀ v : Int32, v = (if (zA σ (zQ σ r0 11) (zA σ (zQ σ r0 22) x1.toNatClampNeg).toNatClampNeg) ≤ (nI 1) then nI 1 else zA σ (zQ σ r0 11) (zA σ (zQ σ r0 22) x1.toNatClampNeg).toNatClampNeg) → zW (d + 1) 175 144 [(0, .ref r0), (1, .int x1), (2, .int (zA σ (zQ σ r0 11) (zA σ (zQ σ r0 22) x1.toNatClampNeg).toNatClampNeg))] [.int v] σ Q := by
                intro v hv
                subst hv
                refine zW_r rfl trivial ?_
                exact h
              refine zW_if (fun (c116 : (zA σ (zQ σ r0 11) (zA σ (zQ σ r0 22) x1.toNatClampNeg).toNatClampNeg) ≤ (nI 1)) => ?_) (fun (c116 : ¬ ((zA σ (zQ σ r0 11) (zA σ (zQ σ r0 22) x1.toNatClampNeg).toNatClampNeg) ≤ (nI 1))) => ?_)
              · replace k := k _ (if_pos c116).symm
                refine zW_s rfl ?_
                exact k
              · replace k := k _ (if_neg c116).symm
                refine zW_s rfl ?_
                refine zW_s rfl ?_
                exact k
            · rw [if_neg c115] at h
              refine zW_s rfl ?_
              refine zW_s rfl ?_
              refine zW_s rfl ?_
              refine zW_s rfl ?_
              refine zW_r rfl trivial ?_
              exact h
      · rw [if_neg c112] at h
        refine zW_s rfl ?_
        refine zW_s rfl ?_
        refine zW_s rfl ?_
        have k : ∀ v : Int32, v = (if (zA σ (zQ σ r0 11) (zA σ (zQ σ r0 22) x1.toNatClampNeg).toNatClampNeg) ≤ (nI 1) then nI 1 else zA σ (zQ σ r0 11) (zA σ (zQ σ r0 22) x1.toNatClampNeg).toNatClampNeg) → zW (d + 1) 175 88 [(0, .ref r0), (1, .int x1), (2, .int (zA σ (zQ σ r0 11) (zA σ (zQ σ r0 22) x1.toNatClampNeg).toNatClampNeg))] [.int v] σ Q := by
          intro v hv
          subst hv
          refine zW_r rfl trivial ?_
          exact h
        refine zW_if (fun (c117 : (zA σ (zQ σ r0 11) (zA σ (zQ σ r0 22) x1.toNatClampNeg).toNatClampNeg) ≤ (nI 1)) => ?_) (fun (c117 : ¬ ((zA σ (zQ σ r0 11) (zA σ (zQ σ r0 22) x1.toNatClampNeg).toNatClampNeg) ≤ (nI 1))) => ?_)
        · replace k := k _ (if_pos c117).symm
          refine zW_s rfl ?_
          exact k
        · replace k := k _ (if_neg c117).symm
          refine zW_s rfl ?_
          refine zW_s rfl ?_
          exact k
    · rw [if_neg c111] at h
      refine zW_s rfl ?_
      refine zW_r rfl trivial ?_
      exact h
  · rw [if_neg c108] at h
    refine zW_s rfl ?_
    refine zW_p rfl hp101 ?_
    refine zW_s rfl ?_
    refine zW_p rfl hp101 ?_
    refine zW_s rfl ?_
    refine zW_p rfl ⟨hp102, hp103⟩ ?_
    refine zW_p rfl ⟨hp104, hp105⟩ ?_
    refine zW_s rfl ?_
    refine zW_p rfl hp101 ?_
    refine zW_s rfl ?_
    refine zW_p rfl hp101 ?_
    refine zW_s rfl ?_
    have hp118 := h.1; replace h := h.2
    have hp119 := h.1; replace h := h.2
    refine zW_p rfl ⟨hp118, hp119⟩ ?_
    have hp120 := h.1; replace h := h.2
    refine zW_p rfl ⟨hp104, hp120⟩ ?_
    refine zW_c rfl trivial (zM_m h ?_)
    intro r σ121 h
    replace h := zql_e h
    obtain ⟨x122, rfl, h⟩ := h
    refine zW_s rfl ?_
    refine zW_r rfl trivial ?_
    exact h
set_option maxHeartbeats 4000000 in
theorem b176 {d : Nat} {r0 : Nat} {x1 : Int32} {x2 : Int32} {σ : zH} {Q : Option Value → zH → Prop} (h : (zK σ r0 = 13) ∧ (zK σ (zQ σ r0 11) = 20) ∧ (vp_in x1 (zN σ (zQ σ r0 11))) ∧ zW (d) 176 9 [(0, .ref r0), (1, .int x1), (2, .int x2), (3, .int ((zA σ (zQ σ r0 11) x1.toNatClampNeg) - (nI 1)))] [] σ Q) : zM (d) 176 [.ref r0, .int x1, .int x2] σ Q := by
  unfold zM
  refine zW_s rfl ?_
  have hp101 := h.1; replace h := h.2
  refine zW_p rfl hp101 ?_
  refine zW_s rfl ?_
  have hp102 := h.1; replace h := h.2
  have hp103 := h.1; replace h := h.2
  refine zW_p rfl ⟨hp102, hp103⟩ ?_
  refine zW_s rfl ?_
  refine zW_s rfl ?_
  refine zW_s rfl ?_
  exact h
set_option maxHeartbeats 4000000 in
theorem b176_9 {d : Nat} {r0 : Nat} {x1 : Int32} {x2 : Int32} {x3 : Int32} {σ : zH} {Q : Option Value → zH → Prop} (h : (if x3 < 0 then zW (d) 176 45 [(0, .ref r0), (1, .int x1), (2, .int x2), (3, .int (nI 0))] [] σ Q else (zK σ r0 = 13) ∧ (zK σ (zQ σ r0 10) = 20) ∧ (vp_in (((nI 10) * x1) + x3) (zN σ (zQ σ r0 10))) ∧ (vp_in ((((nI 10) * x1) + x3) + x2) (zN σ (zQ σ r0 10))) ∧ zW (d) 176 9 [(0, .ref r0), (1, .int x1), (2, .int x2), (3, .int (x3 + (-1)))] [] (zsA σ (zQ σ r0 10) ((((nI 10) * x1) + x3) + x2).toNatClampNeg (zA σ (zQ σ r0 10) (((nI 10) * x1) + x3).toNatClampNeg)) Q)) : zW (d) 176 9 [(0, .ref r0), (1, .int x1), (2, .int x2), (3, .int x3)] [] σ Q := by
  refine zW_s rfl ?_
  refine zW_s rfl ?_
  refine zW_if (fun (c101 : x3 < 0) => ?_) (fun (c101 : ¬ (x3 < 0)) => ?_)
  · rw [if_pos c101] at h
    refine zW_s rfl ?_
    refine zW_s rfl ?_
    exact h
  · rw [if_neg c101] at h
    refine zW_s rfl ?_
    have hp102 := h.1; replace h := h.2
    refine zW_p rfl hp102 ?_
    refine zW_s rfl ?_
    refine zW_s rfl ?_
    refine zW_s rfl ?_
    refine zW_s rfl ?_
    refine zW_s rfl ?_
    refine zW_s rfl ?_
    refine zW_s rfl ?_
    refine zW_s rfl ?_
    refine zW_p rfl hp102 ?_
    refine zW_s rfl ?_
    refine zW_s rfl ?_
    refine zW_s rfl ?_
    refine zW_s rfl ?_
    refine zW_s rfl ?_
    have hp103 := h.1; replace h := h.2
    have hp104 := h.1; replace h := h.2
    refine zW_p rfl ⟨hp103, hp104⟩ ?_
    have hp105 := h.1; replace h := h.2
    refine zW_p rfl ⟨hp103, hp105⟩ ?_
    refine zW_s rfl ?_
    refine zW_s rfl ?_
    exact h
set_option maxHeartbeats 4000000 in
theorem b176_45 {d : Nat} {r0 : Nat} {x1 : Int32} {x2 : Int32} {x3 : Int32} {σ : zH} {Q : Option Value → zH → Prop} (h : (if x2 ≤ x3 then (zK σ r0 = 13) ∧ (zK σ (zQ σ r0 11) = 20) ∧ (vp_in x1 (zN σ (zQ σ r0 11))) ∧ Q none (zsA σ (zQ σ r0 11) x1.toNatClampNeg ((zA σ (zQ σ r0 11) x1.toNatClampNeg) + x2)) else (zK σ r0 = 13) ∧ (zK σ (zQ σ r0 40) = 20) ∧ (vp_in x3 (zN σ (zQ σ r0 40))) ∧ (zK σ (zQ σ r0 10) = 20) ∧ (vp_in (((nI 10) * x1) + x3) (zN σ (zQ σ r0 10))) ∧ zW (d) 176 45 [(0, .ref r0), (1, .int x1), (2, .int x2), (3, .int (x3 + nI 1))] [] (zsA σ (zQ σ r0 10) (((nI 10) * x1) + x3).toNatClampNeg (zA σ (zQ σ r0 40) x3.toNatClampNeg)) Q)) : zW (d) 176 45 [(0, .ref r0), (1, .int x1), (2, .int x2), (3, .int x3)] [] σ Q := by
  refine zW_s rfl ?_
  refine zW_s rfl ?_
  refine zW_s rfl ?_
  refine zW_if (fun (c101 : x2 ≤ x3) => ?_) (fun (c101 : ¬ (x2 ≤ x3)) => ?_)
  · rw [if_pos c101] at h
    refine zW_s rfl ?_
    have hp102 := h.1; replace h := h.2
    refine zW_p rfl hp102 ?_
    refine zW_s rfl ?_
    refine zW_s rfl ?_
    have hp103 := h.1; replace h := h.2
    have hp104 := h.1; replace h := h.2
    refine zW_p rfl ⟨hp103, hp104⟩ ?_
    refine zW_s rfl ?_
    refine zW_s rfl ?_
    refine zW_p rfl ⟨hp103, hp104⟩ ?_
    refine zW_r rfl trivial ?_
    exact h
  · rw [if_neg c101] at h
    refine zW_s rfl ?_
    have hp105 := h.1; replace h := h.2
    refine zW_p rfl hp105 ?_
    refine zW_s rfl ?_
    refine zW_s rfl ?_
    refine zW_s rfl ?_
    refine zW_s rfl ?_
    refine zW_s rfl ?_
    refine zW_s rfl ?_
    refine zW_p rfl hp105 ?_
    refine zW_s rfl ?_
    have hp106 := h.1; replace h := h.2
    have hp107 := h.1; replace h := h.2
    refine zW_p rfl ⟨hp106, hp107⟩ ?_
    have hp108 := h.1; replace h := h.2
    have hp109 := h.1; replace h := h.2
    refine zW_p rfl ⟨hp108, hp109⟩ ?_
    refine zW_s rfl ?_
    refine zW_s rfl ?_
    exact h
set_option maxHeartbeats 4000000 in
theorem b177 {d : Nat} {r0 : Nat} {x1 : Int32} {x2 : Int32} {x3 : Int32} {σ : zH} {Q : Option Value → zH → Prop} (h : zW (d) 177 3 [(0, .ref r0), (1, .int x1), (2, .int x2), (3, .int x3), (4, .int (nI 0))] [] σ Q) : zM (d) 177 [.ref r0, .int x1, .int x2, .int x3] σ Q := by
  unfold zM
  refine zW_s rfl ?_
  refine zW_s rfl ?_
  exact h
set_option maxHeartbeats 4000000 in
theorem b177_3 {d : Nat} {r0 : Nat} {x1 : Int32} {x2 : Int32} {x3 : Int32} {x4 : Int32} {σ : zH} {Q : Option Value → zH → Prop} (h : (if x3 ≤ x4 then zW (d) 177 41 [(0, .ref r0), (1, .int x1), (3, .int x3), (4, .int (x2 + x3))] [] σ Q else (zK σ r0 = 13) ∧ (zK σ (zQ σ r0 10) = 20) ∧ (vp_in ((((nI 10) * x1) + x2) + x4) (zN σ (zQ σ r0 10))) ∧ (zK σ (zQ σ r0 40) = 20) ∧ (vp_in x4 (zN σ (zQ σ r0 40))) ∧ zW (d) 177 3 [(0, .ref r0), (1, .int x1), (2, .int x2), (3, .int x3), (4, .int (x4 + nI 1))] [] (zsA σ (zQ σ r0 40) x4.toNatClampNeg (zA σ (zQ σ r0 10) ((((nI 10) * x1) + x2) + x4).toNatClampNeg)) Q)) : zW (d) 177 3 [(0, .ref r0), (1, .int x1), (2, .int x2), (3, .int x3), (4, .int x4)] [] σ Q := by
  refine zW_s rfl ?_
  refine zW_s rfl ?_
  refine zW_s rfl ?_
  refine zW_if (fun (c101 : x3 ≤ x4) => ?_) (fun (c101 : ¬ (x3 ≤ x4)) => ?_)
  · rw [if_pos c101] at h
    refine zW_s rfl ?_
    refine zW_s rfl ?_
    refine zW_s rfl ?_
    refine zW_s rfl ?_
    refine zW_k [0, 1, 3, 4] rfl ?_
    exact h
  · rw [if_neg c101] at h
    refine zW_s rfl ?_
    have hp102 := h.1; replace h := h.2
    refine zW_p rfl hp102 ?_
    refine zW_s rfl ?_
    refine zW_s rfl ?_
    refine zW_p rfl hp102 ?_
    refine zW_s rfl ?_
    refine zW_s rfl ?_
    refine zW_s rfl ?_
    refine zW_s rfl ?_
    refine zW_s rfl ?_
    refine zW_s rfl ?_
    refine zW_s rfl ?_
    have hp103 := h.1; replace h := h.2
    have hp104 := h.1; replace h := h.2
    refine zW_p rfl ⟨hp103, hp104⟩ ?_
    have hp105 := h.1; replace h := h.2
    have hp106 := h.1; replace h := h.2
    refine zW_p rfl ⟨hp105, hp106⟩ ?_
    refine zW_s rfl ?_
    refine zW_s rfl ?_
    exact h
set_option maxHeartbeats 4000000 in
theorem b177_41 {d : Nat} {r0 : Nat} {x1 : Int32} {x3 : Int32} {x4 : Int32} {σ : zH} {Q : Option Value → zH → Prop} (h : (zK σ r0 = 13) ∧ (zK σ (zQ σ r0 11) = 20) ∧ (vp_in x1 (zN σ (zQ σ r0 11))) ∧ (if (zA σ (zQ σ r0 11) x1.toNatClampNeg) ≤ x4 then Q none (zsA σ (zQ σ r0 11) x1.toNatClampNeg ((zA σ (zQ σ r0 11) x1.toNatClampNeg) - x3)) else (zK σ (zQ σ r0 10) = 20) ∧ (vp_in (((nI 10) * x1) + x4) (zN σ (zQ σ r0 10))) ∧ (vp_in ((((nI 10) * x1) + x4) - x3) (zN σ (zQ σ r0 10))) ∧ zW (d) 177 41 [(0, .ref r0), (1, .int x1), (3, .int x3), (4, .int (x4 + nI 1))] [] (zsA σ (zQ σ r0 10) ((((nI 10) * x1) + x4) - x3).toNatClampNeg (zA σ (zQ σ r0 10) (((nI 10) * x1) + x4).toNatClampNeg)) Q)) : zW (d) 177 41 [(0, .ref r0), (1, .int x1), (3, .int x3), (4, .int x4)] [] σ Q := by
  refine zW_s rfl ?_
  refine zW_s rfl ?_
  have hp101 := h.1; replace h := h.2
  refine zW_p rfl hp101 ?_
  refine zW_s rfl ?_
  have hp102 := h.1; replace h := h.2
  have hp103 := h.1; replace h := h.2
  refine zW_p rfl ⟨hp102, hp103⟩ ?_
  refine zW_s rfl ?_
  refine zW_if (fun (c104 : (zA σ (zQ σ r0 11) x1.toNatClampNeg) ≤ x4) => ?_) (fun (c104 : ¬ ((zA σ (zQ σ r0 11) x1.toNatClampNeg) ≤ x4)) => ?_)
  · rw [if_pos c104] at h
    refine zW_s rfl ?_
    refine zW_p rfl hp101 ?_
    refine zW_s rfl ?_
    refine zW_s rfl ?_
    refine zW_p rfl ⟨hp102, hp103⟩ ?_
    refine zW_s rfl ?_
    refine zW_s rfl ?_
    refine zW_p rfl ⟨hp102, hp103⟩ ?_
    refine zW_r rfl trivial ?_
    exact h
  · rw [if_neg c104] at h
    refine zW_s rfl ?_
    refine zW_p rfl hp101 ?_
    refine zW_s rfl ?_
    refine zW_s rfl ?_
    refine zW_s rfl ?_
    refine zW_s rfl ?_
    refine zW_s rfl ?_
    refine zW_s rfl ?_
    refine zW_s rfl ?_
    refine zW_s rfl ?_
    refine zW_p rfl hp101 ?_
    refine zW_s rfl ?_
    refine zW_s rfl ?_
    refine zW_s rfl ?_
    refine zW_s rfl ?_
    refine zW_s rfl ?_
    have hp105 := h.1; replace h := h.2
    have hp106 := h.1; replace h := h.2
    refine zW_p rfl ⟨hp105, hp106⟩ ?_
    have hp107 := h.1; replace h := h.2
    refine zW_p rfl ⟨hp105, hp107⟩ ?_
    refine zW_s rfl ?_
    refine zW_s rfl ?_
    exact h
set_option maxHeartbeats 4000000 in
theorem b178 {d : Nat} {r0 : Nat} {x1 : Int32} {σ : zH} {Q : Option Value → zH → Prop} (h : zW (d) 178 2 [(0, .ref r0), (1, .int x1), (2, .int (nI 0))] [] σ Q) : zM (d) 178 [.ref r0, .int x1] σ Q := by
  unfold zM
  refine zW_s rfl ?_
  refine zW_s rfl ?_
  exact h
set_option maxHeartbeats 4000000 in
theorem b178_2 {d : Nat} {r0 : Nat} {x1 : Int32} {x2 : Int32} {σ : zH} {Q : Option Value → zH → Prop} (h : (if x1 ≤ x2 then zW (d) 178 34 [(0, .ref r0), (1, .int x1), (2, .int (nI 0))] [] σ Q else (zK σ r0 = 13) ∧ (zK σ (zQ σ r0 40) = 20) ∧ (vp_in ((x1 - (nI 1)) - x2) (zN σ (zQ σ r0 40))) ∧ (zK σ (zQ σ r0 41) = 20) ∧ (vp_in x2 (zN σ (zQ σ r0 41))) ∧ zW (d) 178 2 [(0, .ref r0), (1, .int x1), (2, .int (x2 + nI 1))] [] (zsA σ (zQ σ r0 41) x2.toNatClampNeg ((zA σ (zQ σ r0 40) ((x1 - (nI 1)) - x2).toNatClampNeg) ^^^ (nI 16))) Q)) : zW (d) 178 2 [(0, .ref r0), (1, .int x1), (2, .int x2)] [] σ Q := by
  refine zW_s rfl ?_
  refine zW_s rfl ?_
  refine zW_s rfl ?_
  refine zW_if (fun (c101 : x1 ≤ x2) => ?_) (fun (c101 : ¬ (x1 ≤ x2)) => ?_)
  · rw [if_pos c101] at h
    refine zW_s rfl ?_
    refine zW_s rfl ?_
    exact h
  · rw [if_neg c101] at h
    refine zW_s rfl ?_
    have hp102 := h.1; replace h := h.2
    refine zW_p rfl hp102 ?_
    refine zW_s rfl ?_
    refine zW_s rfl ?_
    refine zW_p rfl hp102 ?_
    refine zW_s rfl ?_
    refine zW_s rfl ?_
    refine zW_s rfl ?_
    refine zW_s rfl ?_
    refine zW_s rfl ?_
    have hp103 := h.1; replace h := h.2
    have hp104 := h.1; replace h := h.2
    refine zW_p rfl ⟨hp103, hp104⟩ ?_
    refine zW_s rfl ?_
    refine zW_s rfl ?_
    have hp105 := h.1; replace h := h.2
    have hp106 := h.1; replace h := h.2
    refine zW_p rfl ⟨hp105, hp106⟩ ?_
    refine zW_s rfl ?_
    refine zW_s rfl ?_
    exact h
set_option maxHeartbeats 4000000 in
theorem b178_34 {d : Nat} {r0 : Nat} {x1 : Int32} {x2 : Int32} {σ : zH} {Q : Option Value → zH → Prop} (h : (if x1 ≤ x2 then Q none σ else (zK σ r0 = 13) ∧ (zK σ (zQ σ r0 41) = 20) ∧ (vp_in x2 (zN σ (zQ σ r0 41))) ∧ (zK σ (zQ σ r0 40) = 20) ∧ (vp_in x2 (zN σ (zQ σ r0 40))) ∧ zW (d) 178 34 [(0, .ref r0), (1, .int x1), (2, .int (x2 + nI 1))] [] (zsA σ (zQ σ r0 40) x2.toNatClampNeg (zA σ (zQ σ r0 41) x2.toNatClampNeg)) Q)) : zW (d) 178 34 [(0, .ref r0), (1, .int x1), (2, .int x2)] [] σ Q := by
  refine zW_s rfl ?_
  refine zW_s rfl ?_
  refine zW_s rfl ?_
  refine zW_if (fun (c101 : x1 ≤ x2) => ?_) (fun (c101 : ¬ (x1 ≤ x2)) => ?_)
  · rw [if_pos c101] at h
    refine zW_r rfl trivial ?_
    exact h
  · rw [if_neg c101] at h
    refine zW_s rfl ?_
    have hp102 := h.1; replace h := h.2
    refine zW_p rfl hp102 ?_
    refine zW_s rfl ?_
    refine zW_s rfl ?_
    refine zW_p rfl hp102 ?_
    refine zW_s rfl ?_
    have hp103 := h.1; replace h := h.2
    have hp104 := h.1; replace h := h.2
    refine zW_p rfl ⟨hp103, hp104⟩ ?_
    have hp105 := h.1; replace h := h.2
    have hp106 := h.1; replace h := h.2
    refine zW_p rfl ⟨hp105, hp106⟩ ?_
    refine zW_s rfl ?_
    refine zW_s rfl ?_
    exact h
set_option maxHeartbeats 4000000 in
theorem b179 {d : Nat} {r0 : Nat} {x1 : Int32} {x2 : Int32} {σ : zH} {Q : Option Value → zH → Prop} (h : (zK σ r0 = 13) ∧ (zK σ (zQ σ r0 22) = 20) ∧ (vp_in x1 (zN σ (zQ σ r0 22))) ∧ (zK σ (zQ σ r0 25) = 20) ∧ (vp_in x1 (zN σ (zQ σ r0 25))) ∧ (if ¬ (zA σ (zQ σ r0 25) x1.toNatClampNeg) = (nI 11) then (if (zA σ (zQ σ r0 25) x1.toNatClampNeg) = (nI 10) then (zK σ (zQ σ r0 11) = 20) ∧ (vp_in (zA σ (zQ σ r0 22) x1.toNatClampNeg) (zN σ (zQ σ r0 11))) ∧ zW (d + 1) 179 63 [(0, .ref r0), (1, .int x1), (2, .int x2), (3, .int (zA σ (zQ σ r0 22) x1.toNatClampNeg))] [.int (zA σ (zQ σ r0 11) (zA σ (zQ σ r0 22) x1.toNatClampNeg).toNatClampNeg)] σ Q else (zK σ (zQ σ r0 11) = 20) ∧ (vp_in (zA σ (zQ σ r0 22) x1.toNatClampNeg) (zN σ (zQ σ r0 11))) ∧ (if (zA σ (zQ σ r0 25) x1.toNatClampNeg) ≤ (zA σ (zQ σ r0 11) (zA σ (zQ σ r0 22) x1.toNatClampNeg).toNatClampNeg) then zW (d + 1) 179 63 [(0, .ref r0), (1, .int x1), (2, .int x2), (3, .int (zA σ (zQ σ r0 22) x1.toNatClampNeg))] [.int (zA σ (zQ σ r0 25) x1.toNatClampNeg)] σ Q else zW (d + 1) 179 63 [(0, .ref r0), (1, .int x1), (2, .int x2), (3, .int (zA σ (zQ σ r0 22) x1.toNatClampNeg))] [.int (zA σ (zQ σ r0 11) (zA σ (zQ σ r0 22) x1.toNatClampNeg).toNatClampNeg)] σ Q)) else zW (d + 1) 179 63 [(0, .ref r0), (1, .int x1), (2, .int x2), (3, .int (zA σ (zQ σ r0 22) x1.toNatClampNeg))] [.int x2] σ Q)) : zM (d + 1) 179 [.ref r0, .int x1, .int x2] σ Q := by
  unfold zM
  refine zW_s rfl ?_
  have hp101 := h.1; replace h := h.2
  refine zW_p rfl hp101 ?_
  refine zW_s rfl ?_
  have hp102 := h.1; replace h := h.2
  have hp103 := h.1; replace h := h.2
  refine zW_p rfl ⟨hp102, hp103⟩ ?_
  refine zW_s rfl ?_
  refine zW_s rfl ?_
  refine zW_p rfl hp101 ?_
  refine zW_s rfl ?_
  have hp104 := h.1; replace h := h.2
  have hp105 := h.1; replace h := h.2
  refine zW_p rfl ⟨hp104, hp105⟩ ?_
  refine zW_s rfl ?_
  refine zW_s rfl ?_
  refine zW_if (fun (c106 : ¬ (zA σ (zQ σ r0 25) x1.toNatClampNeg) = (nI 11)) => ?_) (fun (c106 : ¬ (¬ (zA σ (zQ σ r0 25) x1.toNatClampNeg) = (nI 11))) => ?_)
  · rw [if_pos c106] at h
    refine zW_s rfl ?_
    refine zW_p rfl hp101 ?_
    refine zW_s rfl ?_
    refine zW_p rfl ⟨hp104, hp105⟩ ?_
    refine zW_s rfl ?_
    refine zW_s rfl ?_
    refine zW_if (fun (c107 : (zA σ (zQ σ r0 25) x1.toNatClampNeg) = (nI 10)) => ?_) (fun (c107 : ¬ ((zA σ (zQ σ r0 25) x1.toNatClampNeg) = (nI 10))) => ?_)
    · rw [if_pos c107] at h
      refine zW_s rfl ?_
      refine zW_p rfl hp101 ?_
      refine zW_s rfl ?_
      have hp108 := h.1; replace h := h.2
      have hp109 := h.1; replace h := h.2
      refine zW_p rfl ⟨hp108, hp109⟩ ?_
      refine zW_s rfl ?_
      exact h
    · rw [if_neg c107] at h
      refine zW_s rfl ?_
      refine zW_p rfl hp101 ?_
      refine zW_s rfl ?_
      refine zW_p rfl ⟨hp104, hp105⟩ ?_
      refine zW_s rfl ?_
      refine zW_p rfl hp101 ?_
      refine zW_s rfl ?_
      have hp110 := h.1; replace h := h.2
      have hp111 := h.1; replace h := h.2
      refine zW_p rfl ⟨hp110, hp111⟩ ?_
      refine zW_s rfl ?_
      refine zW_if (fun (c112 : (zA σ (zQ σ r0 25) x1.toNatClampNeg) ≤ (zA σ (zQ σ r0 11) (zA σ (zQ σ r0 22) x1.toNatClampNeg).toNatClampNeg)) => ?_) (fun (c112 : ¬ ((zA σ (zQ σ r0 25) x1.toNatClampNeg) ≤ (zA σ (zQ σ r0 11) (zA σ (zQ σ r0 22) x1.toNatClampNeg).toNatClampNeg))) => ?_)
      · rw [if_pos c112] at h
        refine zW_s rfl ?_
        refine zW_p rfl hp101 ?_
        refine zW_s rfl ?_
        refine zW_p rfl ⟨hp104, hp105⟩ ?_
        exact h
      · rw [if_neg c112] at h
        refine zW_s rfl ?_
        refine zW_p rfl hp101 ?_
        refine zW_s rfl ?_
        refine zW_p rfl ⟨hp110, hp111⟩ ?_
        refine zW_s rfl ?_
        exact h
  · rw [if_neg c106] at h
    refine zW_s rfl ?_
    refine zW_s rfl ?_
    exact h
set_option maxHeartbeats 4000000 in
theorem b179_63 {d : Nat} {r0 : Nat} {x1 : Int32} {x2 : Int32} {x3 : Int32} {v0 : Int32} {σ : zH} {Q : Option Value → zH → Prop} (h : (zK σ r0 = 13) ∧ (zK σ (zQ σ r0 21) = 21) ∧ (vp_in x1 (zN σ (zQ σ r0 21))) ∧ (if ¬ (lg_cmp (zB σ (zQ σ r0 21) x1.toNatClampNeg) (lN 6518132)) = 0 then (if ¬ (lg_cmp (zB σ (zQ σ r0 21) x1.toNatClampNeg) (lN 1684365676)) = 0 then (if ¬ (lg_cmp (zB σ (zQ σ r0 21) x1.toNatClampNeg) (lN 1836021349)) = 0 then (if ¬ (lg_cmp (zB σ (zQ σ r0 21) x1.toNatClampNeg) (lN 1953854062)) = 0 then (if (lg_cmp (zB σ (zQ σ r0 21) x1.toNatClampNeg) (lN 1952541541)) = 0 then zW (d + 1) 179 284 [(0, .ref r0), (1, .int x1), (2, .int x2), (3, .int x3), (5, .long (zB σ (zQ σ r0 21) x1.toNatClampNeg))] [] σ Q else (if (lg_cmp (zB σ (zQ σ r0 21) x1.toNatClampNeg) (lN 1718380912)) = 0 then zW (d + 1) 179 284 [(0, .ref r0), (1, .int x1), (2, .int x2), (3, .int x3), (5, .long (zB σ (zQ σ r0 21) x1.toNatClampNeg))] [] σ Q else (if ¬ (lg_cmp (zB σ (zQ σ r0 21) x1.toNatClampNeg) (lN 1835102827)) = 0 then (if ¬ (lg_cmp (zB σ (zQ σ r0 21) x1.toNatClampNeg) (lN 1937203568)) = 0 then (if ¬ (lg_cmp (zB σ (zQ σ r0 21) x1.toNatClampNeg) (lN 1685026670)) = 0 then zM d 182 [.ref r0, .int x1, .int x2] σ (fun r σ113 => zqv r (Q none σ113)) else (zK σ (zQ σ r0 24) = 20) ∧ (vp_in x1 (zN σ (zQ σ r0 24))) ∧ zM d 181 [.ref r0, .int x3, .int (zA σ (zQ σ r0 24) x1.toNatClampNeg)] σ (fun r σ116 => zqv r (Q none σ116))) else (zK σ (zQ σ r0 23) = 20) ∧ (vp_in x1 (zN σ (zQ σ r0 23))) ∧ zM d 180 [.ref r0, .int x3, .int (zA σ (zQ σ r0 23) x1.toNatClampNeg)] σ (fun r σ119 => zqv r (Q none σ119))) else zW (d + 1) 179 284 [(0, .ref r0), (1, .int x1), (2, .int x2), (3, .int x3), (5, .long (zB σ (zQ σ r0 21) x1.toNatClampNeg))] [] σ Q))) else zM d 177 [.ref r0, .int x3, .int (nI 0), .int v0] σ (fun r σ120 => zqv r ((zK σ120 r0 = 13) ∧ zM d 178 [.ref r0, .int v0] σ120 (fun r σ122 => zqv r ((zK σ122 r0 = 13) ∧ zM d 176 [.ref r0, .int x3, .int v0] σ122 (fun r σ124 => zqv r (Q none σ124))))))) else zM d 177 [.ref r0, .int x3, .int (nI 0), .int v0] σ (fun r σ125 => zqv r ((zK σ125 r0 = 13) ∧ (zK σ125 (zQ σ125 r0 24) = 20) ∧ (vp_in x1 (zN σ125 (zQ σ125 r0 24))) ∧ zM d 176 [.ref r0, .int (zA σ125 (zQ σ125 r0 24) x1.toNatClampNeg), .int v0] σ125 (fun r σ129 => zqv r (Q none σ129))))) else zW (d + 1) 179 158 [(0, .ref r0), (1, .int x1), (3, .int x3), (4, .int v0), (7, .int (nI 0))] [] σ Q) else zM d 177 [.ref r0, .int x3, .int (nI 0), .int v0] σ (fun r σ130 => zqv r (zW (d + 1) 179 93 [(0, .ref r0), (3, .int x3), (4, .int v0), (7, .int (nI 0))] [] σ130 Q)))) : zW (d + 1) 179 63 [(0, .ref r0), (1, .int x1), (2, .int x2), (3, .int x3)] [.int v0] σ Q := by
  refine zW_s rfl ?_
  refine zW_s rfl ?_
  have hp101 := h.1; replace h := h.2
  refine zW_p rfl hp101 ?_
  refine zW_s rfl ?_
  have hp102 := h.1; replace h := h.2
  have hp103 := h.1; replace h := h.2
  refine zW_p rfl ⟨hp102, hp103⟩ ?_
  refine zW_s rfl ?_
  refine zW_s rfl ?_
  refine zW_s rfl ?_
  refine zW_s rfl ?_
  refine zW_s rfl ?_
  refine zW_if (fun (c104 : ¬ (lg_cmp (zB σ (zQ σ r0 21) x1.toNatClampNeg) (lN 6518132)) = 0) => ?_) (fun (c104 : ¬ (¬ (lg_cmp (zB σ (zQ σ r0 21) x1.toNatClampNeg) (lN 6518132)) = 0)) => ?_)
  · rw [if_pos c104] at h
    refine zW_s rfl ?_
    refine zW_s rfl ?_
    refine zW_s rfl ?_
    refine zW_s rfl ?_
    refine zW_if (fun (c105 : ¬ (lg_cmp (zB σ (zQ σ r0 21) x1.toNatClampNeg) (lN 1684365676)) = 0) => ?_) (fun (c105 : ¬ (¬ (lg_cmp (zB σ (zQ σ r0 21) x1.toNatClampNeg) (lN 1684365676)) = 0)) => ?_)
    · rw [if_pos c105] at h
      refine zW_s rfl ?_
      refine zW_s rfl ?_
      refine zW_s rfl ?_
      refine zW_s rfl ?_
      refine zW_if (fun (c106 : ¬ (lg_cmp (zB σ (zQ σ r0 21) x1.toNatClampNeg) (lN 1836021349)) = 0) => ?_) (fun (c106 : ¬ (¬ (lg_cmp (zB σ (zQ σ r0 21) x1.toNatClampNeg) (lN 1836021349)) = 0)) => ?_)
      · rw [if_pos c106] at h
        refine zW_s rfl ?_
        refine zW_s rfl ?_
        refine zW_s rfl ?_
        refine zW_s rfl ?_
        refine zW_if (fun (c107 : ¬ (lg_cmp (zB σ (zQ σ r0 21) x1.toNatClampNeg) (lN 1953854062)) = 0) => ?_) (fun (c107 : ¬ (¬ (lg_cmp (zB σ (zQ σ r0 21) x1.toNatClampNeg) (lN 1953854062)) = 0)) => ?_)
        · rw [if_pos c107] at h
          refine zW_s rfl ?_
          refine zW_s rfl ?_
          refine zW_s rfl ?_
          refine zW_s rfl ?_
          refine zW_if (fun (c108 : (lg_cmp (zB σ (zQ σ r0 21) x1.toNatClampNeg) (lN 1952541541)) = 0) => ?_) (fun (c108 : ¬ ((lg_cmp (zB σ (zQ σ r0 21) x1.toNatClampNeg) (lN 1952541541)) = 0)) => ?_)
          · rw [if_pos c108] at h
            refine zW_k [0, 1, 2, 3, 5] rfl ?_
            exact h
          · rw [if_neg c108] at h
            refine zW_s rfl ?_
            refine zW_s rfl ?_
            refine zW_s rfl ?_
            refine zW_s rfl ?_
            refine zW_if (fun (c109 : (lg_cmp (zB σ (zQ σ r0 21) x1.toNatClampNeg) (lN 1718380912)) = 0) => ?_) (fun (c109 : ¬ ((lg_cmp (zB σ (zQ σ r0 21) x1.toNatClampNeg) (lN 1718380912)) = 0)) => ?_)
            · rw [if_pos c109] at h
              refine zW_k [0, 1, 2, 3, 5] rfl ?_
              exact h
            · rw [if_neg c109] at h
              refine zW_s rfl ?_
              refine zW_s rfl ?_
              refine zW_s rfl ?_
              refine zW_s rfl ?_
              refine zW_if (fun (c110 : ¬ (lg_cmp (zB σ (zQ σ r0 21) x1.toNatClampNeg) (lN 1835102827)) = 0) => ?_) (fun (c110 : ¬ (¬ (lg_cmp (zB σ (zQ σ r0 21) x1.toNatClampNeg) (lN 1835102827)) = 0)) => ?_)
              · rw [if_pos c110] at h
                refine zW_s rfl ?_
                refine zW_s rfl ?_
                refine zW_s rfl ?_
                refine zW_s rfl ?_
                refine zW_if (fun (c111 : ¬ (lg_cmp (zB σ (zQ σ r0 21) x1.toNatClampNeg) (lN 1937203568)) = 0) => ?_) (fun (c111 : ¬ (¬ (lg_cmp (zB σ (zQ σ r0 21) x1.toNatClampNeg) (lN 1937203568)) = 0)) => ?_)
                · rw [if_pos c111] at h
                  refine zW_s rfl ?_
                  refine zW_s rfl ?_
                  refine zW_s rfl ?_
                  refine zW_s rfl ?_
                  refine zW_if (fun (c112 : ¬ (lg_cmp (zB σ (zQ σ r0 21) x1.toNatClampNeg) (lN 1685026670)) = 0) => ?_) (fun (c112 : ¬ (¬ (lg_cmp (zB σ (zQ σ r0 21) x1.toNatClampNeg) (lN 1685026670)) = 0)) => ?_)
                  · rw [if_pos c112] at h
                    refine zW_s rfl ?_
                    refine zW_s rfl ?_
                    refine zW_s rfl ?_
                    refine zW_c rfl hp101 (zM_m h ?_)
                    intro r σ113 h
                    replace h := zqv_e h
                    obtain ⟨rfl, h⟩ := h
                    refine zW_r rfl trivial ?_
                    exact h
                  · rw [if_neg c112] at h
                    refine zW_s rfl ?_
                    refine zW_s rfl ?_
                    refine zW_s rfl ?_
                    refine zW_p rfl hp101 ?_
                    refine zW_s rfl ?_
                    have hp114 := h.1; replace h := h.2
                    have hp115 := h.1; replace h := h.2
                    refine zW_p rfl ⟨hp114, hp115⟩ ?_
                    refine zW_c rfl hp101 (zM_m h ?_)
                    intro r σ116 h
                    replace h := zqv_e h
                    obtain ⟨rfl, h⟩ := h
                    refine zW_s rfl ?_
                    refine zW_r rfl trivial ?_
                    exact h
                · rw [if_neg c111] at h
                  refine zW_s rfl ?_
                  refine zW_s rfl ?_
                  refine zW_s rfl ?_
                  refine zW_p rfl hp101 ?_
                  refine zW_s rfl ?_
                  have hp117 := h.1; replace h := h.2
                  have hp118 := h.1; replace h := h.2
                  refine zW_p rfl ⟨hp117, hp118⟩ ?_
                  refine zW_c rfl hp101 (zM_m h ?_)
                  intro r σ119 h
                  replace h := zqv_e h
                  obtain ⟨rfl, h⟩ := h
                  refine zW_s rfl ?_
                  refine zW_r rfl trivial ?_
                  exact h
              · rw [if_neg c110] at h
                refine zW_k [0, 1, 2, 3, 5] rfl ?_
                exact h
        · rw [if_neg c107] at h
          refine zW_s rfl ?_
          refine zW_s rfl ?_
          refine zW_s rfl ?_
          refine zW_s rfl ?_
          refine zW_c rfl hp101 (zM_m h ?_)
          intro r σ120 h
          replace h := zqv_e h
          obtain ⟨rfl, h⟩ := h
          refine zW_s rfl ?_
          refine zW_s rfl ?_
          have hp121 := h.1; replace h := h.2
          refine zW_c rfl hp121 (zM_m h ?_)
          intro r σ122 h
          replace h := zqv_e h
          obtain ⟨rfl, h⟩ := h
          refine zW_s rfl ?_
          refine zW_s rfl ?_
          refine zW_s rfl ?_
          have hp123 := h.1; replace h := h.2
          refine zW_c rfl hp123 (zM_m h ?_)
          intro r σ124 h
          replace h := zqv_e h
          obtain ⟨rfl, h⟩ := h
          refine zW_s rfl ?_
          refine zW_r rfl trivial ?_
          exact h
      · rw [if_neg c106] at h
        refine zW_s rfl ?_
        refine zW_s rfl ?_
        refine zW_s rfl ?_
        refine zW_s rfl ?_
        refine zW_c rfl hp101 (zM_m h ?_)
        intro r σ125 h
        replace h := zqv_e h
        obtain ⟨rfl, h⟩ := h
        refine zW_s rfl ?_
        refine zW_s rfl ?_
        have hp126 := h.1; replace h := h.2
        refine zW_p rfl hp126 ?_
        refine zW_s rfl ?_
        have hp127 := h.1; replace h := h.2
        have hp128 := h.1; replace h := h.2
        refine zW_p rfl ⟨hp127, hp128⟩ ?_
        refine zW_s rfl ?_
        refine zW_c rfl hp126 (zM_m h ?_)
        intro r σ129 h
        replace h := zqv_e h
        obtain ⟨rfl, h⟩ := h
        refine zW_s rfl ?_
        refine zW_r rfl trivial ?_
        exact h
    · rw [if_neg c105] at h
      refine zW_s rfl ?_
      refine zW_s rfl ?_
      refine zW_k [0, 1, 3, 4, 6] rfl ?_
      exact h
  · rw [if_neg c104] at h
    refine zW_s rfl ?_
    refine zW_s rfl ?_
    refine zW_s rfl ?_
    refine zW_s rfl ?_
    refine zW_c rfl hp101 (zM_m h ?_)
    intro r σ130 h
    replace h := zqv_e h
    obtain ⟨rfl, h⟩ := h
    refine zW_s rfl ?_
    refine zW_s rfl ?_
    refine zW_k [0, 3, 4, 6] rfl ?_
    exact h
set_option maxHeartbeats 4000000 in
theorem b179_284 {d : Nat} {r0 : Nat} {x1 : Int32} {x2 : Int32} {x3 : Int32} {y5 : Int64} {σ : zH} {Q : Option Value → zH → Prop} (h : (zK σ r0 = 13) ∧ (zK σ (zQ σ r0 25) = 20) ∧ (vp_in x1 (zN σ (zQ σ r0 25))) ∧ (if ¬ (zA σ (zQ σ r0 25) x1.toNatClampNeg) = (nI 11) then zW (d + 1) 179 307 [(0, .ref r0), (1, .int x1), (3, .int x3), (5, .long y5)] [.int ((zA σ (zQ σ r0 25) x1.toNatClampNeg) - (nI 1))] σ Q else zW (d + 1) 179 307 [(0, .ref r0), (1, .int x1), (3, .int x3), (5, .long y5)] [.int x2] σ Q)) : zW (d + 1) 179 284 [(0, .ref r0), (1, .int x1), (2, .int x2), (3, .int x3), (5, .long y5)] [] σ Q := by
  refine zW_s rfl ?_
  have hp101 := h.1; replace h := h.2
  refine zW_p rfl hp101 ?_
  refine zW_s rfl ?_
  have hp102 := h.1; replace h := h.2
  have hp103 := h.1; replace h := h.2
  refine zW_p rfl ⟨hp102, hp103⟩ ?_
  refine zW_s rfl ?_
  refine zW_s rfl ?_
  refine zW_if (fun (c104 : ¬ (zA σ (zQ σ r0 25) x1.toNatClampNeg) = (nI 11)) => ?_) (fun (c104 : ¬ (¬ (zA σ (zQ σ r0 25) x1.toNatClampNeg) = (nI 11))) => ?_)
  · rw [if_pos c104] at h
    refine zW_s rfl ?_
    refine zW_p rfl hp101 ?_
    refine zW_s rfl ?_
    refine zW_p rfl ⟨hp102, hp103⟩ ?_
    refine zW_s rfl ?_
    refine zW_s rfl ?_
    refine zW_k [0, 1, 3, 4] rfl ?_
    exact h
  · rw [if_neg c104] at h
    refine zW_s rfl ?_
    refine zW_s rfl ?_
    refine zW_k [0, 1, 3, 4] rfl ?_
    exact h
set_option maxHeartbeats 4000000 in
theorem b179_158 {d : Nat} {r0 : Nat} {x1 : Int32} {x3 : Int32} {x4 : Int32} {x7 : Int32} {σ : zH} {Q : Option Value → zH → Prop} (h : (if x4 ≤ x7 then Q none σ else (zK σ r0 = 13) ∧ zM d 177 [.ref r0, .int x3, .int (nI 0), .int (nI 1)] σ (fun r σ103 => zqv r ((zK σ103 r0 = 13) ∧ (zK σ103 (zQ σ103 r0 24) = 20) ∧ (vp_in x1 (zN σ103 (zQ σ103 r0 24))) ∧ zM d 176 [.ref r0, .int (zA σ103 (zQ σ103 r0 24) x1.toNatClampNeg), .int (nI 1)] σ103 (fun r σ107 => zqv r (zW (d + 1) 179 158 [(0, .ref r0), (1, .int x1), (3, .int x3), (4, .int x4), (7, .int (x7 + nI 1))] [] σ107 Q)))))) : zW (d + 1) 179 158 [(0, .ref r0), (1, .int x1), (3, .int x3), (4, .int x4), (7, .int x7)] [] σ Q := by
  refine zW_s rfl ?_
  refine zW_s rfl ?_
  refine zW_s rfl ?_
  refine zW_if (fun (c101 : x4 ≤ x7) => ?_) (fun (c101 : ¬ (x4 ≤ x7)) => ?_)
  · rw [if_pos c101] at h
    refine zW_s rfl ?_
    refine zW_r rfl trivial ?_
    exact h
  · rw [if_neg c101] at h
    refine zW_s rfl ?_
    refine zW_s rfl ?_
    refine zW_s rfl ?_
    refine zW_s rfl ?_
    have hp102 := h.1; replace h := h.2
    refine zW_c rfl hp102 (zM_m h ?_)
    intro r σ103 h
    replace h := zqv_e h
    obtain ⟨rfl, h⟩ := h
    refine zW_s rfl ?_
    refine zW_s rfl ?_
    have hp104 := h.1; replace h := h.2
    refine zW_p rfl hp104 ?_
    refine zW_s rfl ?_
    have hp105 := h.1; replace h := h.2
    have hp106 := h.1; replace h := h.2
    refine zW_p rfl ⟨hp105, hp106⟩ ?_
    refine zW_s rfl ?_
    refine zW_c rfl hp104 (zM_m h ?_)
    intro r σ107 h
    replace h := zqv_e h
    obtain ⟨rfl, h⟩ := h
    refine zW_s rfl ?_
    refine zW_s rfl ?_
    exact h
set_option maxHeartbeats 4000000 in
theorem b179_93 {d : Nat} {r0 : Nat} {x3 : Int32} {x4 : Int32} {x7 : Int32} {σ : zH} {Q : Option Value → zH → Prop} (h : (if x4 ≤ x7 then (zK σ r0 = 13) ∧ (zK σ (zQ σ r0 11) = 20) ∧ (vp_in x3 (zN σ (zQ σ r0 11))) ∧ Q none (zsA σ (zQ σ r0 11) x3.toNatClampNeg ((zA σ (zQ σ r0 11) x3.toNatClampNeg) + x4)) else (zK σ r0 = 13) ∧ (zK σ (zQ σ r0 11) = 20) ∧ (vp_in x3 (zN σ (zQ σ r0 11))) ∧ (zK σ (zQ σ r0 40) = 20) ∧ (vp_in x7 (zN σ (zQ σ r0 40))) ∧ (zK σ (zQ σ r0 10) = 20) ∧ (vp_in ((((nI 10) * x3) + (zA σ (zQ σ r0 11) x3.toNatClampNeg)) + x7) (zN σ (zQ σ r0 10))) ∧ zW (d + 1) 179 93 [(0, .ref r0), (3, .int x3), (4, .int x4), (7, .int (x7 + nI 1))] [] (zsA σ (zQ σ r0 10) ((((nI 10) * x3) + (zA σ (zQ σ r0 11) x3.toNatClampNeg)) + x7).toNatClampNeg (zA σ (zQ σ r0 40) x7.toNatClampNeg)) Q)) : zW (d + 1) 179 93 [(0, .ref r0), (3, .int x3), (4, .int x4), (7, .int x7)] [] σ Q := by
  refine zW_s rfl ?_
  refine zW_s rfl ?_
  refine zW_s rfl ?_
  refine zW_if (fun (c101 : x4 ≤ x7) => ?_) (fun (c101 : ¬ (x4 ≤ x7)) => ?_)
  · rw [if_pos c101] at h
    refine zW_s rfl ?_
    have hp102 := h.1; replace h := h.2
    refine zW_p rfl hp102 ?_
    refine zW_s rfl ?_
    refine zW_s rfl ?_
    have hp103 := h.1; replace h := h.2
    have hp104 := h.1; replace h := h.2
    refine zW_p rfl ⟨hp103, hp104⟩ ?_
    refine zW_s rfl ?_
    refine zW_s rfl ?_
    refine zW_p rfl ⟨hp103, hp104⟩ ?_
    refine zW_s rfl ?_
    refine zW_r rfl trivial ?_
    exact h
  · rw [if_neg c101] at h
    refine zW_s rfl ?_
    have hp105 := h.1; replace h := h.2
    refine zW_p rfl hp105 ?_
    refine zW_s rfl ?_
    refine zW_s rfl ?_
    refine zW_s rfl ?_
    refine zW_s rfl ?_
    refine zW_p rfl hp105 ?_
    refine zW_s rfl ?_
    have hp106 := h.1; replace h := h.2
    have hp107 := h.1; replace h := h.2
    refine zW_p rfl ⟨hp106, hp107⟩ ?_
    refine zW_s rfl ?_
    refine zW_s rfl ?_
    refine zW_s rfl ?_
    refine zW_s rfl ?_
    refine zW_p rfl hp105 ?_
    refine zW_s rfl ?_
    have hp108 := h.1; replace h := h.2
    have hp109 := h.1; replace h := h.2
    refine zW_p rfl ⟨hp108, hp109⟩ ?_
    have hp110 := h.1; replace h := h.2
    have hp111 := h.1; replace h := h.2
    refine zW_p rfl ⟨hp110, hp111⟩ ?_
    refine zW_s rfl ?_
    refine zW_s rfl ?_
    exact h
set_option maxHeartbeats 4000000 in
theorem b179_307 {d : Nat} {r0 : Nat} {x1 : Int32} {x3 : Int32} {y5 : Int64} {v0 : Int32} {σ : zH} {Q : Option Value → zH → Prop} (h : (zK σ r0 = 13) ∧ (zK σ (zQ σ r0 11) = 20) ∧ (vp_in x3 (zN σ (zQ σ r0 11))) ∧ (if v0 < (zA σ (zQ σ r0 11) x3.toNatClampNeg) then (if ¬ (lg_cmp y5 (lN 1718380912)) = 0 then (if ¬ (lg_cmp y5 (lN 1835102827)) = 0 then zM d 177 [.ref r0, .int x3, .int v0, .int (nI 1)] σ (fun r σ107 => zqv r ((zK σ107 r0 = 13) ∧ (zK σ107 (zQ σ107 r0 24) = 20) ∧ (vp_in x1 (zN σ107 (zQ σ107 r0 24))) ∧ zM d 176 [.ref r0, .int (zA σ107 (zQ σ107 r0 24) x1.toNatClampNeg), .int (nI 1)] σ107 (fun r σ111 => zqv r (Q none σ111)))) else zM d 170 [.ref r0, .int x3, .int v0] σ (fun r σ112 => zqi r (fun x113 => (zK σ112 r0 = 13) ∧ Q none (zsI σ112 r0 12 x113)))) else (zK σ (zQ σ r0 10) = 20) ∧ (vp_in (((nI 10) * x3) + v0) (zN σ (zQ σ r0 10))) ∧ Q none (zsA σ (zQ σ r0 10) (((nI 10) * x3) + v0).toNatClampNeg ((zA σ (zQ σ r0 10) (((nI 10) * x3) + v0).toNatClampNeg) ^^^ (nI 16)))) else Q none σ)) : zW (d + 1) 179 307 [(0, .ref r0), (1, .int x1), (3, .int x3), (5, .long y5)] [.int v0] σ Q := by
  refine zW_s rfl ?_
  refine zW_s rfl ?_
  refine zW_s rfl ?_
  have hp101 := h.1; replace h := h.2
  refine zW_p rfl hp101 ?_
  refine zW_s rfl ?_
  have hp102 := h.1; replace h := h.2
  have hp103 := h.1; replace h := h.2
  refine zW_p rfl ⟨hp102, hp103⟩ ?_
  refine zW_s rfl ?_
  refine zW_if (fun (c104 : v0 < (zA σ (zQ σ r0 11) x3.toNatClampNeg)) => ?_) (fun (c104 : ¬ (v0 < (zA σ (zQ σ r0 11) x3.toNatClampNeg))) => ?_)
  · rw [if_pos c104] at h
    refine zW_s rfl ?_
    refine zW_s rfl ?_
    refine zW_s rfl ?_
    refine zW_s rfl ?_
    refine zW_if (fun (c105 : ¬ (lg_cmp y5 (lN 1718380912)) = 0) => ?_) (fun (c105 : ¬ (¬ (lg_cmp y5 (lN 1718380912)) = 0)) => ?_)
    · rw [if_pos c105] at h
      refine zW_s rfl ?_
      refine zW_s rfl ?_
      refine zW_s rfl ?_
      refine zW_s rfl ?_
      refine zW_if (fun (c106 : ¬ (lg_cmp y5 (lN 1835102827)) = 0) => ?_) (fun (c106 : ¬ (¬ (lg_cmp y5 (lN 1835102827)) = 0)) => ?_)
      · rw [if_pos c106] at h
        refine zW_s rfl ?_
        refine zW_s rfl ?_
        refine zW_s rfl ?_
        refine zW_s rfl ?_
        refine zW_c rfl hp101 (zM_m h ?_)
        intro r σ107 h
        replace h := zqv_e h
        obtain ⟨rfl, h⟩ := h
        refine zW_s rfl ?_
        refine zW_s rfl ?_
        have hp108 := h.1; replace h := h.2
        refine zW_p rfl hp108 ?_
        refine zW_s rfl ?_
        have hp109 := h.1; replace h := h.2
        have hp110 := h.1; replace h := h.2
        refine zW_p rfl ⟨hp109, hp110⟩ ?_
        refine zW_s rfl ?_
        refine zW_c rfl hp108 (zM_m h ?_)
        intro r σ111 h
        replace h := zqv_e h
        obtain ⟨rfl, h⟩ := h
        refine zW_s rfl ?_
        refine zW_r rfl trivial ?_
        exact h
      · rw [if_neg c106] at h
        refine zW_s rfl ?_
        refine zW_s rfl ?_
        refine zW_s rfl ?_
        refine zW_s rfl ?_
        refine zW_c rfl hp101 (zM_m h ?_)
        intro r σ112 h
        replace h := zqi_e h
        obtain ⟨x113, rfl, h⟩ := h
        have hp114 := h.1; replace h := h.2
        refine zW_p rfl hp114 ?_
        refine zW_s rfl ?_
        refine zW_s rfl ?_
        refine zW_r rfl trivial ?_
        exact h
    · rw [if_neg c105] at h
      refine zW_s rfl ?_
      refine zW_p rfl hp101 ?_
      refine zW_s rfl ?_
      refine zW_s rfl ?_
      refine zW_s rfl ?_
      refine zW_s rfl ?_
      refine zW_s rfl ?_
      refine zW_s rfl ?_
      have hp115 := h.1; replace h := h.2
      have hp116 := h.1; replace h := h.2
      refine zW_p rfl ⟨hp115, hp116⟩ ?_
      refine zW_s rfl ?_
      refine zW_s rfl ?_
      refine zW_p rfl ⟨hp115, hp116⟩ ?_
      refine zW_s rfl ?_
      refine zW_s rfl ?_
      refine zW_r rfl trivial ?_
      exact h
  · rw [if_neg c104] at h
    refine zW_r rfl trivial ?_
    exact h
set_option maxHeartbeats 4000000 in
theorem b180 {d : Nat} {r0 : Nat} {x1 : Int32} {x2 : Int32} {σ : zH} {Q : Option Value → zH → Prop} (h : zW (d) 180 2 [(0, .ref r0), (1, .int x1), (2, .int x2), (3, .int (nI 0))] [] σ Q) : zM (d) 180 [.ref r0, .int x1, .int x2] σ Q := by
  unfold zM
  refine zW_s rfl ?_
  refine zW_s rfl ?_
  exact h
set_option maxHeartbeats 4000000 in
theorem b180_2 {d : Nat} {r0 : Nat} {x1 : Int32} {x2 : Int32} {x3 : Int32} {σ : zH} {Q : Option Value → zH → Prop} (h : (if (nI 9) ≤ x3 then (zK σ r0 = 13) ∧ (zK σ (zQ σ r0 11) = 20) ∧ (vp_in x1 (zN σ (zQ σ r0 11))) ∧ (vp_in x2 (zN σ (zQ σ r0 11))) ∧ Q none (zsA (zsA σ (zQ σ r0 11) x1.toNatClampNeg (zA σ (zQ σ r0 11) x2.toNatClampNeg)) (zQ σ r0 11) x2.toNatClampNeg (zA σ (zQ σ r0 11) x1.toNatClampNeg)) else (zK σ r0 = 13) ∧ (zK σ (zQ σ r0 10) = 20) ∧ (vp_in (((nI 10) * x1) + x3) (zN σ (zQ σ r0 10))) ∧ (vp_in (((nI 10) * x2) + x3) (zN σ (zQ σ r0 10))) ∧ zW (d) 180 2 [(0, .ref r0), (1, .int x1), (2, .int x2), (3, .int (x3 + nI 1))] [] (zsA (zsA σ (zQ σ r0 10) (((nI 10) * x1) + x3).toNatClampNeg (zA σ (zQ σ r0 10) (((nI 10) * x2) + x3).toNatClampNeg)) (zQ σ r0 10) (((nI 10) * x2) + x3).toNatClampNeg (zA σ (zQ σ r0 10) (((nI 10) * x1) + x3).toNatClampNeg)) Q)) : zW (d) 180 2 [(0, .ref r0), (1, .int x1), (2, .int x2), (3, .int x3)] [] σ Q := by
  refine zW_s rfl ?_
  refine zW_s rfl ?_
  refine zW_s rfl ?_
  refine zW_if (fun (c101 : (nI 9) ≤ x3) => ?_) (fun (c101 : ¬ ((nI 9) ≤ x3)) => ?_)
  · rw [if_pos c101] at h
    refine zW_s rfl ?_
    have hp102 := h.1; replace h := h.2
    refine zW_p rfl hp102 ?_
    refine zW_s rfl ?_
    have hp103 := h.1; replace h := h.2
    have hp104 := h.1; replace h := h.2
    refine zW_p rfl ⟨hp103, hp104⟩ ?_
    refine zW_s rfl ?_
    refine zW_s rfl ?_
    refine zW_p rfl hp102 ?_
    refine zW_s rfl ?_
    refine zW_s rfl ?_
    refine zW_p rfl hp102 ?_
    refine zW_s rfl ?_
    have hp105 := h.1; replace h := h.2
    refine zW_p rfl ⟨hp103, hp105⟩ ?_
    refine zW_p rfl ⟨hp103, hp104⟩ ?_
    refine zW_s rfl ?_
    refine zW_p rfl hp102 ?_
    refine zW_s rfl ?_
    refine zW_s rfl ?_
    refine zW_p rfl ⟨hp103, hp105⟩ ?_
    refine zW_r rfl trivial ?_
    exact h
  · rw [if_neg c101] at h
    refine zW_s rfl ?_
    have hp106 := h.1; replace h := h.2
    refine zW_p rfl hp106 ?_
    refine zW_s rfl ?_
    refine zW_s rfl ?_
    refine zW_s rfl ?_
    refine zW_s rfl ?_
    refine zW_s rfl ?_
    have hp107 := h.1; replace h := h.2
    have hp108 := h.1; replace h := h.2
    refine zW_p rfl ⟨hp107, hp108⟩ ?_
    refine zW_s rfl ?_
    refine zW_s rfl ?_
    refine zW_p rfl hp106 ?_
    refine zW_s rfl ?_
    refine zW_s rfl ?_
    refine zW_s rfl ?_
    refine zW_s rfl ?_
    refine zW_s rfl ?_
    refine zW_s rfl ?_
    refine zW_p rfl hp106 ?_
    refine zW_s rfl ?_
    refine zW_s rfl ?_
    refine zW_s rfl ?_
    refine zW_s rfl ?_
    refine zW_s rfl ?_
    have hp109 := h.1; replace h := h.2
    refine zW_p rfl ⟨hp107, hp109⟩ ?_
    refine zW_p rfl ⟨hp107, hp108⟩ ?_
    refine zW_s rfl ?_
    refine zW_p rfl hp106 ?_
    refine zW_s rfl ?_
    refine zW_s rfl ?_
    refine zW_s rfl ?_
    refine zW_s rfl ?_
    refine zW_s rfl ?_
    refine zW_s rfl ?_
    refine zW_p rfl ⟨hp107, hp109⟩ ?_
    refine zW_s rfl ?_
    refine zW_s rfl ?_
    refine zW_k [0, 1, 2, 3] rfl ?_
    exact h
set_option maxHeartbeats 4000000 in
theorem b181 {d : Nat} {r0 : Nat} {x1 : Int32} {x2 : Int32} {σ : zH} {Q : Option Value → zH → Prop} (h : zW (d + 1) 181 2 [(0, .ref r0), (1, .int x1), (2, .int x2), (3, .int (nI 1))] [] σ Q) : zM (d + 1) 181 [.ref r0, .int x1, .int x2] σ Q := by
  unfold zM
  refine zW_s rfl ?_
  refine zW_s rfl ?_
  exact h
set_option maxHeartbeats 4000000 in
theorem b181_2 {d : Nat} {r0 : Nat} {x1 : Int32} {x2 : Int32} {x3 : Int32} {σ : zH} {Q : Option Value → zH → Prop} (h : (zK σ r0 = 13) ∧ (zK σ (zQ σ r0 11) = 20) ∧ (vp_in x1 (zN σ (zQ σ r0 11))) ∧ (if (zA σ (zQ σ r0 11) x1.toNatClampNeg) ≤ 0 then Q none σ else zM d 177 [.ref r0, .int x1, .int (nI 0), .int (nI 1)] σ (fun r σ105 => zqv r ((if ¬ x3 = 0 then zW (d + 1) 181 31 [(0, .ref r0), (1, .int x1), (2, .int x2), (3, .int x3)] [] σ105 Q else (zK σ105 r0 = 13) ∧ (zK σ105 (zQ σ105 r0 11) = 20) ∧ (vp_in x1 (zN σ105 (zQ σ105 r0 11))) ∧ (if ¬ (zA σ105 (zQ σ105 r0 11) x1.toNatClampNeg) = 0 then (zK σ105 (zQ σ105 r0 40) = 20) ∧ (vp_in (nI 0) (zN σ105 (zQ σ105 r0 40))) ∧ (zK σ105 (zQ σ105 r0 10) = 20) ∧ (vp_in (((nI 10) * x1) + (zA σ105 (zQ σ105 r0 11) x1.toNatClampNeg)) (zN σ105 (zQ σ105 r0 10))) ∧ zW (d + 1) 181 2 [(0, .ref r0), (1, .int x1), (2, .int x2), (3, .int (if ¬ x3 = 0 then nI 0 else nI 1))] [] (zsA (zsA σ105 (zQ σ105 r0 10) (((nI 10) * x1) + (zA σ105 (zQ σ105 r0 11) x1.toNatClampNeg)).toNatClampNeg (zA σ105 (zQ σ105 r0 40) (nI 0).toNatClampNeg)) (zQ σ105 r0 11) x1.toNatClampNeg ((zA (zsA σ105 (zQ σ105 r0 10) (((nI 10) * x1) + (zA σ105 (zQ σ105 r0 11) x1.toNatClampNeg)).toNatClampNeg (zA σ105 (zQ σ105 r0 40) (nI 0).toNatClampNeg)) (zQ σ105 r0 11) x1.toNatClampNeg) + (nI 1))) Q else zW (d + 1) 181 31 [(0, .ref r0), (1, .int x1), (2, .int x2), (3, .int x3)] [] σ105 Q)))))) : zW (d + 1) 181 2 [(0, .ref r0), (1, .int x1), (2, .int x2), (3, .int x3)] [] σ Q := by
  refine zW_s rfl ?_
  have hp101 := h.1; replace h := h.2
  refine zW_p rfl hp101 ?_
  refine zW_s rfl ?_
  have hp102 := h.1; replace h := h.2
  have hp103 := h.1; replace h := h.2
  refine zW_p rfl ⟨hp102, hp103⟩ ?_
  refine zW_s rfl ?_
  refine zW_if (fun (c104 : (zA σ (zQ σ r0 11) x1.toNatClampNeg) ≤ 0) => ?_) (fun (c104 : ¬ ((zA σ (zQ σ r0 11) x1.toNatClampNeg) ≤ 0)) => ?_)
  · rw [if_pos c104] at h
    refine zW_r rfl trivial ?_
    exact h
  · rw [if_neg c104] at h
    refine zW_s rfl ?_
    refine zW_s rfl ?_
    refine zW_s rfl ?_
    refine zW_s rfl ?_
    refine zW_c rfl hp101 (zM_m h ?_)
    intro r σ105 h
    replace h := zqv_e h
    obtain ⟨rfl, h⟩ := h
    refine zW_s rfl ?_
    refine zW_s rfl ?_
    refine zW_if (fun (c106 : ¬ x3 = 0) => ?_) (fun (c106 : ¬ (¬ x3 = 0)) => ?_)
    · rw [if_pos c106] at h
      exact h
    · rw [if_neg c106] at h
      refine zW_s rfl ?_
      have hp107 := h.1; replace h := h.2
      refine zW_p rfl hp107 ?_
      refine zW_s rfl ?_
      have hp108 := h.1; replace h := h.2
      have hp109 := h.1; replace h := h.2
      refine zW_p rfl ⟨hp108, hp109⟩ ?_
      refine zW_s rfl ?_
      refine zW_if (fun (c110 : ¬ (zA σ105 (zQ σ105 r0 11) x1.toNatClampNeg) = 0) => ?_) (fun (c110 : ¬ (¬ (zA σ105 (zQ σ105 r0 11) x1.toNatClampNeg) = 0)) => ?_)
      · rw [if_pos c110] at h
        refine zW_s rfl ?_
        refine zW_p rfl hp107 ?_
        refine zW_s rfl ?_
        refine zW_s rfl ?_
        refine zW_s rfl ?_
        refine zW_s rfl ?_
        refine zW_p rfl hp107 ?_
        refine zW_s rfl ?_
        refine zW_p rfl ⟨hp108, hp109⟩ ?_
        refine zW_s rfl ?_
        refine zW_s rfl ?_
        refine zW_p rfl hp107 ?_
        refine zW_s rfl ?_
        have hp111 := h.1; replace h := h.2
        have hp112 := h.1; replace h := h.2
        refine zW_p rfl ⟨hp111, hp112⟩ ?_
        have hp113 := h.1; replace h := h.2
        have hp114 := h.1; replace h := h.2
        refine zW_p rfl ⟨hp113, hp114⟩ ?_
        refine zW_s rfl ?_
        refine zW_p rfl hp107 ?_
        refine zW_s rfl ?_
        refine zW_s rfl ?_
        refine zW_p rfl ⟨hp108, hp109⟩ ?_
        refine zW_s rfl ?_
        refine zW_s rfl ?_
        refine zW_p rfl ⟨hp108, hp109⟩ ?_
        refine zW_s rfl ?_
        refine zW_s rfl ?_
        have k : ∀ v : Int32, v = (if ¬ x3 = 0 then nI 0 else nI 1) → zW (d + 1) 181 81 [(0, .ref r0), (1, .int x1), (2, .int x2), (3, .int x3)] [.int v] (zsA (zsA σ105 (zQ σ105 r0 10) (((nI 10) * x1) + (zA σ105 (zQ σ105 r0 11) x1.toNatClampNeg)).toNatClampNeg (zA σ105 (zQ σ105 r0 40) (nI 0).toNatClampNeg)) (zQ σ105 r0 11) x1.toNatClampNeg ((zA (zsA σ105 (zQ σ105 r0 10) (((nI 10) * x1) + (zA σ105 (zQ σ105 r0 11) x1.toNatClampNeg)).toNatClampNeg (zA σ105 (zQ σ105 r0 40) (nI 0).toNatClampNeg)) (zQ σ105 r0 11) x1.toNatClampNeg) + (nI 1))) Q := by
          intro v hv
          subst hv
          refine zW_s rfl ?_
          refine zW_s rfl ?_
          exact h
        refine zW_if (fun (c115 : ¬ x3 = 0) => ?_) (fun (c115 : ¬ (¬ x3 = 0)) => ?_)
        · replace k := k _ (if_pos c115).symm
          refine zW_s rfl ?_
          exact k
        · replace k := k _ (if_neg c115).symm
          refine zW_s rfl ?_
          refine zW_s rfl ?_
          exact k
      · rw [if_neg c110] at h
        exact h
set_option maxHeartbeats 4000000 in
theorem b181_31 {d : Nat} {r0 : Nat} {x1 : Int32} {x2 : Int32} {x3 : Int32} {σ : zH} {Q : Option Value → zH → Prop} (h : (zK σ r0 = 13) ∧ zM d 176 [.ref r0, .int x2, .int (nI 1)] σ (fun r σ102 => zqv r (zW (d + 1) 181 2 [(0, .ref r0), (1, .int x1), (2, .int x2), (3, .int (if ¬ x3 = 0 then nI 0 else nI 1))] [] σ102 Q))) : zW (d + 1) 181 31 [(0, .ref r0), (1, .int x1), (2, .int x2), (3, .int x3)] [] σ Q := by
  refine zW_s rfl ?_
  refine zW_s rfl ?_
  refine zW_s rfl ?_
  have hp101 := h.1; replace h := h.2
  refine zW_c rfl hp101 (zM_m h ?_)
  intro r σ102 h
  replace h := zqv_e h
  obtain ⟨rfl, h⟩ := h
  refine zW_s rfl ?_
  refine zW_s rfl ?_
  refine zW_s rfl ?_
  have k : ∀ v : Int32, v = (if ¬ x3 = 0 then nI 0 else nI 1) → zW (d + 1) 181 81 [(0, .ref r0), (1, .int x1), (2, .int x2), (3, .int x3)] [.int v] σ102 Q := by
    intro v hv
    subst hv
    refine zW_s rfl ?_
    refine zW_s rfl ?_
    exact h
  refine zW_if (fun (c103 : ¬ x3 = 0) => ?_) (fun (c103 : ¬ (¬ x3 = 0)) => ?_)
  · replace k := k _ (if_pos c103).symm
    refine zW_s rfl ?_
    exact k
  · replace k := k _ (if_neg c103).symm
    refine zW_s rfl ?_
    refine zW_s rfl ?_
    exact k
