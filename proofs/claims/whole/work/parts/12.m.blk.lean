set_option maxHeartbeats 4000000 in
theorem b182 {d : Nat} {r0 : Nat} {x1 : Int32} {x2 : Int32} {σ : zH} {Q : Option Value → zH → Prop} (h : (zK σ r0 = 13) ∧ (zK σ (zQ σ r0 22) = 20) ∧ (vp_in x1 (zN σ (zQ σ r0 22))) ∧ (zK σ (zQ σ r0 23) = 20) ∧ (vp_in x1 (zN σ (zQ σ r0 23))) ∧ (zK σ (zQ σ r0 11) = 20) ∧ (vp_in (zA σ (zQ σ r0 22) x1.toNatClampNeg) (zN σ (zQ σ r0 11))) ∧ (vp_in (zA σ (zQ σ r0 23) x1.toNatClampNeg) (zN σ (zQ σ r0 11))) ∧ zW (d + 1) 182 45 [(0, .ref r0), (1, .int x1), (3, .int (zA σ (zQ σ r0 22) x1.toNatClampNeg)), (4, .int (zA σ (zQ σ r0 23) x1.toNatClampNeg)), (5, .int (nI 0)), (6, .int (nI 0)), (7, .int (zA σ (zQ σ r0 11) (zA σ (zQ σ r0 22) x1.toNatClampNeg).toNatClampNeg)), (8, .int (zA σ (zQ σ r0 11) (zA σ (zQ σ r0 23) x1.toNatClampNeg).toNatClampNeg)), (9, .long (x2.toInt64)), (11, .int (nI 0))] [] σ Q) : zM (d + 1) 182 [.ref r0, .int x1, .int x2] σ Q := by
  unfold zM
  refine zW_s rfl ?_
  have hp101 := h.1; replace h := h.2
  refine zW_p rfl hp101 ?_
  refine zW_s rfl ?_
  have hp102 := h.1; replace h := h.2
  have hp103 := h.1; replace h := h.2
  refine zW_p rfl ⟨hp102, hp103⟩ ?_
  refine zW_s rfl ?_
  refine zW_s rfl ?_
  refine zW_p rfl hp101 ?_
  refine zW_s rfl ?_
  have hp104 := h.1; replace h := h.2
  have hp105 := h.1; replace h := h.2
  refine zW_p rfl ⟨hp104, hp105⟩ ?_
  refine zW_s rfl ?_
  refine zW_s rfl ?_
  refine zW_s rfl ?_
  refine zW_s rfl ?_
  refine zW_s rfl ?_
  refine zW_s rfl ?_
  refine zW_p rfl hp101 ?_
  refine zW_s rfl ?_
  have hp106 := h.1; replace h := h.2
  have hp107 := h.1; replace h := h.2
  refine zW_p rfl ⟨hp106, hp107⟩ ?_
  refine zW_s rfl ?_
  refine zW_s rfl ?_
  refine zW_p rfl hp101 ?_
  refine zW_s rfl ?_
  have hp108 := h.1; replace h := h.2
  refine zW_p rfl ⟨hp106, hp108⟩ ?_
  refine zW_s rfl ?_
  refine zW_s rfl ?_
  refine zW_s rfl ?_
  refine zW_s rfl ?_
  refine zW_s rfl ?_
  refine zW_s rfl ?_
  refine zW_k [0, 1, 3, 4, 5, 6, 7, 8, 9, 10] rfl ?_
  exact h
set_option maxHeartbeats 4000000 in
theorem b182_45 {d : Nat} {r0 : Nat} {x1 : Int32} {x3 : Int32} {x4 : Int32} {x5 : Int32} {x6 : Int32} {x7 : Int32} {x8 : Int32} {y9 : Int64} {x11 : Int32} {σ : zH} {Q : Option Value → zH → Prop} (h : (if x5 < x7 then zW (d + 1) 182 59 [(0, .ref r0), (1, .int x1), (3, .int x3), (4, .int x4), (5, .int x5), (6, .int x6), (7, .int x7), (8, .int x8), (9, .long y9), (11, .int x11)] [] σ Q else (if x8 ≤ x6 then (zK σ r0 = 13) ∧ (zK σ (zQ σ r0 11) = 20) ∧ (vp_in x3 (zN σ (zQ σ r0 11))) ∧ (vp_in x4 (zN σ (zQ σ r0 11))) ∧ zW (d + 1) 182 236 [(0, .ref r0), (1, .int x1), (11, .int x11), (12, .int (nI 0))] [] (zsA (zsA σ (zQ σ r0 11) x3.toNatClampNeg (nI 0)) (zQ σ r0 11) x4.toNatClampNeg (nI 0)) Q else zW (d + 1) 182 59 [(0, .ref r0), (1, .int x1), (3, .int x3), (4, .int x4), (5, .int x5), (6, .int x6), (7, .int x7), (8, .int x8), (9, .long y9), (11, .int x11)] [] σ Q))) : zW (d + 1) 182 45 [(0, .ref r0), (1, .int x1), (3, .int x3), (4, .int x4), (5, .int x5), (6, .int x6), (7, .int x7), (8, .int x8), (9, .long y9), (11, .int x11)] [] σ Q := by
  refine zW_s rfl ?_
  refine zW_s rfl ?_
  refine zW_s rfl ?_
  refine zW_if (fun (c101 : x5 < x7) => ?_) (fun (c101 : ¬ (x5 < x7)) => ?_)
  · rw [if_pos c101] at h
    exact h
  · rw [if_neg c101] at h
    refine zW_s rfl ?_
    refine zW_s rfl ?_
    refine zW_s rfl ?_
    refine zW_if (fun (c102 : x8 ≤ x6) => ?_) (fun (c102 : ¬ (x8 ≤ x6)) => ?_)
    · rw [if_pos c102] at h
      refine zW_s rfl ?_
      have hp103 := h.1; replace h := h.2
      refine zW_p rfl hp103 ?_
      refine zW_s rfl ?_
      refine zW_s rfl ?_
      have hp104 := h.1; replace h := h.2
      have hp105 := h.1; replace h := h.2
      refine zW_p rfl ⟨hp104, hp105⟩ ?_
      refine zW_s rfl ?_
      refine zW_p rfl hp103 ?_
      refine zW_s rfl ?_
      refine zW_s rfl ?_
      have hp106 := h.1; replace h := h.2
      refine zW_p rfl ⟨hp104, hp106⟩ ?_
      refine zW_s rfl ?_
      refine zW_s rfl ?_
      refine zW_k [0, 1, 9, 10] rfl ?_
      exact h
    · rw [if_neg c102] at h
      exact h
set_option maxHeartbeats 4000000 in
theorem b182_59 {d : Nat} {r0 : Nat} {x1 : Int32} {x3 : Int32} {x4 : Int32} {x5 : Int32} {x6 : Int32} {x7 : Int32} {x8 : Int32} {y9 : Int64} {x11 : Int32} {σ : zH} {Q : Option Value → zH → Prop} (h : (zK σ r0 = 13) ∧ (zK σ (zQ σ r0 21) = 21) ∧ (vp_in x1 (zN σ (zQ σ r0 21))) ∧ (if ¬ (lg_cmp (zB σ (zQ σ r0 21) x1.toNatClampNeg) (lN 1717662319)) = 0 then (if x7 ≤ x5 then zW (d + 1) 182 129 [(0, .ref r0), (1, .int x1), (3, .int x3), (4, .int x4), (5, .int x5), (6, .int x6), (7, .int x7), (8, .int x8), (9, .long y9), (11, .int x11)] [.long (lN 0)] σ Q else zM d 174 [.int ((x7 - x5) - (nI 1)), .int (x8 - x6)] σ (fun r σ106 => zql r (fun x107 => zW (d + 1) 182 129 [(0, .ref r0), (1, .int x1), (3, .int x3), (4, .int x4), (5, .int x5), (6, .int x6), (7, .int x7), (8, .int x8), (9, .long y9), (11, .int x11)] [.long x107] σ106 Q))) else (if x6 = x8 then zW (d + 1) 182 158 [(0, .ref r0), (1, .int x1), (3, .int x3), (4, .int x4), (5, .int x5), (6, .int x6), (7, .int x7), (8, .int x8), (9, .long y9), (11, .int x11), (12, .int (nI 1))] [] σ Q else (if x7 ≤ x5 then zW (d + 1) 182 158 [(0, .ref r0), (1, .int x1), (3, .int x3), (4, .int x4), (5, .int x5), (6, .int x6), (7, .int x7), (8, .int x8), (9, .long y9), (11, .int x11), (12, .int (nI 0))] [] σ Q else zW (d + 1) 182 158 [(0, .ref r0), (1, .int x1), (3, .int x3), (4, .int x4), (5, .int x5), (6, .int x6), (7, .int x7), (8, .int x8), (9, .long y9), (11, .int x11), (12, .int (if x6 < x5 then nI 0 else nI 1))] [] σ Q)))) : zW (d + 1) 182 59 [(0, .ref r0), (1, .int x1), (3, .int x3), (4, .int x4), (5, .int x5), (6, .int x6), (7, .int x7), (8, .int x8), (9, .long y9), (11, .int x11)] [] σ Q := by
  refine zW_s rfl ?_
  have hp101 := h.1; replace h := h.2
  refine zW_p rfl hp101 ?_
  refine zW_s rfl ?_
  have hp102 := h.1; replace h := h.2
  have hp103 := h.1; replace h := h.2
  refine zW_p rfl ⟨hp102, hp103⟩ ?_
  refine zW_s rfl ?_
  refine zW_s rfl ?_
  refine zW_s rfl ?_
  refine zW_if (fun (c104 : ¬ (lg_cmp (zB σ (zQ σ r0 21) x1.toNatClampNeg) (lN 1717662319)) = 0) => ?_) (fun (c104 : ¬ (¬ (lg_cmp (zB σ (zQ σ r0 21) x1.toNatClampNeg) (lN 1717662319)) = 0)) => ?_)
  · rw [if_pos c104] at h
    refine zW_s rfl ?_
    refine zW_s rfl ?_
    refine zW_s rfl ?_
    refine zW_if (fun (c105 : x7 ≤ x5) => ?_) (fun (c105 : ¬ (x7 ≤ x5)) => ?_)
    · rw [if_pos c105] at h
      refine zW_s rfl ?_
      exact h
    · rw [if_neg c105] at h
      refine zW_s rfl ?_
      refine zW_s rfl ?_
      refine zW_s rfl ?_
      refine zW_s rfl ?_
      refine zW_s rfl ?_
      refine zW_s rfl ?_
      refine zW_s rfl ?_
      refine zW_s rfl ?_
      refine zW_c rfl trivial (zM_m h ?_)
      intro r σ106 h
      replace h := zql_e h
      obtain ⟨x107, rfl, h⟩ := h
      refine zW_s rfl ?_
      exact h
  · rw [if_neg c104] at h
    refine zW_s rfl ?_
    refine zW_s rfl ?_
    refine zW_s rfl ?_
    refine zW_if (fun (c108 : x6 = x8) => ?_) (fun (c108 : ¬ (x6 = x8)) => ?_)
    · rw [if_pos c108] at h
      refine zW_s rfl ?_
      refine zW_s rfl ?_
      refine zW_s rfl ?_
      refine zW_s rfl ?_
      exact h
    · rw [if_neg c108] at h
      refine zW_s rfl ?_
      refine zW_s rfl ?_
      refine zW_s rfl ?_
      refine zW_if (fun (c109 : x7 ≤ x5) => ?_) (fun (c109 : ¬ (x7 ≤ x5)) => ?_)
      · rw [if_pos c109] at h
        refine zW_s rfl ?_
        refine zW_s rfl ?_
        refine zW_s rfl ?_
        exact h
      · rw [if_neg c109] at h
        refine zW_s rfl ?_
        refine zW_s rfl ?_
        refine zW_s rfl ?_
        have k : ∀ v : Int32, v = (if x6 < x5 then nI 0 else nI 1) → zW (d + 1) 182 98 [(0, .ref r0), (1, .int x1), (3, .int x3), (4, .int x4), (5, .int x5), (6, .int x6), (7, .int x7), (8, .int x8), (9, .long y9), (11, .int x11)] [.int v] σ Q := by
          intro v hv
          subst hv
          refine zW_s rfl ?_
          refine zW_s rfl ?_
          exact h
        refine zW_if (fun (c110 : x6 < x5) => ?_) (fun (c110 : ¬ (x6 < x5)) => ?_)
        · replace k := k _ (if_pos c110).symm
          refine zW_s rfl ?_
          exact k
        · replace k := k _ (if_neg c110).symm
          refine zW_s rfl ?_
          refine zW_s rfl ?_
          exact k
set_option maxHeartbeats 4000000 in
theorem b182_236 {d : Nat} {r0 : Nat} {x1 : Int32} {x11 : Int32} {x12 : Int32} {σ : zH} {Q : Option Value → zH → Prop} (h : (if x11 ≤ x12 then (zK σ r0 = 13) ∧ (zK σ (zQ σ r0 24) = 20) ∧ (vp_in x1 (zN σ (zQ σ r0 24))) ∧ zM d 176 [.ref r0, .int (zA σ (zQ σ r0 24) x1.toNatClampNeg), .int x11] σ (fun r σ105 => zqv r (Q none σ105)) else (zK σ r0 = 13) ∧ (zK σ (zQ σ r0 41) = 20) ∧ (vp_in x12 (zN σ (zQ σ r0 41))) ∧ (zK σ (zQ σ r0 40) = 20) ∧ (vp_in x12 (zN σ (zQ σ r0 40))) ∧ zW (d + 1) 182 236 [(0, .ref r0), (1, .int x1), (11, .int x11), (12, .int (x12 + nI 1))] [] (zsA σ (zQ σ r0 40) x12.toNatClampNeg (zA σ (zQ σ r0 41) x12.toNatClampNeg)) Q)) : zW (d + 1) 182 236 [(0, .ref r0), (1, .int x1), (11, .int x11), (12, .int x12)] [] σ Q := by
  refine zW_s rfl ?_
  refine zW_s rfl ?_
  refine zW_s rfl ?_
  refine zW_if (fun (c101 : x11 ≤ x12) => ?_) (fun (c101 : ¬ (x11 ≤ x12)) => ?_)
  · rw [if_pos c101] at h
    refine zW_s rfl ?_
    refine zW_s rfl ?_
    have hp102 := h.1; replace h := h.2
    refine zW_p rfl hp102 ?_
    refine zW_s rfl ?_
    have hp103 := h.1; replace h := h.2
    have hp104 := h.1; replace h := h.2
    refine zW_p rfl ⟨hp103, hp104⟩ ?_
    refine zW_s rfl ?_
    refine zW_c rfl hp102 (zM_m h ?_)
    intro r σ105 h
    replace h := zqv_e h
    obtain ⟨rfl, h⟩ := h
    refine zW_r rfl trivial ?_
    exact h
  · rw [if_neg c101] at h
    refine zW_s rfl ?_
    have hp106 := h.1; replace h := h.2
    refine zW_p rfl hp106 ?_
    refine zW_s rfl ?_
    refine zW_s rfl ?_
    refine zW_p rfl hp106 ?_
    refine zW_s rfl ?_
    have hp107 := h.1; replace h := h.2
    have hp108 := h.1; replace h := h.2
    refine zW_p rfl ⟨hp107, hp108⟩ ?_
    have hp109 := h.1; replace h := h.2
    have hp110 := h.1; replace h := h.2
    refine zW_p rfl ⟨hp109, hp110⟩ ?_
    refine zW_s rfl ?_
    refine zW_s rfl ?_
    exact h
set_option maxHeartbeats 4000000 in
theorem b182_129 {d : Nat} {r0 : Nat} {x1 : Int32} {x3 : Int32} {x4 : Int32} {x5 : Int32} {x6 : Int32} {x7 : Int32} {x8 : Int32} {y9 : Int64} {x11 : Int32} {v0 : Int64} {σ : zH} {Q : Option Value → zH → Prop} (h : (if ¬ (if 0 ≤ (lg_cmp y9 v0) then nI 0 else nI 1) = 0 then zW (d + 1) 182 158 [(0, .ref r0), (1, .int x1), (3, .int x3), (4, .int x4), (5, .int x5), (6, .int x6), (7, .int x7), (8, .int x8), (9, .long y9), (11, .int x11), (12, .int (if 0 ≤ (lg_cmp y9 v0) then nI 0 else nI 1))] [] σ Q else zW (d + 1) 182 158 [(0, .ref r0), (1, .int x1), (3, .int x3), (4, .int x4), (5, .int x5), (6, .int x6), (7, .int x7), (8, .int x8), (9, .long (y9 - v0)), (11, .int x11), (12, .int (if 0 ≤ (lg_cmp y9 v0) then nI 0 else nI 1))] [] σ Q)) : zW (d + 1) 182 129 [(0, .ref r0), (1, .int x1), (3, .int x3), (4, .int x4), (5, .int x5), (6, .int x6), (7, .int x7), (8, .int x8), (9, .long y9), (11, .int x11)] [.long v0] σ Q := by
  refine zW_s rfl ?_
  refine zW_s rfl ?_
  refine zW_s rfl ?_
  refine zW_s rfl ?_
  refine zW_s rfl ?_
  have k : ∀ v : Int32, v = (if 0 ≤ (lg_cmp y9 v0) then nI 0 else nI 1) → zW (d + 1) 182 144 [(0, .ref r0), (1, .int x1), (3, .int x3), (4, .int x4), (5, .int x5), (6, .int x6), (7, .int x7), (8, .int x8), (9, .long y9), (11, .int x11), (13, .long v0)] [.int v] σ Q := by
    intro v hv
    subst hv
    refine zW_s rfl ?_
    refine zW_s rfl ?_
    refine zW_s rfl ?_
    refine zW_if (fun (c102 : ¬ (if 0 ≤ (lg_cmp y9 v0) then nI 0 else nI 1) = 0) => ?_) (fun (c102 : ¬ (¬ (if 0 ≤ (lg_cmp y9 v0) then nI 0 else nI 1) = 0)) => ?_)
    · rw [if_pos c102] at h
      refine zW_k [0, 1, 2, 3, 4, 5, 6, 7, 8, 9, 11] rfl ?_
      exact h
    · rw [if_neg c102] at h
      refine zW_s rfl ?_
      refine zW_s rfl ?_
      refine zW_s rfl ?_
      refine zW_s rfl ?_
      refine zW_k [0, 1, 2, 3, 4, 5, 6, 7, 8, 9, 11] rfl ?_
      exact h
  refine zW_if (fun (c101 : 0 ≤ (lg_cmp y9 v0)) => ?_) (fun (c101 : ¬ (0 ≤ (lg_cmp y9 v0))) => ?_)
  · replace k := k _ (if_pos c101).symm
    refine zW_s rfl ?_
    exact k
  · replace k := k _ (if_neg c101).symm
    refine zW_s rfl ?_
    refine zW_s rfl ?_
    exact k
set_option maxHeartbeats 4000000 in
theorem b182_158 {d : Nat} {r0 : Nat} {x1 : Int32} {x3 : Int32} {x4 : Int32} {x5 : Int32} {x6 : Int32} {x7 : Int32} {x8 : Int32} {y9 : Int64} {x11 : Int32} {x12 : Int32} {σ : zH} {Q : Option Value → zH → Prop} (h : (zK σ r0 = 13) ∧ (if x12 = 0 then (zK σ (zQ σ r0 10) = 20) ∧ (vp_in (((nI 10) * x4) + x6) (zN σ (zQ σ r0 10))) ∧ (zK σ (zQ σ r0 41) = 20) ∧ (vp_in x11 (zN σ (zQ σ r0 41))) ∧ (if x12 = 0 then zW (d + 1) 182 45 [(0, .ref r0), (1, .int x1), (3, .int x3), (4, .int x4), (5, .int x5), (6, .int (x6 + nI 1)), (7, .int x7), (8, .int x8), (9, .long y9), (11, .int (x11 + nI 1))] [] (zsA σ (zQ σ r0 41) x11.toNatClampNeg (zA σ (zQ σ r0 10) (((nI 10) * x4) + x6).toNatClampNeg)) Q else zW (d + 1) 182 45 [(0, .ref r0), (1, .int x1), (3, .int x3), (4, .int x4), (5, .int (x5 + nI 1)), (6, .int x6), (7, .int x7), (8, .int x8), (9, .long y9), (11, .int (x11 + nI 1))] [] (zsA σ (zQ σ r0 41) x11.toNatClampNeg (zA σ (zQ σ r0 10) (((nI 10) * x4) + x6).toNatClampNeg)) Q) else (zK σ (zQ σ r0 10) = 20) ∧ (vp_in (((nI 10) * x3) + x5) (zN σ (zQ σ r0 10))) ∧ (zK σ (zQ σ r0 41) = 20) ∧ (vp_in x11 (zN σ (zQ σ r0 41))) ∧ (if x12 = 0 then zW (d + 1) 182 45 [(0, .ref r0), (1, .int x1), (3, .int x3), (4, .int x4), (5, .int x5), (6, .int (x6 + nI 1)), (7, .int x7), (8, .int x8), (9, .long y9), (11, .int (x11 + nI 1))] [] (zsA σ (zQ σ r0 41) x11.toNatClampNeg (zA σ (zQ σ r0 10) (((nI 10) * x3) + x5).toNatClampNeg)) Q else zW (d + 1) 182 45 [(0, .ref r0), (1, .int x1), (3, .int x3), (4, .int x4), (5, .int (x5 + nI 1)), (6, .int x6), (7, .int x7), (8, .int x8), (9, .long y9), (11, .int (x11 + nI 1))] [] (zsA σ (zQ σ r0 41) x11.toNatClampNeg (zA σ (zQ σ r0 10) (((nI 10) * x3) + x5).toNatClampNeg)) Q))) : zW (d + 1) 182 158 [(0, .ref r0), (1, .int x1), (3, .int x3), (4, .int x4), (5, .int x5), (6, .int x6), (7, .int x7), (8, .int x8), (9, .long y9), (11, .int x11), (12, .int x12)] [] σ Q := by
  refine zW_s rfl ?_
  have hp101 := h.1; replace h := h.2
  refine zW_p rfl hp101 ?_
  refine zW_s rfl ?_
  refine zW_s rfl ?_
  refine zW_s rfl ?_
  refine zW_if (fun (c102 : x12 = 0) => ?_) (fun (c102 : ¬ (x12 = 0)) => ?_)
  · rw [if_pos c102] at h
    refine zW_s rfl ?_
    refine zW_p rfl hp101 ?_
    refine zW_s rfl ?_
    refine zW_s rfl ?_
    refine zW_s rfl ?_
    refine zW_s rfl ?_
    refine zW_s rfl ?_
    have hp103 := h.1; replace h := h.2
    have hp104 := h.1; replace h := h.2
    refine zW_p rfl ⟨hp103, hp104⟩ ?_
    have hp105 := h.1; replace h := h.2
    have hp106 := h.1; replace h := h.2
    refine zW_p rfl ⟨hp105, hp106⟩ ?_
    refine zW_s rfl ?_
    refine zW_s rfl ?_
    refine zW_s rfl ?_
    refine zW_if (fun (c107 : x12 = 0) => ?_) (fun (c107 : ¬ (x12 = 0)) => ?_)
    · rw [if_pos c107] at h
      refine zW_s rfl ?_
      refine zW_s rfl ?_
      refine zW_k [0, 1, 2, 3, 4, 5, 6, 7, 8, 9] rfl ?_
      exact h
    · rw [if_neg c107] at h
      refine zW_s rfl ?_
      refine zW_s rfl ?_
      refine zW_s rfl ?_
      refine zW_k [0, 1, 2, 3, 4, 5, 6, 7, 8, 9] rfl ?_
      exact h
  · rw [if_neg c102] at h
    refine zW_s rfl ?_
    refine zW_p rfl hp101 ?_
    refine zW_s rfl ?_
    refine zW_s rfl ?_
    refine zW_s rfl ?_
    refine zW_s rfl ?_
    refine zW_s rfl ?_
    have hp108 := h.1; replace h := h.2
    have hp109 := h.1; replace h := h.2
    refine zW_p rfl ⟨hp108, hp109⟩ ?_
    refine zW_s rfl ?_
    have hp110 := h.1; replace h := h.2
    have hp111 := h.1; replace h := h.2
    refine zW_p rfl ⟨hp110, hp111⟩ ?_
    refine zW_s rfl ?_
    refine zW_s rfl ?_
    refine zW_s rfl ?_
    refine zW_if (fun (c112 : x12 = 0) => ?_) (fun (c112 : ¬ (x12 = 0)) => ?_)
    · rw [if_pos c112] at h
      refine zW_s rfl ?_
      refine zW_s rfl ?_
      refine zW_k [0, 1, 2, 3, 4, 5, 6, 7, 8, 9] rfl ?_
      exact h
    · rw [if_neg c112] at h
      refine zW_s rfl ?_
      refine zW_s rfl ?_
      refine zW_s rfl ?_
      refine zW_k [0, 1, 2, 3, 4, 5, 6, 7, 8, 9] rfl ?_
      exact h
set_option maxHeartbeats 4000000 in
theorem b183 {d : Nat} {r0 : Nat} {x1 : Int32} {σ : zH} {Q : Option Value → zH → Prop} (h : (zK σ r0 = 13) ∧ (zK σ (zQ σ r0 44) = 20) ∧ (vp_in x1 (zN σ (zQ σ r0 44))) ∧ (if ¬ x1 = (zI σ r0 47) then Q none (zsA σ (zQ σ r0 44) x1.toNatClampNeg (nI 0)) else zW (d) 183 17 [(0, .ref r0), (2, .int (nI 0))] [] (zsA σ (zQ σ r0 44) x1.toNatClampNeg (nI 0)) Q)) : zM (d) 183 [.ref r0, .int x1] σ Q := by
  unfold zM
  refine zW_s rfl ?_
  have hp101 := h.1; replace h := h.2
  refine zW_p rfl hp101 ?_
  refine zW_s rfl ?_
  refine zW_s rfl ?_
  have hp102 := h.1; replace h := h.2
  have hp103 := h.1; replace h := h.2
  refine zW_p rfl ⟨hp102, hp103⟩ ?_
  refine zW_s rfl ?_
  refine zW_s rfl ?_
  refine zW_p rfl hp101 ?_
  refine zW_s rfl ?_
  refine zW_if (fun (c104 : ¬ x1 = (zI σ r0 47)) => ?_) (fun (c104 : ¬ (¬ x1 = (zI σ r0 47))) => ?_)
  · rw [if_pos c104] at h
    refine zW_r rfl trivial ?_
    exact h
  · rw [if_neg c104] at h
    refine zW_s rfl ?_
    refine zW_s rfl ?_
    refine zW_k [0, 2] rfl ?_
    exact h
set_option maxHeartbeats 4000000 in
theorem b183_17 {d : Nat} {r0 : Nat} {x2 : Int32} {σ : zH} {Q : Option Value → zH → Prop} (h : (if (nI 8192) ≤ x2 then Q none σ else (zK σ r0 = 13) ∧ (zK σ (zQ σ r0 45) = 20) ∧ (vp_in x2 (zN σ (zQ σ r0 45))) ∧ zW (d) 183 17 [(0, .ref r0), (2, .int (x2 + nI 1))] [] (zsA σ (zQ σ r0 45) x2.toNatClampNeg (nI 0)) Q)) : zW (d) 183 17 [(0, .ref r0), (2, .int x2)] [] σ Q := by
  refine zW_s rfl ?_
  refine zW_s rfl ?_
  refine zW_s rfl ?_
  refine zW_if (fun (c101 : (nI 8192) ≤ x2) => ?_) (fun (c101 : ¬ ((nI 8192) ≤ x2)) => ?_)
  · rw [if_pos c101] at h
    refine zW_r rfl trivial ?_
    exact h
  · rw [if_neg c101] at h
    refine zW_s rfl ?_
    have hp102 := h.1; replace h := h.2
    refine zW_p rfl hp102 ?_
    refine zW_s rfl ?_
    refine zW_s rfl ?_
    have hp103 := h.1; replace h := h.2
    have hp104 := h.1; replace h := h.2
    refine zW_p rfl ⟨hp103, hp104⟩ ?_
    refine zW_s rfl ?_
    refine zW_s rfl ?_
    exact h
set_option maxHeartbeats 4000000 in
theorem b184 {d : Nat} {r0 : Nat} {x1 : Int32} {σ : zH} {Q : Option Value → zH → Prop} (h : (zK σ r0 = 13) ∧ zM d 183 [.ref r0, .int x1] (zsI σ r0 47 x1) (fun r σ102 => zqv r (Q none σ102))) : zM (d + 1) 184 [.ref r0, .int x1] σ Q := by
  unfold zM
  refine zW_s rfl ?_
  refine zW_s rfl ?_
  have hp101 := h.1; replace h := h.2
  refine zW_p rfl hp101 ?_
  refine zW_s rfl ?_
  refine zW_s rfl ?_
  refine zW_c rfl hp101 (zM_m h ?_)
  intro r σ102 h
  replace h := zqv_e h
  obtain ⟨rfl, h⟩ := h
  refine zW_r rfl trivial ?_
  exact h
set_option maxHeartbeats 4000000 in
theorem b185 {d : Nat} {r0 : Nat} {y1 : Int64} {y3 : Int64} {σ : zH} {Q : Option Value → zH → Prop} (h : (zK σ r0 = 13) ∧ zW (d) 185 21 [(0, .ref r0), (1, .long y1), (3, .long y3), (5, .int ((zlus (y1 * (Int64.ofInt (-7046029254386353131))) (nI 51)).toInt32)), (6, .int ((nI 3001) * (zI σ r0 47)))] [] σ Q) : zM (d) 185 [.ref r0, .long y1, .long y3] σ Q := by
  unfold zM
  refine zW_s rfl ?_
  refine zW_s rfl ?_
  refine zW_s rfl ?_
  refine zW_s rfl ?_
  refine zW_s rfl ?_
  refine zW_s rfl ?_
  refine zW_s rfl ?_
  refine zW_s rfl ?_
  refine zW_s rfl ?_
  have hp101 := h.1; replace h := h.2
  refine zW_p rfl hp101 ?_
  refine zW_s rfl ?_
  refine zW_s rfl ?_
  exact h
set_option maxHeartbeats 4000000 in
theorem b185_21 {d : Nat} {r0 : Nat} {y1 : Int64} {y3 : Int64} {x5 : Int32} {x6 : Int32} {σ : zH} {Q : Option Value → zH → Prop} (h : (zK σ r0 = 13) ∧ (zK σ (zQ σ r0 45) = 20) ∧ (vp_in x5 (zN σ (zQ σ r0 45))) ∧ (if (zA σ (zQ σ r0 45) x5.toNatClampNeg) ≤ 0 then zW (d) 185 66 [(0, .ref r0), (1, .long y1), (3, .long y3), (5, .int x5), (6, .int x6)] [] σ Q else (zK σ (zQ σ r0 42) = 21) ∧ (vp_in ((x6 + (zA σ (zQ σ r0 45) x5.toNatClampNeg)) - (nI 1)) (zN σ (zQ σ r0 42))) ∧ (if (lg_cmp (zB σ (zQ σ r0 42) ((x6 + (zA σ (zQ σ r0 45) x5.toNatClampNeg)) - (nI 1)).toNatClampNeg) y1) = 0 then zW (d) 185 66 [(0, .ref r0), (1, .long y1), (3, .long y3), (5, .int x5), (6, .int x6)] [] σ Q else zW (d) 185 21 [(0, .ref r0), (1, .long y1), (3, .long y3), (5, .int ((x5 + (nI 1)) &&& (nI 8191))), (6, .int x6)] [] σ Q))) : zW (d) 185 21 [(0, .ref r0), (1, .long y1), (3, .long y3), (5, .int x5), (6, .int x6)] [] σ Q := by
  refine zW_s rfl ?_
  have hp101 := h.1; replace h := h.2
  refine zW_p rfl hp101 ?_
  refine zW_s rfl ?_
  have hp102 := h.1; replace h := h.2
  have hp103 := h.1; replace h := h.2
  refine zW_p rfl ⟨hp102, hp103⟩ ?_
  refine zW_s rfl ?_
  refine zW_if (fun (c104 : (zA σ (zQ σ r0 45) x5.toNatClampNeg) ≤ 0) => ?_) (fun (c104 : ¬ ((zA σ (zQ σ r0 45) x5.toNatClampNeg) ≤ 0)) => ?_)
  · rw [if_pos c104] at h
    exact h
  · rw [if_neg c104] at h
    refine zW_s rfl ?_
    refine zW_p rfl hp101 ?_
    refine zW_s rfl ?_
    refine zW_s rfl ?_
    refine zW_p rfl hp101 ?_
    refine zW_s rfl ?_
    refine zW_p rfl ⟨hp102, hp103⟩ ?_
    refine zW_s rfl ?_
    refine zW_s rfl ?_
    refine zW_s rfl ?_
    have hp105 := h.1; replace h := h.2
    have hp106 := h.1; replace h := h.2
    refine zW_p rfl ⟨hp105, hp106⟩ ?_
    refine zW_s rfl ?_
    refine zW_s rfl ?_
    refine zW_s rfl ?_
    refine zW_if (fun (c107 : (lg_cmp (zB σ (zQ σ r0 42) ((x6 + (zA σ (zQ σ r0 45) x5.toNatClampNeg)) - (nI 1)).toNatClampNeg) y1) = 0) => ?_) (fun (c107 : ¬ ((lg_cmp (zB σ (zQ σ r0 42) ((x6 + (zA σ (zQ σ r0 45) x5.toNatClampNeg)) - (nI 1)).toNatClampNeg) y1) = 0)) => ?_)
    · rw [if_pos c107] at h
      exact h
    · rw [if_neg c107] at h
      refine zW_s rfl ?_
      refine zW_s rfl ?_
      refine zW_s rfl ?_
      refine zW_s rfl ?_
      refine zW_s rfl ?_
      refine zW_s rfl ?_
      refine zW_s rfl ?_
      exact h
set_option maxHeartbeats 4000000 in
theorem b185_66 {d : Nat} {r0 : Nat} {y1 : Int64} {y3 : Int64} {x5 : Int32} {x6 : Int32} {σ : zH} {Q : Option Value → zH → Prop} (h : (zK σ r0 = 13) ∧ (zK σ (zQ σ r0 45) = 20) ∧ (vp_in x5 (zN σ (zQ σ r0 45))) ∧ (if (zA σ (zQ σ r0 45) x5.toNatClampNeg) ≤ 0 then (zK σ (zQ σ r0 44) = 20) ∧ (vp_in (zI σ r0 47) (zN σ (zQ σ r0 44))) ∧ (if ¬ (zA σ (zQ σ r0 44) (zI σ r0 47).toNatClampNeg) = (nI 3000) then (zK σ (zQ σ r0 42) = 21) ∧ (vp_in (x6 + (zA σ (zQ σ r0 44) (zI σ r0 47).toNatClampNeg)) (zN σ (zQ σ r0 42))) ∧ (zK σ (zQ σ r0 43) = 21) ∧ (vp_in (x6 + (zA σ (zQ σ r0 44) (zI σ r0 47).toNatClampNeg)) (zN σ (zQ σ r0 43))) ∧ Q none (zsA (zsA (zsB (zsB σ (zQ σ r0 42) (x6 + (zA σ (zQ σ r0 44) (zI σ r0 47).toNatClampNeg)).toNatClampNeg y1) (zQ σ r0 43) (x6 + (zA σ (zQ σ r0 44) (zI σ r0 47).toNatClampNeg)).toNatClampNeg y3) (zQ σ r0 44) (zI σ r0 47).toNatClampNeg ((zA σ (zQ σ r0 44) (zI σ r0 47).toNatClampNeg) + (nI 1))) (zQ σ r0 45) x5.toNatClampNeg (zA (zsA σ (zQ σ r0 44) (zI σ r0 47).toNatClampNeg ((zA σ (zQ σ r0 44) (zI σ r0 47).toNatClampNeg) + (nI 1))) (zQ σ r0 44) (zI σ r0 47).toNatClampNeg)) else Q none (zsI σ r0 46 (nI 1))) else (zK σ (zQ σ r0 43) = 21) ∧ (vp_in ((x6 + (zA σ (zQ σ r0 45) x5.toNatClampNeg)) - (nI 1)) (zN σ (zQ σ r0 43))) ∧ (if 0 ≤ (lg_cmp y3 (zB σ (zQ σ r0 43) ((x6 + (zA σ (zQ σ r0 45) x5.toNatClampNeg)) - (nI 1)).toNatClampNeg)) then Q none (zsB σ (zQ σ r0 43) ((x6 + (zA σ (zQ σ r0 45) x5.toNatClampNeg)) - (nI 1)).toNatClampNeg (zB σ (zQ σ r0 43) ((x6 + (zA σ (zQ σ r0 45) x5.toNatClampNeg)) - (nI 1)).toNatClampNeg)) else Q none (zsB σ (zQ σ r0 43) ((x6 + (zA σ (zQ σ r0 45) x5.toNatClampNeg)) - (nI 1)).toNatClampNeg y3)))) : zW (d) 185 66 [(0, .ref r0), (1, .long y1), (3, .long y3), (5, .int x5), (6, .int x6)] [] σ Q := by
  refine zW_s rfl ?_
  have hp101 := h.1; replace h := h.2
  refine zW_p rfl hp101 ?_
  refine zW_s rfl ?_
  have hp102 := h.1; replace h := h.2
  have hp103 := h.1; replace h := h.2
  refine zW_p rfl ⟨hp102, hp103⟩ ?_
  refine zW_s rfl ?_
  refine zW_if (fun (c104 : (zA σ (zQ σ r0 45) x5.toNatClampNeg) ≤ 0) => ?_) (fun (c104 : ¬ ((zA σ (zQ σ r0 45) x5.toNatClampNeg) ≤ 0)) => ?_)
  · rw [if_pos c104] at h
    refine zW_s rfl ?_
    refine zW_p rfl hp101 ?_
    refine zW_s rfl ?_
    refine zW_p rfl hp101 ?_
    have hp105 := h.1; replace h := h.2
    have hp106 := h.1; replace h := h.2
    refine zW_p rfl ⟨hp105, hp106⟩ ?_
    refine zW_s rfl ?_
    refine zW_s rfl ?_
    refine zW_if (fun (c107 : ¬ (zA σ (zQ σ r0 44) (zI σ r0 47).toNatClampNeg) = (nI 3000)) => ?_) (fun (c107 : ¬ (¬ (zA σ (zQ σ r0 44) (zI σ r0 47).toNatClampNeg) = (nI 3000))) => ?_)
    · rw [if_pos c107] at h
      refine zW_s rfl ?_
      refine zW_p rfl hp101 ?_
      refine zW_s rfl ?_
      refine zW_s rfl ?_
      refine zW_p rfl hp101 ?_
      refine zW_s rfl ?_
      refine zW_p rfl hp101 ?_
      refine zW_p rfl ⟨hp105, hp106⟩ ?_
      refine zW_s rfl ?_
      refine zW_s rfl ?_
      have hp108 := h.1; replace h := h.2
      have hp109 := h.1; replace h := h.2
      refine zW_p rfl ⟨hp108, hp109⟩ ?_
      refine zW_s rfl ?_
      refine zW_p rfl hp101 ?_
      refine zW_s rfl ?_
      refine zW_s rfl ?_
      refine zW_p rfl hp101 ?_
      refine zW_s rfl ?_
      refine zW_p rfl hp101 ?_
      refine zW_p rfl ⟨hp105, hp106⟩ ?_
      refine zW_s rfl ?_
      refine zW_s rfl ?_
      have hp110 := h.1; replace h := h.2
      have hp111 := h.1; replace h := h.2
      refine zW_p rfl ⟨hp110, hp111⟩ ?_
      refine zW_s rfl ?_
      refine zW_p rfl hp101 ?_
      refine zW_s rfl ?_
      refine zW_p rfl hp101 ?_
      refine zW_s rfl ?_
      refine zW_p rfl ⟨hp105, hp106⟩ ?_
      refine zW_s rfl ?_
      refine zW_s rfl ?_
      refine zW_p rfl ⟨hp105, hp106⟩ ?_
      refine zW_s rfl ?_
      refine zW_p rfl hp101 ?_
      refine zW_s rfl ?_
      refine zW_s rfl ?_
      refine zW_p rfl hp101 ?_
      refine zW_s rfl ?_
      refine zW_p rfl hp101 ?_
      refine zW_p rfl ⟨hp105, hp106⟩ ?_
      refine zW_p rfl ⟨hp102, hp103⟩ ?_
      refine zW_r rfl trivial ?_
      exact h
    · rw [if_neg c107] at h
      refine zW_s rfl ?_
      refine zW_s rfl ?_
      refine zW_p rfl ⟨hp101, by decide⟩ ?_
      refine zW_r rfl trivial ?_
      exact h
  · rw [if_neg c104] at h
    refine zW_s rfl ?_
    refine zW_s rfl ?_
    refine zW_p rfl hp101 ?_
    refine zW_s rfl ?_
    refine zW_p rfl ⟨hp102, hp103⟩ ?_
    refine zW_s rfl ?_
    refine zW_s rfl ?_
    refine zW_s rfl ?_
    refine zW_s rfl ?_
    refine zW_s rfl ?_
    refine zW_p rfl hp101 ?_
    refine zW_s rfl ?_
    refine zW_s rfl ?_
    refine zW_s rfl ?_
    refine zW_p rfl hp101 ?_
    refine zW_s rfl ?_
    have hp112 := h.1; replace h := h.2
    have hp113 := h.1; replace h := h.2
    refine zW_p rfl ⟨hp112, hp113⟩ ?_
    refine zW_s rfl ?_
    refine zW_s rfl ?_
    refine zW_if (fun (c114 : 0 ≤ (lg_cmp y3 (zB σ (zQ σ r0 43) ((x6 + (zA σ (zQ σ r0 45) x5.toNatClampNeg)) - (nI 1)).toNatClampNeg))) => ?_) (fun (c114 : ¬ (0 ≤ (lg_cmp y3 (zB σ (zQ σ r0 43) ((x6 + (zA σ (zQ σ r0 45) x5.toNatClampNeg)) - (nI 1)).toNatClampNeg)))) => ?_)
    · rw [if_pos c114] at h
      refine zW_s rfl ?_
      refine zW_p rfl hp101 ?_
      refine zW_s rfl ?_
      refine zW_p rfl ⟨hp112, hp113⟩ ?_
      refine zW_p rfl ⟨hp112, hp113⟩ ?_
      refine zW_r rfl trivial ?_
      exact h
    · rw [if_neg c114] at h
      refine zW_s rfl ?_
      refine zW_s rfl ?_
      refine zW_p rfl ⟨hp112, hp113⟩ ?_
      refine zW_r rfl trivial ?_
      exact h
set_option maxHeartbeats 4000000 in
theorem b186 {d : Nat} {y0 : Int64} {x2 : Int32} {σ : zH} {Q : Option Value → zH → Prop} (h : zW (d) 186 3 [(0, .long y0), (2, .int x2), (3, .int (nI 56))] [] σ Q) : zM (d) 186 [.long y0, .int x2] σ Q := by
  unfold zM
  refine zW_s rfl ?_
  refine zW_s rfl ?_
  exact h
set_option maxHeartbeats 4000000 in
theorem b186_3 {d : Nat} {y0 : Int64} {x2 : Int32} {x3 : Int32} {σ : zH} {Q : Option Value → zH → Prop} (h : (if (lg_cmp ((zlsr y0 x3) &&& (lN 255)) (lN 0)) = 0 then Q (some (.long (y0 ||| (zlsl ((x2 + (nI 1)).toInt64) x3)))) σ else zW (d) 186 3 [(0, .long y0), (2, .int x2), (3, .int (x3 + (-8)))] [] σ Q)) : zW (d) 186 3 [(0, .long y0), (2, .int x2), (3, .int x3)] [] σ Q := by
  refine zW_s rfl ?_
  refine zW_s rfl ?_
  refine zW_s rfl ?_
  refine zW_s rfl ?_
  refine zW_s rfl ?_
  refine zW_s rfl ?_
  refine zW_s rfl ?_
  refine zW_s rfl ?_
  refine zW_if (fun (c101 : (lg_cmp ((zlsr y0 x3) &&& (lN 255)) (lN 0)) = 0) => ?_) (fun (c101 : ¬ ((lg_cmp ((zlsr y0 x3) &&& (lN 255)) (lN 0)) = 0)) => ?_)
  · rw [if_pos c101] at h
    refine zW_s rfl ?_
    refine zW_s rfl ?_
    refine zW_s rfl ?_
    refine zW_s rfl ?_
    refine zW_s rfl ?_
    refine zW_s rfl ?_
    refine zW_s rfl ?_
    refine zW_s rfl ?_
    refine zW_r rfl trivial ?_
    exact h
  · rw [if_neg c101] at h
    refine zW_s rfl ?_
    refine zW_s rfl ?_
    exact h
set_option maxHeartbeats 4000000 in
theorem b187 {d : Nat} {r0 : Nat} {x1 : Int32} {x2 : Int32} {x3 : Int32} {x4 : Int32} {σ : zH} {Q : Option Value → zH → Prop} (h : zW (d + 1) 187 3 [(0, .ref r0), (2, .int x2), (3, .int x3), (4, .int x4), (5, .int x1)] [] σ Q) : zM (d + 1) 187 [.ref r0, .int x1, .int x2, .int x3, .int x4] σ Q := by
  unfold zM
  refine zW_s rfl ?_
  refine zW_s rfl ?_
  refine zW_k [0, 2, 3, 4, 5] rfl ?_
  exact h
set_option maxHeartbeats 4000000 in
theorem b187_3 {d : Nat} {r0 : Nat} {x2 : Int32} {x3 : Int32} {x4 : Int32} {x5 : Int32} {σ : zH} {Q : Option Value → zH → Prop} (h : (if x2 ≤ x5 then Q none σ else (zK σ r0 = 13) ∧ (if ¬ (zI σ r0 46) = 0 then Q none σ else (zK σ (zQ σ r0 21) = 21) ∧ (vp_in (((nI 48) * (zI σ r0 29)) + x5) (zN σ (zQ σ r0 21))) ∧ (if ¬ (lg_cmp (zB σ (zQ σ r0 21) (((nI 48) * (zI σ r0 29)) + x5).toNatClampNeg) (lN 499984983411)) = 0 then (if ¬ (lg_cmp (zB σ (zQ σ r0 21) (((nI 48) * (zI σ r0 29)) + x5).toNatClampNeg) (lN 26982)) = 0 then zM d 188 [.ref r0, .int (((nI 48) * (zI σ r0 29)) + x5), .int x3] σ (fun r σ108 => zqv r (zW (d + 1) 187 3 [(0, .ref r0), (2, .int x2), (3, .int x3), (4, .int x4), (5, .int (x5 + nI 1))] [] σ108 Q)) else zM d 190 [.ref r0, .int (((nI 48) * (zI σ r0 29)) + x5), .int x3, .int x4] σ (fun r σ109 => zqv r ((zK σ109 r0 = 13) ∧ (if ¬ (zI σ109 r0 46) = 0 then zW (d + 1) 187 150 [(0, .ref r0), (2, .int x2), (3, .int x3), (4, .int x4), (6, .int (((nI 48) * (zI σ r0 29)) + x5))] [] σ109 Q else (zK σ109 (zQ σ109 r0 27) = 20) ∧ (vp_in (((nI 48) * (zI σ r0 29)) + x5) (zN σ109 (zQ σ109 r0 27))) ∧ zM d 187 [.ref r0, .int (x5 + (nI 1)), .int (zA σ109 (zQ σ109 r0 27) (((nI 48) * (zI σ r0 29)) + x5).toNatClampNeg), .int x3, .int (x4 + (nI 1))] σ109 (fun r σ114 => zqv r (zW (d + 1) 187 150 [(0, .ref r0), (2, .int x2), (3, .int x3), (4, .int x4), (6, .int (((nI 48) * (zI σ r0 29)) + x5))] [] σ114 Q)))))) else zW (d + 1) 187 45 [(0, .ref r0), (2, .int x2), (3, .int x3), (4, .int x4), (5, .int x5), (6, .int (((nI 48) * (zI σ r0 29)) + x5)), (7, .int (nI 0))] [] σ Q)))) : zW (d + 1) 187 3 [(0, .ref r0), (2, .int x2), (3, .int x3), (4, .int x4), (5, .int x5)] [] σ Q := by
  refine zW_s rfl ?_
  refine zW_s rfl ?_
  refine zW_s rfl ?_
  refine zW_if (fun (c101 : x2 ≤ x5) => ?_) (fun (c101 : ¬ (x2 ≤ x5)) => ?_)
  · rw [if_pos c101] at h
    refine zW_r rfl trivial ?_
    exact h
  · rw [if_neg c101] at h
    refine zW_s rfl ?_
    have hp102 := h.1; replace h := h.2
    refine zW_p rfl hp102 ?_
    refine zW_s rfl ?_
    refine zW_if (fun (c103 : ¬ (zI σ r0 46) = 0) => ?_) (fun (c103 : ¬ (¬ (zI σ r0 46) = 0)) => ?_)
    · rw [if_pos c103] at h
      refine zW_r rfl trivial ?_
      exact h
    · rw [if_neg c103] at h
      refine zW_s rfl ?_
      refine zW_s rfl ?_
      refine zW_p rfl hp102 ?_
      refine zW_s rfl ?_
      refine zW_s rfl ?_
      refine zW_s rfl ?_
      refine zW_s rfl ?_
      refine zW_s rfl ?_
      refine zW_p rfl hp102 ?_
      refine zW_s rfl ?_
      have hp104 := h.1; replace h := h.2
      have hp105 := h.1; replace h := h.2
      refine zW_p rfl ⟨hp104, hp105⟩ ?_
      refine zW_s rfl ?_
      refine zW_s rfl ?_
      refine zW_s rfl ?_
      refine zW_if (fun (c106 : ¬ (lg_cmp (zB σ (zQ σ r0 21) (((nI 48) * (zI σ r0 29)) + x5).toNatClampNeg) (lN 499984983411)) = 0) => ?_) (fun (c106 : ¬ (¬ (lg_cmp (zB σ (zQ σ r0 21) (((nI 48) * (zI σ r0 29)) + x5).toNatClampNeg) (lN 499984983411)) = 0)) => ?_)
      · rw [if_pos c106] at h
        refine zW_s rfl ?_
        refine zW_p rfl hp102 ?_
        refine zW_s rfl ?_
        refine zW_p rfl ⟨hp104, hp105⟩ ?_
        refine zW_s rfl ?_
        refine zW_s rfl ?_
        refine zW_s rfl ?_
        refine zW_if (fun (c107 : ¬ (lg_cmp (zB σ (zQ σ r0 21) (((nI 48) * (zI σ r0 29)) + x5).toNatClampNeg) (lN 26982)) = 0) => ?_) (fun (c107 : ¬ (¬ (lg_cmp (zB σ (zQ σ r0 21) (((nI 48) * (zI σ r0 29)) + x5).toNatClampNeg) (lN 26982)) = 0)) => ?_)
        · rw [if_pos c107] at h
          refine zW_s rfl ?_
          refine zW_s rfl ?_
          refine zW_s rfl ?_
          refine zW_c rfl hp102 (zM_m h ?_)
          intro r σ108 h
          replace h := zqv_e h
          obtain ⟨rfl, h⟩ := h
          refine zW_s rfl ?_
          refine zW_s rfl ?_
          refine zW_k [0, 1, 2, 3, 4] rfl ?_
          exact h
        · rw [if_neg c107] at h
          refine zW_s rfl ?_
          refine zW_s rfl ?_
          refine zW_s rfl ?_
          refine zW_s rfl ?_
          refine zW_c rfl hp102 (zM_m h ?_)
          intro r σ109 h
          replace h := zqv_e h
          obtain ⟨rfl, h⟩ := h
          refine zW_s rfl ?_
          have hp110 := h.1; replace h := h.2
          refine zW_p rfl hp110 ?_
          refine zW_s rfl ?_
          refine zW_if (fun (c111 : ¬ (zI σ109 r0 46) = 0) => ?_) (fun (c111 : ¬ (¬ (zI σ109 r0 46) = 0)) => ?_)
          · rw [if_pos c111] at h
            refine zW_k [0, 1, 2, 3, 5] rfl ?_
            exact h
          · rw [if_neg c111] at h
            refine zW_s rfl ?_
            refine zW_s rfl ?_
            refine zW_s rfl ?_
            refine zW_s rfl ?_
            refine zW_s rfl ?_
            refine zW_p rfl hp110 ?_
            refine zW_s rfl ?_
            have hp112 := h.1; replace h := h.2
            have hp113 := h.1; replace h := h.2
            refine zW_p rfl ⟨hp112, hp113⟩ ?_
            refine zW_s rfl ?_
            refine zW_s rfl ?_
            refine zW_s rfl ?_
            refine zW_s rfl ?_
            refine zW_c rfl hp110 (zM_m h ?_)
            intro r σ114 h
            replace h := zqv_e h
            obtain ⟨rfl, h⟩ := h
            refine zW_k [0, 1, 2, 3, 5] rfl ?_
            exact h
      · rw [if_neg c106] at h
        refine zW_s rfl ?_
        refine zW_s rfl ?_
        exact h
set_option maxHeartbeats 4000000 in
theorem b187_150 {d : Nat} {r0 : Nat} {x2 : Int32} {x3 : Int32} {x4 : Int32} {x6 : Int32} {σ : zH} {Q : Option Value → zH → Prop} (h : (zK σ r0 = 13) ∧ (if ¬ (zI σ r0 46) = 0 then zW (d + 1) 187 181 [(0, .ref r0), (2, .int x2), (3, .int x3), (4, .int x4), (6, .int x6)] [] σ Q else (zK σ (zQ σ r0 27) = 20) ∧ (vp_in x6 (zN σ (zQ σ r0 27))) ∧ (zK σ (zQ σ r0 28) = 20) ∧ (vp_in x6 (zN σ (zQ σ r0 28))) ∧ zM d 187 [.ref r0, .int (zA σ (zQ σ r0 27) x6.toNatClampNeg), .int (zA σ (zQ σ r0 28) x6.toNatClampNeg), .int x4, .int (x4 + (nI 1))] σ (fun r σ107 => zqv r (zW (d + 1) 187 181 [(0, .ref r0), (2, .int x2), (3, .int x3), (4, .int x4), (6, .int x6)] [] σ107 Q)))) : zW (d + 1) 187 150 [(0, .ref r0), (2, .int x2), (3, .int x3), (4, .int x4), (6, .int x6)] [] σ Q := by
  refine zW_s rfl ?_
  have hp101 := h.1; replace h := h.2
  refine zW_p rfl hp101 ?_
  refine zW_s rfl ?_
  refine zW_if (fun (c102 : ¬ (zI σ r0 46) = 0) => ?_) (fun (c102 : ¬ (¬ (zI σ r0 46) = 0)) => ?_)
  · rw [if_pos c102] at h
    exact h
  · rw [if_neg c102] at h
    refine zW_s rfl ?_
    refine zW_s rfl ?_
    refine zW_p rfl hp101 ?_
    refine zW_s rfl ?_
    have hp103 := h.1; replace h := h.2
    have hp104 := h.1; replace h := h.2
    refine zW_p rfl ⟨hp103, hp104⟩ ?_
    refine zW_s rfl ?_
    refine zW_p rfl hp101 ?_
    refine zW_s rfl ?_
    have hp105 := h.1; replace h := h.2
    have hp106 := h.1; replace h := h.2
    refine zW_p rfl ⟨hp105, hp106⟩ ?_
    refine zW_s rfl ?_
    refine zW_s rfl ?_
    refine zW_s rfl ?_
    refine zW_s rfl ?_
    refine zW_c rfl hp101 (zM_m h ?_)
    intro r σ107 h
    replace h := zqv_e h
    obtain ⟨rfl, h⟩ := h
    exact h
set_option maxHeartbeats 4000000 in
theorem b187_45 {d : Nat} {r0 : Nat} {x2 : Int32} {x3 : Int32} {x4 : Int32} {x5 : Int32} {x6 : Int32} {x7 : Int32} {σ : zH} {Q : Option Value → zH → Prop} (h : (zK σ r0 = 13) ∧ (zK σ (zQ σ r0 25) = 20) ∧ (vp_in x6 (zN σ (zQ σ r0 25))) ∧ (if (zA σ (zQ σ r0 25) x6.toNatClampNeg) ≤ x7 then (zK σ (zQ σ r0 28) = 20) ∧ (vp_in x6 (zN σ (zQ σ r0 28))) ∧ zW (d + 1) 187 3 [(0, .ref r0), (2, .int x2), (3, .int x3), (4, .int x4), (5, .int (zA σ (zQ σ r0 28) x6.toNatClampNeg))] [] σ Q else (if ¬ (zI σ r0 46) = 0 then (zK σ (zQ σ r0 28) = 20) ∧ (vp_in x6 (zN σ (zQ σ r0 28))) ∧ zW (d + 1) 187 3 [(0, .ref r0), (2, .int x2), (3, .int x3), (4, .int x4), (5, .int (zA σ (zQ σ r0 28) x6.toNatClampNeg))] [] σ Q else (zK σ (zQ σ r0 28) = 20) ∧ (vp_in x6 (zN σ (zQ σ r0 28))) ∧ zM d 187 [.ref r0, .int (x5 + (nI 1)), .int (zA σ (zQ σ r0 28) x6.toNatClampNeg), .int x3, .int x4] σ (fun r σ112 => zqv r (zW (d + 1) 187 45 [(0, .ref r0), (2, .int x2), (3, .int x3), (4, .int x4), (5, .int x5), (6, .int x6), (7, .int (x7 + nI 1))] [] σ112 Q))))) : zW (d + 1) 187 45 [(0, .ref r0), (2, .int x2), (3, .int x3), (4, .int x4), (5, .int x5), (6, .int x6), (7, .int x7)] [] σ Q := by
  refine zW_s rfl ?_
  refine zW_s rfl ?_
  have hp101 := h.1; replace h := h.2
  refine zW_p rfl hp101 ?_
  refine zW_s rfl ?_
  have hp102 := h.1; replace h := h.2
  have hp103 := h.1; replace h := h.2
  refine zW_p rfl ⟨hp102, hp103⟩ ?_
  refine zW_s rfl ?_
  refine zW_if (fun (c104 : (zA σ (zQ σ r0 25) x6.toNatClampNeg) ≤ x7) => ?_) (fun (c104 : ¬ ((zA σ (zQ σ r0 25) x6.toNatClampNeg) ≤ x7)) => ?_)
  · rw [if_pos c104] at h
    refine zW_s rfl ?_
    refine zW_p rfl hp101 ?_
    refine zW_s rfl ?_
    have hp105 := h.1; replace h := h.2
    have hp106 := h.1; replace h := h.2
    refine zW_p rfl ⟨hp105, hp106⟩ ?_
    refine zW_s rfl ?_
    refine zW_s rfl ?_
    refine zW_s rfl ?_
    refine zW_k [0, 1, 2, 3, 4] rfl ?_
    exact h
  · rw [if_neg c104] at h
    refine zW_s rfl ?_
    refine zW_p rfl hp101 ?_
    refine zW_s rfl ?_
    refine zW_if (fun (c107 : ¬ (zI σ r0 46) = 0) => ?_) (fun (c107 : ¬ (¬ (zI σ r0 46) = 0)) => ?_)
    · rw [if_pos c107] at h
      refine zW_s rfl ?_
      refine zW_p rfl hp101 ?_
      refine zW_s rfl ?_
      have hp108 := h.1; replace h := h.2
      have hp109 := h.1; replace h := h.2
      refine zW_p rfl ⟨hp108, hp109⟩ ?_
      refine zW_s rfl ?_
      refine zW_s rfl ?_
      refine zW_s rfl ?_
      refine zW_k [0, 1, 2, 3, 4] rfl ?_
      exact h
    · rw [if_neg c107] at h
      refine zW_s rfl ?_
      refine zW_s rfl ?_
      refine zW_s rfl ?_
      refine zW_s rfl ?_
      refine zW_s rfl ?_
      refine zW_p rfl hp101 ?_
      refine zW_s rfl ?_
      have hp110 := h.1; replace h := h.2
      have hp111 := h.1; replace h := h.2
      refine zW_p rfl ⟨hp110, hp111⟩ ?_
      refine zW_s rfl ?_
      refine zW_s rfl ?_
      refine zW_c rfl hp101 (zM_m h ?_)
      intro r σ112 h
      replace h := zqv_e h
      obtain ⟨rfl, h⟩ := h
      refine zW_s rfl ?_
      refine zW_s rfl ?_
      exact h
set_option maxHeartbeats 4000000 in
theorem b187_181 {d : Nat} {r0 : Nat} {x2 : Int32} {x3 : Int32} {x4 : Int32} {x6 : Int32} {σ : zH} {Q : Option Value → zH → Prop} (h : (zK σ r0 = 13) ∧ (if ¬ (zI σ r0 46) = 0 then (zK σ (zQ σ r0 28) = 20) ∧ (vp_in x6 (zN σ (zQ σ r0 28))) ∧ zW (d + 1) 187 3 [(0, .ref r0), (2, .int x2), (3, .int x3), (4, .int x4), (5, .int (zA σ (zQ σ r0 28) x6.toNatClampNeg))] [] σ Q else zM d 191 [.ref r0, .int x3, .int x4] σ (fun r σ105 => zqv r ((zK σ105 r0 = 13) ∧ (zK σ105 (zQ σ105 r0 28) = 20) ∧ (vp_in x6 (zN σ105 (zQ σ105 r0 28))) ∧ zW (d + 1) 187 3 [(0, .ref r0), (2, .int x2), (3, .int x3), (4, .int x4), (5, .int (zA σ105 (zQ σ105 r0 28) x6.toNatClampNeg))] [] σ105 Q)))) : zW (d + 1) 187 181 [(0, .ref r0), (2, .int x2), (3, .int x3), (4, .int x4), (6, .int x6)] [] σ Q := by
  refine zW_s rfl ?_
  have hp101 := h.1; replace h := h.2
  refine zW_p rfl hp101 ?_
  refine zW_s rfl ?_
  refine zW_if (fun (c102 : ¬ (zI σ r0 46) = 0) => ?_) (fun (c102 : ¬ (¬ (zI σ r0 46) = 0)) => ?_)
  · rw [if_pos c102] at h
    refine zW_s rfl ?_
    refine zW_p rfl hp101 ?_
    refine zW_s rfl ?_
    have hp103 := h.1; replace h := h.2
    have hp104 := h.1; replace h := h.2
    refine zW_p rfl ⟨hp103, hp104⟩ ?_
    refine zW_s rfl ?_
    refine zW_s rfl ?_
    refine zW_s rfl ?_
    refine zW_k [0, 1, 2, 3, 5] rfl ?_
    exact h
  · rw [if_neg c102] at h
    refine zW_s rfl ?_
    refine zW_s rfl ?_
    refine zW_s rfl ?_
    refine zW_c rfl hp101 (zM_m h ?_)
    intro r σ105 h
    replace h := zqv_e h
    obtain ⟨rfl, h⟩ := h
    refine zW_s rfl ?_
    have hp106 := h.1; replace h := h.2
    refine zW_p rfl hp106 ?_
    refine zW_s rfl ?_
    have hp107 := h.1; replace h := h.2
    have hp108 := h.1; replace h := h.2
    refine zW_p rfl ⟨hp107, hp108⟩ ?_
    refine zW_s rfl ?_
    refine zW_s rfl ?_
    refine zW_s rfl ?_
    refine zW_k [0, 1, 2, 3, 5] rfl ?_
    exact h
set_option maxHeartbeats 4000000 in
theorem b188 {d : Nat} {r0 : Nat} {x1 : Int32} {x2 : Int32} {σ : zH} {Q : Option Value → zH → Prop} (h : (zK σ r0 = 13) ∧ zM d 184 [.ref r0, .int (nI 11)] σ (fun r σ102 => zqv r (zW (d + 1) 188 11 [(0, .ref r0), (1, .int x1), (2, .int x2), (3, .int (nI 11)), (4, .int (nI 0))] [] σ102 Q))) : zM (d + 1) 188 [.ref r0, .int x1, .int x2] σ Q := by
  unfold zM
  refine zW_s rfl ?_
  refine zW_s rfl ?_
  refine zW_s rfl ?_
  refine zW_s rfl ?_
  have hp101 := h.1; replace h := h.2
  refine zW_c rfl hp101 (zM_m h ?_)
  intro r σ102 h
  replace h := zqv_e h
  obtain ⟨rfl, h⟩ := h
  refine zW_s rfl ?_
  refine zW_s rfl ?_
  exact h
set_option maxHeartbeats 4000000 in
theorem b188_11 {d : Nat} {r0 : Nat} {x1 : Int32} {x2 : Int32} {x3 : Int32} {x4 : Int32} {σ : zH} {Q : Option Value → zH → Prop} (h : (zK σ r0 = 13) ∧ (zK σ (zQ σ r0 44) = 20) ∧ (vp_in x2 (zN σ (zQ σ r0 44))) ∧ (if (zA σ (zQ σ r0 44) x2.toNatClampNeg) ≤ x4 then zM d 189 [.ref r0, .int x3, .int x2] σ (fun r σ105 => zqv r (Q none σ105)) else (if ¬ (zI σ r0 46) = 0 then zM d 189 [.ref r0, .int x3, .int x2] σ (fun r σ107 => zqv r (Q none σ107)) else (zK σ (zQ σ r0 42) = 21) ∧ (vp_in (((nI 3001) * x2) + x4) (zN σ (zQ σ r0 42))) ∧ (zK σ (zQ σ r0 43) = 21) ∧ (vp_in (((nI 3001) * x2) + x4) (zN σ (zQ σ r0 43))) ∧ zM d 138 [.ref r0, .long (zB σ (zQ σ r0 42) (((nI 3001) * x2) + x4).toNatClampNeg)] σ (fun r σ112 => zqv r ((zK σ112 r0 = 13) ∧ zM d 175 [.ref r0, .int x1] σ112 (fun r σ114 => zqi r (fun x115 => zW (d + 1) 188 75 [(0, .ref r0), (1, .int x1), (2, .int x2), (3, .int x3), (4, .int x4), (5, .long (zB σ (zQ σ r0 42) (((nI 3001) * x2) + x4).toNatClampNeg)), (7, .long (zB σ (zQ σ r0 43) (((nI 3001) * x2) + x4).toNatClampNeg)), (9, .int x115), (10, .int (nI 0))] [] σ114 Q))))))) : zW (d + 1) 188 11 [(0, .ref r0), (1, .int x1), (2, .int x2), (3, .int x3), (4, .int x4)] [] σ Q := by
  refine zW_s rfl ?_
  refine zW_s rfl ?_
  have hp101 := h.1; replace h := h.2
  refine zW_p rfl hp101 ?_
  refine zW_s rfl ?_
  have hp102 := h.1; replace h := h.2
  have hp103 := h.1; replace h := h.2
  refine zW_p rfl ⟨hp102, hp103⟩ ?_
  refine zW_s rfl ?_
  refine zW_if (fun (c104 : (zA σ (zQ σ r0 44) x2.toNatClampNeg) ≤ x4) => ?_) (fun (c104 : ¬ ((zA σ (zQ σ r0 44) x2.toNatClampNeg) ≤ x4)) => ?_)
  · rw [if_pos c104] at h
    refine zW_s rfl ?_
    refine zW_s rfl ?_
    refine zW_s rfl ?_
    refine zW_c rfl hp101 (zM_m h ?_)
    intro r σ105 h
    replace h := zqv_e h
    obtain ⟨rfl, h⟩ := h
    refine zW_r rfl trivial ?_
    exact h
  · rw [if_neg c104] at h
    refine zW_s rfl ?_
    refine zW_p rfl hp101 ?_
    refine zW_s rfl ?_
    refine zW_if (fun (c106 : ¬ (zI σ r0 46) = 0) => ?_) (fun (c106 : ¬ (¬ (zI σ r0 46) = 0)) => ?_)
    · rw [if_pos c106] at h
      refine zW_s rfl ?_
      refine zW_s rfl ?_
      refine zW_s rfl ?_
      refine zW_c rfl hp101 (zM_m h ?_)
      intro r σ107 h
      replace h := zqv_e h
      obtain ⟨rfl, h⟩ := h
      refine zW_r rfl trivial ?_
      exact h
    · rw [if_neg c106] at h
      refine zW_s rfl ?_
      refine zW_p rfl hp101 ?_
      refine zW_s rfl ?_
      refine zW_s rfl ?_
      refine zW_s rfl ?_
      refine zW_s rfl ?_
      refine zW_s rfl ?_
      have hp108 := h.1; replace h := h.2
      have hp109 := h.1; replace h := h.2
      refine zW_p rfl ⟨hp108, hp109⟩ ?_
      refine zW_s rfl ?_
      refine zW_s rfl ?_
      refine zW_p rfl hp101 ?_
      refine zW_s rfl ?_
      refine zW_s rfl ?_
      refine zW_s rfl ?_
      refine zW_s rfl ?_
      refine zW_s rfl ?_
      have hp110 := h.1; replace h := h.2
      have hp111 := h.1; replace h := h.2
      refine zW_p rfl ⟨hp110, hp111⟩ ?_
      refine zW_s rfl ?_
      refine zW_s rfl ?_
      refine zW_s rfl ?_
      refine zW_c rfl hp101 (zM_m h ?_)
      intro r σ112 h
      replace h := zqv_e h
      obtain ⟨rfl, h⟩ := h
      refine zW_s rfl ?_
      refine zW_s rfl ?_
      have hp113 := h.1; replace h := h.2
      refine zW_c rfl hp113 (zM_m h ?_)
      intro r σ114 h
      replace h := zqi_e h
      obtain ⟨x115, rfl, h⟩ := h
      refine zW_s rfl ?_
      refine zW_s rfl ?_
      refine zW_s rfl ?_
      exact h
set_option maxHeartbeats 4000000 in
theorem b188_75 {d : Nat} {r0 : Nat} {x1 : Int32} {x2 : Int32} {x3 : Int32} {x4 : Int32} {y5 : Int64} {y7 : Int64} {x9 : Int32} {x10 : Int32} {σ : zH} {Q : Option Value → zH → Prop} (h : (if (if ¬ x9 = 0 then x9 else nI 1) ≤ x10 then zW (d + 1) 188 11 [(0, .ref r0), (1, .int x1), (2, .int x2), (3, .int x3), (4, .int (x4 + nI 1))] [] σ Q else (zK σ r0 = 13) ∧ zM d 138 [.ref r0, .long y5] σ (fun r σ104 => zqv r ((zK σ104 r0 = 13) ∧ zM d 179 [.ref r0, .int x1, .int x10] σ104 (fun r σ106 => zqv r ((zK σ106 r0 = 13) ∧ zM d 137 [.ref r0] σ106 (fun r σ108 => zql r (fun x109 => (if ¬ x9 = 0 then zM d 186 [.long y7, .int x10] σ108 (fun r σ111 => zql r (fun x112 => (zK σ111 r0 = 13) ∧ zM d 185 [.ref r0, .long x109, .long x112] σ111 (fun r σ114 => zqv r (zW (d + 1) 188 75 [(0, .ref r0), (1, .int x1), (2, .int x2), (3, .int x3), (4, .int x4), (5, .long y5), (7, .long y7), (9, .int x9), (10, .int (x10 + nI 1))] [] σ114 Q)))) else (zK σ108 r0 = 13) ∧ zM d 185 [.ref r0, .long x109, .long y7] σ108 (fun r σ116 => zqv r (zW (d + 1) 188 75 [(0, .ref r0), (1, .int x1), (2, .int x2), (3, .int x3), (4, .int x4), (5, .long y5), (7, .long y7), (9, .int x9), (10, .int (x10 + nI 1))] [] σ116 Q))))))))))) : zW (d + 1) 188 75 [(0, .ref r0), (1, .int x1), (2, .int x2), (3, .int x3), (4, .int x4), (5, .long y5), (7, .long y7), (9, .int x9), (10, .int x10)] [] σ Q := by
  refine zW_s rfl ?_
  refine zW_s rfl ?_
  refine zW_s rfl ?_
  have k : ∀ v : Int32, v = (if ¬ x9 = 0 then x9 else nI 1) → zW (d + 1) 188 88 [(0, .ref r0), (1, .int x1), (2, .int x2), (3, .int x3), (4, .int x4), (5, .long y5), (7, .long y7), (9, .int x9), (10, .int x10)] [.int v, .int x10] σ Q := by
    intro v hv
    subst hv
    refine zW_s rfl ?_
    refine zW_if (fun (c102 : (if ¬ x9 = 0 then x9 else nI 1) ≤ x10) => ?_) (fun (c102 : ¬ ((if ¬ x9 = 0 then x9 else nI 1) ≤ x10)) => ?_)
    · rw [if_pos c102] at h
      refine zW_s rfl ?_
      refine zW_s rfl ?_
      refine zW_k [0, 1, 2, 3, 4] rfl ?_
      exact h
    · rw [if_neg c102] at h
      refine zW_s rfl ?_
      refine zW_s rfl ?_
      have hp103 := h.1; replace h := h.2
      refine zW_c rfl hp103 (zM_m h ?_)
      intro r σ104 h
      replace h := zqv_e h
      obtain ⟨rfl, h⟩ := h
      refine zW_s rfl ?_
      refine zW_s rfl ?_
      refine zW_s rfl ?_
      have hp105 := h.1; replace h := h.2
      refine zW_c rfl hp105 (zM_m h ?_)
      intro r σ106 h
      replace h := zqv_e h
      obtain ⟨rfl, h⟩ := h
      refine zW_s rfl ?_
      refine zW_s rfl ?_
      have hp107 := h.1; replace h := h.2
      refine zW_c rfl hp107 (zM_m h ?_)
      intro r σ108 h
      replace h := zql_e h
      obtain ⟨x109, rfl, h⟩ := h
      refine zW_s rfl ?_
      refine zW_s rfl ?_
      refine zW_if (fun (c110 : ¬ x9 = 0) => ?_) (fun (c110 : ¬ (¬ x9 = 0)) => ?_)
      · rw [if_pos c110] at h
        refine zW_s rfl ?_
        refine zW_s rfl ?_
        refine zW_c rfl trivial (zM_m h ?_)
        intro r σ111 h
        replace h := zql_e h
        obtain ⟨x112, rfl, h⟩ := h
        have hp113 := h.1; replace h := h.2
        refine zW_c rfl hp113 (zM_m h ?_)
        intro r σ114 h
        replace h := zqv_e h
        obtain ⟨rfl, h⟩ := h
        refine zW_s rfl ?_
        refine zW_s rfl ?_
        exact h
      · rw [if_neg c110] at h
        refine zW_s rfl ?_
        refine zW_s rfl ?_
        have hp115 := h.1; replace h := h.2
        refine zW_c rfl hp115 (zM_m h ?_)
        intro r σ116 h
        replace h := zqv_e h
        obtain ⟨rfl, h⟩ := h
        refine zW_s rfl ?_
        refine zW_s rfl ?_
        exact h
  refine zW_if (fun (c101 : ¬ x9 = 0) => ?_) (fun (c101 : ¬ (¬ x9 = 0)) => ?_)
  · replace k := k _ (if_pos c101).symm
    refine zW_s rfl ?_
    exact k
  · replace k := k _ (if_neg c101).symm
    refine zW_s rfl ?_
    refine zW_s rfl ?_
    exact k
set_option maxHeartbeats 4000000 in
theorem b189 {d : Nat} {r0 : Nat} {x1 : Int32} {x2 : Int32} {σ : zH} {Q : Option Value → zH → Prop} (h : (zK σ r0 = 13) ∧ (zK σ (zQ σ r0 44) = 20) ∧ (vp_in x1 (zN σ (zQ σ r0 44))) ∧ (vp_in x2 (zN σ (zQ σ r0 44))) ∧ zW (d) 189 14 [(0, .ref r0), (1, .int x1), (2, .int x2), (3, .int (nI 0))] [] (zsA σ (zQ σ r0 44) x2.toNatClampNeg (zA σ (zQ σ r0 44) x1.toNatClampNeg)) Q) : zM (d) 189 [.ref r0, .int x1, .int x2] σ Q := by
  unfold zM
  refine zW_s rfl ?_
  have hp101 := h.1; replace h := h.2
  refine zW_p rfl hp101 ?_
  refine zW_s rfl ?_
  refine zW_s rfl ?_
  refine zW_p rfl hp101 ?_
  refine zW_s rfl ?_
  have hp102 := h.1; replace h := h.2
  have hp103 := h.1; replace h := h.2
  refine zW_p rfl ⟨hp102, hp103⟩ ?_
  have hp104 := h.1; replace h := h.2
  refine zW_p rfl ⟨hp102, hp104⟩ ?_
  refine zW_s rfl ?_
  refine zW_s rfl ?_
  exact h
set_option maxHeartbeats 4000000 in
theorem b189_14 {d : Nat} {r0 : Nat} {x1 : Int32} {x2 : Int32} {x3 : Int32} {σ : zH} {Q : Option Value → zH → Prop} (h : (zK σ r0 = 13) ∧ (zK σ (zQ σ r0 44) = 20) ∧ (vp_in x1 (zN σ (zQ σ r0 44))) ∧ (if (zA σ (zQ σ r0 44) x1.toNatClampNeg) ≤ x3 then Q none σ else (zK σ (zQ σ r0 42) = 21) ∧ (vp_in (((nI 3001) * x1) + x3) (zN σ (zQ σ r0 42))) ∧ (vp_in (((nI 3001) * x2) + x3) (zN σ (zQ σ r0 42))) ∧ (zK σ (zQ σ r0 43) = 21) ∧ (vp_in (((nI 3001) * x1) + x3) (zN σ (zQ σ r0 43))) ∧ (vp_in (((nI 3001) * x2) + x3) (zN σ (zQ σ r0 43))) ∧ zW (d) 189 14 [(0, .ref r0), (1, .int x1), (2, .int x2), (3, .int (x3 + nI 1))] [] (zsB (zsB σ (zQ σ r0 42) (((nI 3001) * x2) + x3).toNatClampNeg (zB σ (zQ σ r0 42) (((nI 3001) * x1) + x3).toNatClampNeg)) (zQ σ r0 43) (((nI 3001) * x2) + x3).toNatClampNeg (zB (zsB σ (zQ σ r0 42) (((nI 3001) * x2) + x3).toNatClampNeg (zB σ (zQ σ r0 42) (((nI 3001) * x1) + x3).toNatClampNeg)) (zQ σ r0 43) (((nI 3001) * x1) + x3).toNatClampNeg)) Q)) : zW (d) 189 14 [(0, .ref r0), (1, .int x1), (2, .int x2), (3, .int x3)] [] σ Q := by
  refine zW_s rfl ?_
  refine zW_s rfl ?_
  have hp101 := h.1; replace h := h.2
  refine zW_p rfl hp101 ?_
  refine zW_s rfl ?_
  have hp102 := h.1; replace h := h.2
  have hp103 := h.1; replace h := h.2
  refine zW_p rfl ⟨hp102, hp103⟩ ?_
  refine zW_s rfl ?_
  refine zW_if (fun (c104 : (zA σ (zQ σ r0 44) x1.toNatClampNeg) ≤ x3) => ?_) (fun (c104 : ¬ ((zA σ (zQ σ r0 44) x1.toNatClampNeg) ≤ x3)) => ?_)
  · rw [if_pos c104] at h
    refine zW_r rfl trivial ?_
    exact h
  · rw [if_neg c104] at h
    refine zW_s rfl ?_
    refine zW_p rfl hp101 ?_
    refine zW_s rfl ?_
    refine zW_s rfl ?_
    refine zW_s rfl ?_
    refine zW_s rfl ?_
    refine zW_s rfl ?_
    refine zW_s rfl ?_
    refine zW_p rfl hp101 ?_
    refine zW_s rfl ?_
    refine zW_s rfl ?_
    refine zW_s rfl ?_
    refine zW_s rfl ?_
    refine zW_s rfl ?_
    have hp105 := h.1; replace h := h.2
    have hp106 := h.1; replace h := h.2
    refine zW_p rfl ⟨hp105, hp106⟩ ?_
    have hp107 := h.1; replace h := h.2
    refine zW_p rfl ⟨hp105, hp107⟩ ?_
    refine zW_s rfl ?_
    refine zW_p rfl hp101 ?_
    refine zW_s rfl ?_
    refine zW_s rfl ?_
    refine zW_s rfl ?_
    refine zW_s rfl ?_
    refine zW_s rfl ?_
    refine zW_s rfl ?_
    refine zW_p rfl hp101 ?_
    refine zW_s rfl ?_
    refine zW_s rfl ?_
    refine zW_s rfl ?_
    refine zW_s rfl ?_
    refine zW_s rfl ?_
    have hp108 := h.1; replace h := h.2
    have hp109 := h.1; replace h := h.2
    refine zW_p rfl ⟨hp108, hp109⟩ ?_
    have hp110 := h.1; replace h := h.2
    refine zW_p rfl ⟨hp108, hp110⟩ ?_
    refine zW_s rfl ?_
    refine zW_s rfl ?_
    exact h
set_option maxHeartbeats 4000000 in
theorem b190 {d : Nat} {r0 : Nat} {x1 : Int32} {x2 : Int32} {x3 : Int32} {σ : zH} {Q : Option Value → zH → Prop} (h : (zK σ r0 = 13) ∧ (zK σ (zQ σ r0 44) = 20) ∧ (vp_in x3 (zN σ (zQ σ r0 44))) ∧ zW (d + 1) 190 13 [(0, .ref r0), (1, .int x1), (2, .int x2), (3, .int x3), (4, .int (nI 0)), (5, .int (nI 0))] [] (zsA σ (zQ σ r0 44) x3.toNatClampNeg (nI 0)) Q) : zM (d + 1) 190 [.ref r0, .int x1, .int x2, .int x3] σ Q := by
  unfold zM
  refine zW_s rfl ?_
  refine zW_s rfl ?_
  refine zW_s rfl ?_
  have hp101 := h.1; replace h := h.2
  refine zW_p rfl hp101 ?_
  refine zW_s rfl ?_
  refine zW_s rfl ?_
  have hp102 := h.1; replace h := h.2
  have hp103 := h.1; replace h := h.2
  refine zW_p rfl ⟨hp102, hp103⟩ ?_
  refine zW_s rfl ?_
  refine zW_s rfl ?_
  exact h
set_option maxHeartbeats 4000000 in
theorem b190_13 {d : Nat} {r0 : Nat} {x1 : Int32} {x2 : Int32} {x3 : Int32} {x4 : Int32} {x5 : Int32} {σ : zH} {Q : Option Value → zH → Prop} (h : (zK σ r0 = 13) ∧ (zK σ (zQ σ r0 44) = 20) ∧ (vp_in x2 (zN σ (zQ σ r0 44))) ∧ (if (zA σ (zQ σ r0 44) x2.toNatClampNeg) ≤ x5 then Q none (zsA σ (zQ σ r0 44) x2.toNatClampNeg x4) else (zK σ (zQ σ r0 42) = 21) ∧ (vp_in (((nI 3001) * x2) + x5) (zN σ (zQ σ r0 42))) ∧ (zK σ (zQ σ r0 43) = 21) ∧ (vp_in (((nI 3001) * x2) + x5) (zN σ (zQ σ r0 43))) ∧ zM d 138 [.ref r0, .long (zB σ (zQ σ r0 42) (((nI 3001) * x2) + x5).toNatClampNeg)] σ (fun r σ109 => zqv r ((zK σ109 r0 = 13) ∧ (zK σ109 (zQ σ109 r0 26) = 20) ∧ (vp_in x1 (zN σ109 (zQ σ109 r0 26))) ∧ zM d 172 [.ref r0, .int (zA σ109 (zQ σ109 r0 26) x1.toNatClampNeg)] σ109 (fun r σ113 => zqi r (fun x114 => (if x114 = 0 then (zK σ113 r0 = 13) ∧ (zK σ113 (zQ σ113 r0 44) = 20) ∧ (vp_in x3 (zN σ113 (zQ σ113 r0 44))) ∧ zW (d + 1) 190 107 [(0, .ref r0), (1, .int x1), (2, .int x2), (3, .int x3), (4, .int x4), (5, .int x5), (6, .long (zB σ (zQ σ r0 42) (((nI 3001) * x2) + x5).toNatClampNeg)), (8, .long (zB σ (zQ σ r0 43) (((nI 3001) * x2) + x5).toNatClampNeg)), (10, .int x3), (11, .int (zA σ113 (zQ σ113 r0 44) x3.toNatClampNeg))] [] (zsA σ113 (zQ σ113 r0 44) x3.toNatClampNeg ((zA σ113 (zQ σ113 r0 44) x3.toNatClampNeg) + (nI 1))) Q else zW (d + 1) 190 107 [(0, .ref r0), (1, .int x1), (2, .int x2), (3, .int x3), (4, .int (x4 + nI 1)), (5, .int x5), (6, .long (zB σ (zQ σ r0 42) (((nI 3001) * x2) + x5).toNatClampNeg)), (8, .long (zB σ (zQ σ r0 43) (((nI 3001) * x2) + x5).toNatClampNeg)), (10, .int x2), (11, .int x4)] [] σ113 Q))))))) : zW (d + 1) 190 13 [(0, .ref r0), (1, .int x1), (2, .int x2), (3, .int x3), (4, .int x4), (5, .int x5)] [] σ Q := by
  refine zW_s rfl ?_
  refine zW_s rfl ?_
  have hp101 := h.1; replace h := h.2
  refine zW_p rfl hp101 ?_
  refine zW_s rfl ?_
  have hp102 := h.1; replace h := h.2
  have hp103 := h.1; replace h := h.2
  refine zW_p rfl ⟨hp102, hp103⟩ ?_
  refine zW_s rfl ?_
  refine zW_if (fun (c104 : (zA σ (zQ σ r0 44) x2.toNatClampNeg) ≤ x5) => ?_) (fun (c104 : ¬ ((zA σ (zQ σ r0 44) x2.toNatClampNeg) ≤ x5)) => ?_)
  · rw [if_pos c104] at h
    refine zW_s rfl ?_
    refine zW_p rfl hp101 ?_
    refine zW_s rfl ?_
    refine zW_s rfl ?_
    refine zW_p rfl ⟨hp102, hp103⟩ ?_
    refine zW_r rfl trivial ?_
    exact h
  · rw [if_neg c104] at h
    refine zW_s rfl ?_
    refine zW_p rfl hp101 ?_
    refine zW_s rfl ?_
    refine zW_s rfl ?_
    refine zW_s rfl ?_
    refine zW_s rfl ?_
    refine zW_s rfl ?_
    have hp105 := h.1; replace h := h.2
    have hp106 := h.1; replace h := h.2
    refine zW_p rfl ⟨hp105, hp106⟩ ?_
    refine zW_s rfl ?_
    refine zW_s rfl ?_
    refine zW_p rfl hp101 ?_
    refine zW_s rfl ?_
    refine zW_s rfl ?_
    refine zW_s rfl ?_
    refine zW_s rfl ?_
    refine zW_s rfl ?_
    have hp107 := h.1; replace h := h.2
    have hp108 := h.1; replace h := h.2
    refine zW_p rfl ⟨hp107, hp108⟩ ?_
    refine zW_s rfl ?_
    refine zW_s rfl ?_
    refine zW_s rfl ?_
    refine zW_c rfl hp101 (zM_m h ?_)
    intro r σ109 h
    replace h := zqv_e h
    obtain ⟨rfl, h⟩ := h
    refine zW_s rfl ?_
    refine zW_s rfl ?_
    refine zW_s rfl ?_
    refine zW_s rfl ?_
    refine zW_s rfl ?_
    refine zW_s rfl ?_
    have hp110 := h.1; replace h := h.2
    refine zW_p rfl hp110 ?_
    refine zW_s rfl ?_
    have hp111 := h.1; replace h := h.2
    have hp112 := h.1; replace h := h.2
    refine zW_p rfl ⟨hp111, hp112⟩ ?_
    refine zW_c rfl hp110 (zM_m h ?_)
    intro r σ113 h
    replace h := zqi_e h
    obtain ⟨x114, rfl, h⟩ := h
    refine zW_s rfl ?_
    refine zW_if (fun (c115 : x114 = 0) => ?_) (fun (c115 : ¬ (x114 = 0)) => ?_)
    · rw [if_pos c115] at h
      refine zW_s rfl ?_
      refine zW_s rfl ?_
      refine zW_s rfl ?_
      have hp116 := h.1; replace h := h.2
      refine zW_p rfl hp116 ?_
      refine zW_s rfl ?_
      have hp117 := h.1; replace h := h.2
      have hp118 := h.1; replace h := h.2
      refine zW_p rfl ⟨hp117, hp118⟩ ?_
      refine zW_s rfl ?_
      refine zW_s rfl ?_
      refine zW_p rfl hp116 ?_
      refine zW_s rfl ?_
      refine zW_s rfl ?_
      refine zW_p rfl ⟨hp117, hp118⟩ ?_
      refine zW_s rfl ?_
      refine zW_s rfl ?_
      refine zW_p rfl ⟨hp117, hp118⟩ ?_
      exact h
    · rw [if_neg c115] at h
      refine zW_s rfl ?_
      refine zW_s rfl ?_
      exact h
set_option maxHeartbeats 4000000 in
theorem b190_107 {d : Nat} {r0 : Nat} {x1 : Int32} {x2 : Int32} {x3 : Int32} {x4 : Int32} {x5 : Int32} {y6 : Int64} {y8 : Int64} {x10 : Int32} {x11 : Int32} {σ : zH} {Q : Option Value → zH → Prop} (h : (zK σ r0 = 13) ∧ (zK σ (zQ σ r0 42) = 21) ∧ (vp_in (((nI 3001) * x10) + x11) (zN σ (zQ σ r0 42))) ∧ (zK σ (zQ σ r0 43) = 21) ∧ (vp_in (((nI 3001) * x10) + x11) (zN σ (zQ σ r0 43))) ∧ zW (d + 1) 190 13 [(0, .ref r0), (1, .int x1), (2, .int x2), (3, .int x3), (4, .int x4), (5, .int (x5 + nI 1))] [] (zsB (zsB σ (zQ σ r0 42) (((nI 3001) * x10) + x11).toNatClampNeg y6) (zQ σ r0 43) (((nI 3001) * x10) + x11).toNatClampNeg y8) Q) : zW (d + 1) 190 107 [(0, .ref r0), (1, .int x1), (2, .int x2), (3, .int x3), (4, .int x4), (5, .int x5), (6, .long y6), (8, .long y8), (10, .int x10), (11, .int x11)] [] σ Q := by
  refine zW_s rfl ?_
  have hp101 := h.1; replace h := h.2
  refine zW_p rfl hp101 ?_
  refine zW_s rfl ?_
  refine zW_s rfl ?_
  refine zW_s rfl ?_
  refine zW_s rfl ?_
  refine zW_s rfl ?_
  refine zW_s rfl ?_
  have hp102 := h.1; replace h := h.2
  have hp103 := h.1; replace h := h.2
  refine zW_p rfl ⟨hp102, hp103⟩ ?_
  refine zW_s rfl ?_
  refine zW_p rfl hp101 ?_
  refine zW_s rfl ?_
  refine zW_s rfl ?_
  refine zW_s rfl ?_
  refine zW_s rfl ?_
  refine zW_s rfl ?_
  refine zW_s rfl ?_
  have hp104 := h.1; replace h := h.2
  have hp105 := h.1; replace h := h.2
  refine zW_p rfl ⟨hp104, hp105⟩ ?_
  refine zW_s rfl ?_
  refine zW_s rfl ?_
  refine zW_k [0, 1, 2, 3, 4, 5] rfl ?_
  exact h
