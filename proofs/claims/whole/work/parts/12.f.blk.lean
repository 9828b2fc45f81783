set_option maxHeartbeats 4000000 in
theorem b90 {d : Nat} {r0 : Nat} {r1 : Nat} {x2 : Int32} {σ : zH} {Q : Option Value → zH → Prop} (h : (zK σ r1 = 8) ∧ (if (zI σ r1 1) ≤ (x2 + (nI 1)) then zW (d + 1) 90 28 [(0, .ref r0), (1, .ref r1), (2, .int x2)] [.int (nI 0)] σ Q else (zK σ (zQ σ r1 0) = 20) ∧ (vp_in (x2 + (nI 1)) (zN σ (zQ σ r1 0))) ∧ (vp_in x2 (zN σ (zQ σ r1 0))) ∧ zM d 91 [.int (zA σ (zQ σ r1 0) x2.toNatClampNeg), .int (if ¬ (zA σ (zQ σ r1 0) (x2 + (nI 1)).toNatClampNeg) = (nI 61) then nI 0 else nI 1)] σ (fun r σ107 => zqi r (fun x108 => (zK σ107 r0 = 9) ∧ zM d 88 [.ref r0, .int x108, .int x2, .int (nI 0)] σ107 (fun r σ110 => zqv r ((if x108 = (nI 43) then zW (d + 1) 90 75 [(2, .int x2)] [.int (nI 1)] σ110 Q else (if x108 = (nI 45) then zW (d + 1) 90 75 [(2, .int x2)] [.int (nI 1)] σ110 Q else Q (some (.int (if (if ¬ x108 = (nI 47) then nI 0 else nI 1) = 0 then x2 + (nI 1) else x2 + (nI 2)))) σ110)))))))) : zM (d + 1) 90 [.ref r0, .ref r1, .int x2] σ Q := by
  unfold zM
  refine zW_s rfl ?_
  refine zW_s rfl ?_
  refine zW_s rfl ?_
  refine zW_s rfl ?_
  have hp101 := h.1; replace h := h.2
  refine zW_p rfl hp101 ?_
  refine zW_s rfl ?_
  refine zW_if (fun (c102 : (zI σ r1 1) ≤ (x2 + (nI 1))) => ?_) (fun (c102 : ¬ ((zI σ r1 1) ≤ (x2 + (nI 1)))) => ?_)
  · rw [if_pos c102] at h
    refine zW_s rfl ?_
    exact h
  · rw [if_neg c102] at h
    refine zW_s rfl ?_
    refine zW_p rfl hp101 ?_
    refine zW_s rfl ?_
    refine zW_s rfl ?_
    refine zW_s rfl ?_
    have hp103 := h.1; replace h := h.2
    have hp104 := h.1; replace h := h.2
    refine zW_p rfl ⟨hp103, hp104⟩ ?_
    refine zW_s rfl ?_
    refine zW_s rfl ?_
    have k : ∀ v : Int32, v = (if ¬ (zA σ (zQ σ r1 0) (x2 + (nI 1)).toNatClampNeg) = (nI 61) then nI 0 else nI 1) → zW (d + 1) 90 28 [(0, .ref r0), (1, .ref r1), (2, .int x2)] [.int v] σ Q := by
      intro v hv
      subst hv
      refine zW_s rfl ?_
      refine zW_s rfl ?_
      refine zW_p rfl hp101 ?_
      refine zW_s rfl ?_
      have hp106 := h.1; replace h := h.2
      refine zW_p rfl ⟨hp103, hp106⟩ ?_
      refine zW_s rfl ?_
      refine zW_c rfl trivial (zM_m h ?_)
      intro r σ107 h
      replace h := zqi_e h
      obtain ⟨x108, rfl, h⟩ := h
      refine zW_s rfl ?_
      refine zW_s rfl ?_
      refine zW_s rfl ?_
      refine zW_s rfl ?_
      refine zW_s rfl ?_
      have hp109 := h.1; replace h := h.2
      refine zW_c rfl hp109 (zM_m h ?_)
      intro r σ110 h
      replace h := zqv_e h
      obtain ⟨rfl, h⟩ := h
      refine zW_s rfl ?_
      refine zW_s rfl ?_
      refine zW_s rfl ?_
      refine zW_if (fun (c111 : x108 = (nI 43)) => ?_) (fun (c111 : ¬ (x108 = (nI 43))) => ?_)
      · rw [if_pos c111] at h
        refine zW_s rfl ?_
        refine zW_s rfl ?_
        refine zW_k [2] rfl ?_
        exact h
      · rw [if_neg c111] at h
        refine zW_s rfl ?_
        refine zW_s rfl ?_
        refine zW_s rfl ?_
        refine zW_if (fun (c112 : x108 = (nI 45)) => ?_) (fun (c112 : ¬ (x108 = (nI 45))) => ?_)
        · rw [if_pos c112] at h
          refine zW_s rfl ?_
          refine zW_s rfl ?_
          refine zW_k [2] rfl ?_
          exact h
        · rw [if_neg c112] at h
          refine zW_s rfl ?_
          refine zW_s rfl ?_
          refine zW_s rfl ?_
          have k : ∀ v : Int32, v = (if ¬ x108 = (nI 47) then nI 0 else nI 1) → zW (d + 1) 90 75 [(0, .ref r0), (1, .ref r1), (2, .int x2), (3, .int (if ¬ (zA σ (zQ σ r1 0) (x2 + (nI 1)).toNatClampNeg) = (nI 61) then nI 0 else nI 1)), (4, .int x108)] [.int v] σ110 Q := by
            intro v hv
            subst hv
            refine zW_s rfl ?_
            refine zW_s rfl ?_
            refine zW_s rfl ?_
            have k : ∀ v : Int32, v = (if (if ¬ x108 = (nI 47) then nI 0 else nI 1) = 0 then x2 + (nI 1) else x2 + (nI 2)) → zW (d + 1) 90 91 [(0, .ref r0), (1, .ref r1), (2, .int x2), (3, .int (if ¬ (zA σ (zQ σ r1 0) (x2 + (nI 1)).toNatClampNeg) = (nI 61) then nI 0 else nI 1)), (4, .int x108), (5, .int (if ¬ x108 = (nI 47) then nI 0 else nI 1))] [.int v] σ110 Q := by
              intro v hv
              subst hv
              refine zW_r rfl trivial ?_
              exact h
            refine zW_if (fun (c114 : (if ¬ x108 = (nI 47) then nI 0 else nI 1) = 0) => ?_) (fun (c114 : ¬ ((if ¬ x108 = (nI 47) then nI 0 else nI 1) = 0)) => ?_)
            · replace k := k _ (if_pos c114).symm
              refine zW_s rfl ?_
              refine zW_s rfl ?_
              refine zW_s rfl ?_
              exact k
            · replace k := k _ (if_neg c114).symm
              refine zW_s rfl ?_
              refine zW_s rfl ?_
              refine zW_s rfl ?_
              refine zW_s rfl ?_
              exact k
          refine zW_if (fun (c113 : ¬ x108 = (nI 47)) => ?_) (fun (c113 : ¬ (¬ x108 = (nI 47))) => ?_)
          · replace k := k _ (if_pos c113).symm
            refine zW_s rfl ?_
            exact k
          · replace k := k _ (if_neg c113).symm
            refine zW_s rfl ?_
            refine zW_s rfl ?_
            exact k
    refine zW_if (fun (c105 : ¬ (zA σ (zQ σ r1 0) (x2 + (nI 1)).toNatClampNeg) = (nI 61)) => ?_) (fun (c105 : ¬ (¬ (zA σ (zQ σ r1 0) (x2 + (nI 1)).toNatClampNeg) = (nI 61))) => ?_)
    · replace k := k _ (if_pos c105).symm
      refine zW_s rfl ?_
      exact k
    · replace k := k _ (if_neg c105).symm
      refine zW_s rfl ?_
      refine zW_s rfl ?_
      exact k
set_option maxHeartbeats 4000000 in
theorem b90_28 {d : Nat} {r0 : Nat} {r1 : Nat} {x2 : Int32} {v0 : Int32} {σ : zH} {Q : Option Value → zH → Prop} (h : (zK σ r1 = 8) ∧ (zK σ (zQ σ r1 0) = 20) ∧ (vp_in x2 (zN σ (zQ σ r1 0))) ∧ zM d 91 [.int (zA σ (zQ σ r1 0) x2.toNatClampNeg), .int v0] σ (fun r σ104 => zqi r (fun x105 => (zK σ104 r0 = 9) ∧ zM d 88 [.ref r0, .int x105, .int x2, .int (nI 0)] σ104 (fun r σ107 => zqv r ((if x105 = (nI 43) then Q (some (.int (if (nI 1) = 0 then x2 + (nI 1) else x2 + (nI 2)))) σ107 else (if x105 = (nI 45) then Q (some (.int (if (nI 1) = 0 then x2 + (nI 1) else x2 + (nI 2)))) σ107 else Q (some (.int (if (if ¬ x105 = (nI 47) then nI 0 else nI 1) = 0 then x2 + (nI 1) else x2 + (nI 2)))) σ107))))))) : zW (d + 1) 90 28 [(0, .ref r0), (1, .ref r1), (2, .int x2)] [.int v0] σ Q := by
  refine zW_s rfl ?_
  refine zW_s rfl ?_
  have hp101 := h.1; replace h := h.2
  refine zW_p rfl hp101 ?_
  refine zW_s rfl ?_
  have hp102 := h.1; replace h := h.2
  have hp103 := h.1; replace h := h.2
  refine zW_p rfl ⟨hp102, hp103⟩ ?_
  refine zW_s rfl ?_
  refine zW_c rfl trivial (zM_m h ?_)
  intro r σ104 h
  replace h := zqi_e h
  obtain ⟨x105, rfl, h⟩ := h
  refine zW_s rfl ?_
  refine zW_s rfl ?_
  refine zW_s rfl ?_
  refine zW_s rfl ?_
  refine zW_s rfl ?_
  have hp106 := h.1; replace h := h.2
  refine zW_c rfl hp106 (zM_m h ?_)
  intro r σ107 h
  replace h := zqv_e h
  obtain ⟨rfl, h⟩ := h
  refine zW_s rfl ?_
  refine zW_s rfl ?_
  refine zW_s rfl ?_
  refine zW_if (fun (c108 : x105 = (nI 43)) => ?_) (fun (c108 : ¬ (x105 = (nI 43))) => ?_)
  · rw [if_pos c108] at h
    refine zW_s rfl ?_
    refine zW_s rfl ?_
    refine zW_s rfl ?_
    refine zW_s rfl ?_
    refine zW_s rfl ?_
    have k : ∀ v : Int32, v = (if (nI 1) = 0 then x2 + (nI 1) else x2 + (nI 2)) → zW (d + 1) 90 91 [(0, .ref r0), (1, .ref r1), (2, .int x2), (3, .int v0), (4, .int x105), (5, .int (nI 1))] [.int v] σ107 Q := by
      intro v hv
      subst hv
      refine zW_r rfl trivial ?_
      exact h
    refine zW_if (fun (c109 : (nI 1) = 0) => ?_) (fun (c109 : ¬ ((nI 1) = 0)) => ?_)
    · replace k := k _ (if_pos c109).symm
      refine zW_s rfl ?_
      refine zW_s rfl ?_
      refine zW_s rfl ?_
      exact k
    · replace k := k _ (if_neg c109).symm
      refine zW_s rfl ?_
      refine zW_s rfl ?_
      refine zW_s rfl ?_
      refine zW_s rfl ?_
      exact k
  · rw [if_neg c108] at h
    refine zW_s rfl ?_
    refine zW_s rfl ?_
    refine zW_s rfl ?_
    refine zW_if (fun (c110 : x105 = (nI 45)) => ?_) (fun (c110 : ¬ (x105 = (nI 45))) => ?_)
    · rw [if_pos c110] at h
      refine zW_s rfl ?_
      refine zW_s rfl ?_
      refine zW_s rfl ?_
      refine zW_s rfl ?_
      refine zW_s rfl ?_
      have k : ∀ v : Int32, v = (if (nI 1) = 0 then x2 + (nI 1) else x2 + (nI 2)) → zW (d + 1) 90 91 [(0, .ref r0), (1, .ref r1), (2, .int x2), (3, .int v0), (4, .int x105), (5, .int (nI 1))] [.int v] σ107 Q := by
        intro v hv
        subst hv
        refine zW_r rfl trivial ?_
        exact h
      refine zW_if (fun (c111 : (nI 1) = 0) => ?_) (fun (c111 : ¬ ((nI 1) = 0)) => ?_)
      · replace k := k _ (if_pos c111).symm
        refine zW_s rfl ?_
        refine zW_s rfl ?_
        refine zW_s rfl ?_
        exact k
      · replace k := k _ (if_neg c111).symm
        refine zW_s rfl ?_
        refine zW_s rfl ?_
        refine zW_s rfl ?_
        refine zW_s rfl ?_
        exact k
    · rw [if_neg c110] at h
      refine zW_s rfl ?_
      refine zW_s rfl ?_
      refine zW_s rfl ?_
      have k : ∀ v : Int32, v = (if ¬ x105 = (nI 47) then nI 0 else nI 1) → zW (d + 1) 90 75 [(0, .ref r0), (1, .ref r1), (2, .int x2), (3, .int v0), (4, .int x105)] [.int v] σ107 Q := by
        intro v hv
        subst hv
        refine zW_s rfl ?_
        refine zW_s rfl ?_
        refine zW_s rfl ?_
        have k : ∀ v : Int32, v = (if (if ¬ x105 = (nI 47) then nI 0 else nI 1) = 0 then x2 + (nI 1) else x2 + (nI 2)) → zW (d + 1) 90 91 [(0, .ref r0), (1, .ref r1), (2, .int x2), (3, .int v0), (4, .int x105), (5, .int (if ¬ x105 = (nI 47) then nI 0 else nI 1))] [.int v] σ107 Q := by
          intro v hv
          subst hv
          refine zW_r rfl trivial ?_
          exact h
        refine zW_if (fun (c113 : (if ¬ x105 = (nI 47) then nI 0 else nI 1) = 0) => ?_) (fun (c113 : ¬ ((if ¬ x105 = (nI 47) then nI 0 else nI 1) = 0)) => ?_)
        · replace k := k _ (if_pos c113).symm
          refine zW_s rfl ?_
          refine zW_s rfl ?_
          refine zW_s rfl ?_
          exact k
        · replace k := k _ (if_neg c113).symm
          refine zW_s rfl ?_
          refine zW_s rfl ?_
          refine zW_s rfl ?_
          refine zW_s rfl ?_
          exact k
      refine zW_if (fun (c112 : ¬ x105 = (nI 47)) => ?_) (fun (c112 : ¬ (¬ x105 = (nI 47))) => ?_)
      · replace k := k _ (if_pos c112).symm
        refine zW_s rfl ?_
        exact k
      · replace k := k _ (if_neg c112).symm
        refine zW_s rfl ?_
        refine zW_s rfl ?_
        exact k
set_option maxHeartbeats 4000000 in
theorem b90_75 {d : Nat} {x2 : Int32} {v0 : Int32} {σ : zH} {Q : Option Value → zH → Prop} (h : Q (some (.int (if v0 = 0 then x2 + (nI 1) else x2 + (nI 2)))) σ) : zW (d + 1) 90 75 [(2, .int x2)] [.int v0] σ Q := by
  refine zW_s rfl ?_
  refine zW_s rfl ?_
  refine zW_s rfl ?_
  have k : ∀ v : Int32, v = (if v0 = 0 then x2 + (nI 1) else x2 + (nI 2)) → zW (d + 1) 90 91 [(2, .int x2), (5, .int v0)] [.int v] σ Q := by
    intro v hv
    subst hv
    refine zW_r rfl trivial ?_
    exact h
  refine zW_if (fun (c101 : v0 = 0) => ?_) (fun (c101 : ¬ (v0 = 0)) => ?_)
  · replace k := k _ (if_pos c101).symm
    refine zW_s rfl ?_
    refine zW_s rfl ?_
    refine zW_s rfl ?_
    exact k
  · replace k := k _ (if_neg c101).symm
    refine zW_s rfl ?_
    refine zW_s rfl ?_
    refine zW_s rfl ?_
    refine zW_s rfl ?_
    exact k
set_option maxHeartbeats 4000000 in
theorem b91 {d : Nat} {x0 : Int32} {x1 : Int32} {σ : zH} {Q : Option Value → zH → Prop} (h : (if x0 = nI 33 then Q (some (.int (if x1 = 0 then nI 48 else nI 43))) σ else (if x0 = nI 40 then Q (some (.int (nI 39))) σ else (if x0 = nI 41 then Q (some (.int (nI 40))) σ else (if x0 = nI 59 then Q (some (.int (nI 41))) σ else (if x0 = nI 60 then Q (some (.int (if x1 = 0 then nI 44 else nI 45))) σ else (if x0 = nI 61 then Q (some (.int (nI 42))) σ else (if x0 = nI 62 then Q (some (.int (if x1 = 0 then nI 46 else nI 47))) σ else (if x0 = nI 123 then Q (some (.int (nI 37))) σ else (if x0 = nI 125 then Q (some (.int (nI 38))) σ else Q (some (.int (nI 48))) σ)))))))))) : zM (d) 91 [.int x0, .int x1] σ Q := by
  unfold zM
  refine zW_s rfl ?_
  refine zW_s rfl ?_
  refine zW_sw (fun (c101 : x0 = nI 33) => ?_) (fun (c101 : ¬ (x0 = nI 33)) => ?_)
  · rw [if_pos c101] at h
    refine zW_s rfl ?_
    refine zW_s rfl ?_
    have k : ∀ v : Int32, v = (if x1 = 0 then nI 48 else nI 43) → zW (d) 91 113 [(0, .int x0), (1, .int x1)] [.int v] σ Q := by
      intro v hv
      subst hv
      refine zW_r rfl trivial ?_
      exact h
    refine zW_if (fun (c102 : x1 = 0) => ?_) (fun (c102 : ¬ (x1 = 0)) => ?_)
    · replace k := k _ (if_pos c102).symm
      refine zW_s rfl ?_
      exact k
    · replace k := k _ (if_neg c102).symm
      refine zW_s rfl ?_
      refine zW_s rfl ?_
      exact k
  · rw [if_neg c101] at h
    refine zW_sw (fun (c103 : x0 = nI 40) => ?_) (fun (c103 : ¬ (x0 = nI 40)) => ?_)
    · rw [if_pos c103] at h
      refine zW_s rfl ?_
      refine zW_r rfl trivial ?_
      exact h
    · rw [if_neg c103] at h
      refine zW_sw (fun (c104 : x0 = nI 41) => ?_) (fun (c104 : ¬ (x0 = nI 41)) => ?_)
      · rw [if_pos c104] at h
        refine zW_s rfl ?_
        refine zW_r rfl trivial ?_
        exact h
      · rw [if_neg c104] at h
        refine zW_sw (fun (c105 : x0 = nI 59) => ?_) (fun (c105 : ¬ (x0 = nI 59)) => ?_)
        · rw [if_pos c105] at h
          refine zW_s rfl ?_
          refine zW_r rfl trivial ?_
          exact h
        · rw [if_neg c105] at h
          refine zW_sw (fun (c106 : x0 = nI 60) => ?_) (fun (c106 : ¬ (x0 = nI 60)) => ?_)
          · rw [if_pos c106] at h
            refine zW_s rfl ?_
            refine zW_s rfl ?_
            have k : ∀ v : Int32, v = (if x1 = 0 then nI 44 else nI 45) → zW (d) 91 125 [(0, .int x0), (1, .int x1)] [.int v] σ Q := by
              intro v hv
              subst hv
              refine zW_r rfl trivial ?_
              exact h
            refine zW_if (fun (c107 : x1 = 0) => ?_) (fun (c107 : ¬ (x1 = 0)) => ?_)
            · replace k := k _ (if_pos c107).symm
              refine zW_s rfl ?_
              exact k
            · replace k := k _ (if_neg c107).symm
              refine zW_s rfl ?_
              refine zW_s rfl ?_
              exact k
          · rw [if_neg c106] at h
            refine zW_sw (fun (c108 : x0 = nI 61) => ?_) (fun (c108 : ¬ (x0 = nI 61)) => ?_)
            · rw [if_pos c108] at h
              refine zW_s rfl ?_
              refine zW_r rfl trivial ?_
              exact h
            · rw [if_neg c108] at h
              refine zW_sw (fun (c109 : x0 = nI 62) => ?_) (fun (c109 : ¬ (x0 = nI 62)) => ?_)
              · rw [if_pos c109] at h
                refine zW_s rfl ?_
                refine zW_s rfl ?_
                have k : ∀ v : Int32, v = (if x1 = 0 then nI 46 else nI 47) → zW (d) 91 137 [(0, .int x0), (1, .int x1)] [.int v] σ Q := by
                  intro v hv
                  subst hv
                  refine zW_r rfl trivial ?_
                  exact h
                refine zW_if (fun (c110 : x1 = 0) => ?_) (fun (c110 : ¬ (x1 = 0)) => ?_)
                · replace k := k _ (if_pos c110).symm
                  refine zW_s rfl ?_
                  exact k
                · replace k := k _ (if_neg c110).symm
                  refine zW_s rfl ?_
                  refine zW_s rfl ?_
                  exact k
              · rw [if_neg c109] at h
                refine zW_sw (fun (c111 : x0 = nI 123) => ?_) (fun (c111 : ¬ (x0 = nI 123)) => ?_)
                · rw [if_pos c111] at h
                  refine zW_s rfl ?_
                  refine zW_r rfl trivial ?_
                  exact h
                · rw [if_neg c111] at h
                  refine zW_sw (fun (c112 : x0 = nI 125) => ?_) (fun (c112 : ¬ (x0 = nI 125)) => ?_)
                  · rw [if_pos c112] at h
                    refine zW_s rfl ?_
                    refine zW_r rfl trivial ?_
                    exact h
                  · rw [if_neg c112] at h
                    refine zW_s rfl ?_
                    refine zW_r rfl trivial ?_
                    exact h
set_option maxHeartbeats 4000000 in
theorem b92 {d : Nat} {r0 : Nat} {x1 : Int32} {x2 : Int32} {σ : zH} {Q : Option Value → zH → Prop} (h : zW (d + 1) 92 2 [(0, .ref r0), (1, .int x1), (2, .int x2), (3, .int (nI 0))] [] σ Q) : zM (d + 1) 92 [.ref r0, .int x1, .int x2] σ Q := by
  unfold zM
  refine zW_s rfl ?_
  refine zW_s rfl ?_
  exact h
set_option maxHeartbeats 4000000 in
theorem b92_2 {d : Nat} {r0 : Nat} {x1 : Int32} {x2 : Int32} {x3 : Int32} {σ : zH} {Q : Option Value → zH → Prop} (h : (if (nI 35) ≤ x3 then Q (some (.int (nI 35))) σ else zM d 93 [.int x3, .ref r0, .int x1, .int x2] σ (fun r σ102 => zqi r (fun x103 => (if x103 = 0 then zW (d + 1) 92 2 [(0, .ref r0), (1, .int x1), (2, .int x2), (3, .int (x3 + nI 1))] [] σ102 Q else Q (some (.int x3)) σ102))))) : zW (d + 1) 92 2 [(0, .ref r0), (1, .int x1), (2, .int x2), (3, .int x3)] [] σ Q := by
  refine zW_s rfl ?_
  refine zW_s rfl ?_
  refine zW_s rfl ?_
  refine zW_if (fun (c101 : (nI 35) ≤ x3) => ?_) (fun (c101 : ¬ ((nI 35) ≤ x3)) => ?_)
  · rw [if_pos c101] at h
    refine zW_s rfl ?_
    refine zW_r rfl trivial ?_
    exact h
  · rw [if_neg c101] at h
    refine zW_s rfl ?_
    refine zW_s rfl ?_
    refine zW_s rfl ?_
    refine zW_s rfl ?_
    refine zW_c rfl trivial (zM_m h ?_)
    intro r σ102 h
    replace h := zqi_e h
    obtain ⟨x103, rfl, h⟩ := h
    refine zW_s rfl ?_
    refine zW_if (fun (c104 : x103 = 0) => ?_) (fun (c104 : ¬ (x103 = 0)) => ?_)
    · rw [if_pos c104] at h
      refine zW_s rfl ?_
      refine zW_s rfl ?_
      exact h
    · rw [if_neg c104] at h
      refine zW_s rfl ?_
      refine zW_r rfl trivial ?_
      exact h
set_option maxHeartbeats 4000000 in
theorem b93 {d : Nat} {x0 : Int32} {r1 : Nat} {x2 : Int32} {x3 : Int32} {σ : zH} {Q : Option Value → zH → Prop} (h : zW (d + 5) 93 3 [(0, .int x0), (1, .ref r1), (2, .int x2), (3, .int x3), (4, .int (nI 0))] [] σ Q) : zM (d + 5) 93 [.int x0, .ref r1, .int x2, .int x3] σ Q := by
  unfold zM
  refine zW_s rfl ?_
  refine zW_s rfl ?_
  exact h
set_option maxHeartbeats 4000000 in
theorem b93_3 {d : Nat} {x0 : Int32} {r1 : Nat} {x2 : Int32} {x3 : Int32} {x4 : Int32} {σ : zH} {Q : Option Value → zH → Prop} (h : (if (nI 8) ≤ x4 then Q (some (.int (nI 1))) σ else (if x3 ≤ (x2 + x4) then zW (d + 5) 93 32 [(0, .int x0), (1, .ref r1), (2, .int x2), (3, .int x3), (4, .int x4)] [.int (nI 32)] σ Q else (zK σ r1 = 8) ∧ (zK σ (zQ σ r1 0) = 20) ∧ (vp_in (x2 + x4) (zN σ (zQ σ r1 0))) ∧ zW (d + 5) 93 32 [(0, .int x0), (1, .ref r1), (2, .int x2), (3, .int x3), (4, .int x4)] [.int (zA σ (zQ σ r1 0) (x2 + x4).toNatClampNeg)] σ Q))) : zW (d + 5) 93 3 [(0, .int x0), (1, .ref r1), (2, .int x2), (3, .int x3), (4, .int x4)] [] σ Q := by
  refine zW_s rfl ?_
  refine zW_s rfl ?_
  refine zW_s rfl ?_
  refine zW_if (fun (c101 : (nI 8) ≤ x4) => ?_) (fun (c101 : ¬ ((nI 8) ≤ x4)) => ?_)
  · rw [if_pos c101] at h
    refine zW_s rfl ?_
    refine zW_r rfl (by decide) ?_
    exact h
  · rw [if_neg c101] at h
    refine zW_s rfl ?_
    refine zW_s rfl ?_
    refine zW_s rfl ?_
    refine zW_s rfl ?_
    refine zW_s rfl ?_
    refine zW_if (fun (c102 : x3 ≤ (x2 + x4)) => ?_) (fun (c102 : ¬ (x3 ≤ (x2 + x4))) => ?_)
    · rw [if_pos c102] at h
      refine zW_s rfl ?_
      exact h
    · rw [if_neg c102] at h
      refine zW_s rfl ?_
      have hp103 := h.1; replace h := h.2
      refine zW_p rfl hp103 ?_
      refine zW_s rfl ?_
      refine zW_s rfl ?_
      refine zW_s rfl ?_
      have hp104 := h.1; replace h := h.2
      have hp105 := h.1; replace h := h.2
      refine zW_p rfl ⟨hp104, hp105⟩ ?_
      refine zW_s rfl ?_
      exact h
set_option maxHeartbeats 4000000 in
theorem b93_32 {d : Nat} {x0 : Int32} {r1 : Nat} {x2 : Int32} {x3 : Int32} {x4 : Int32} {v0 : Int32} {σ : zH} {Q : Option Value → zH → Prop} (h : (vp_in ((x0 * (nI 8)) + x4) 280) ∧ (if (zwch ((x0 * (nI 8)) + x4).toNatClampNeg) = v0 then zW (d + 5) 93 3 [(0, .int x0), (1, .ref r1), (2, .int x2), (3, .int x3), (4, .int (x4 + nI 1))] [] σ Q else Q (some (.int (nI 0))) σ)) : zW (d + 5) 93 32 [(0, .int x0), (1, .ref r1), (2, .int x2), (3, .int x3), (4, .int x4)] [.int v0] σ Q := by
  refine zW_s rfl ?_
  refine zW_s rfl ?_
  refine zW_s rfl ?_
  refine zW_s rfl ?_
  refine zW_s rfl ?_
  refine zW_s rfl ?_
  refine zW_s rfl ?_
  have hp101 := h.1; replace h := h.2
  refine zW_p rfl hp101 ?_
  refine zW_s rfl ?_
  refine zW_s rfl ?_
  refine zW_if (fun (c102 : (zwch ((x0 * (nI 8)) + x4).toNatClampNeg) = v0) => ?_) (fun (c102 : ¬ ((zwch ((x0 * (nI 8)) + x4).toNatClampNeg) = v0)) => ?_)
  · rw [if_pos c102] at h
    refine zW_s rfl ?_
    refine zW_s rfl ?_
    refine zW_k [0, 1, 2, 3, 4] rfl ?_
    exact h
  · rw [if_neg c102] at h
    refine zW_s rfl ?_
    refine zW_r rfl (by decide) ?_
    exact h
set_option maxHeartbeats 4000000 in
theorem b94 {d : Nat} {x0 : Int32} {σ : zH} {Q : Option Value → zH → Prop} (h : (if x0 < (nI 97) then Q (some (.int (nI 0))) σ else Q (some (.int (if (nI 122) < x0 then nI 0 else nI 1))) σ)) : zM (d) 94 [.int x0] σ Q := by
  unfold zM
  refine zW_s rfl ?_
  refine zW_s rfl ?_
  refine zW_s rfl ?_
  refine zW_if (fun (c101 : x0 < (nI 97)) => ?_) (fun (c101 : ¬ (x0 < (nI 97))) => ?_)
  · rw [if_pos c101] at h
    refine zW_s rfl ?_
    refine zW_r rfl (by decide) ?_
    exact h
  · rw [if_neg c101] at h
    refine zW_s rfl ?_
    refine zW_s rfl ?_
    refine zW_s rfl ?_
    have k : ∀ v : Int32, v = (if (nI 122) < x0 then nI 0 else nI 1) → zW (d) 94 17 [(0, .int x0)] [.int v] σ Q := by
      intro v hv
      subst hv
      refine zW_r rfl zb01 ?_
      exact h
    refine zW_if (fun (c102 : (nI 122) < x0) => ?_) (fun (c102 : ¬ ((nI 122) < x0)) => ?_)
    · replace k := k _ (if_pos c102).symm
      refine zW_s rfl ?_
      exact k
    · replace k := k _ (if_neg c102).symm
      refine zW_s rfl ?_
      refine zW_s rfl ?_
      exact k
set_option maxHeartbeats 4000000 in
theorem b95 {d : Nat} {x0 : Int32} {σ : zH} {Q : Option Value → zH → Prop} (h : (if x0 < (nI 48) then Q (some (.int (nI 0))) σ else Q (some (.int (if (nI 57) < x0 then nI 0 else nI 1))) σ)) : zM (d) 95 [.int x0] σ Q := by
  unfold zM
  refine zW_s rfl ?_
  refine zW_s rfl ?_
  refine zW_s rfl ?_
  refine zW_if (fun (c101 : x0 < (nI 48)) => ?_) (fun (c101 : ¬ (x0 < (nI 48))) => ?_)
  · rw [if_pos c101] at h
    refine zW_s rfl ?_
    refine zW_r rfl (by decide) ?_
    exact h
  · rw [if_neg c101] at h
    refine zW_s rfl ?_
    refine zW_s rfl ?_
    refine zW_s rfl ?_
    have k : ∀ v : Int32, v = (if (nI 57) < x0 then nI 0 else nI 1) → zW (d) 95 17 [(0, .int x0)] [.int v] σ Q := by
      intro v hv
      subst hv
      refine zW_r rfl zb01 ?_
      exact h
    refine zW_if (fun (c102 : (nI 57) < x0) => ?_) (fun (c102 : ¬ ((nI 57) < x0)) => ?_)
    · replace k := k _ (if_pos c102).symm
      refine zW_s rfl ?_
      exact k
    · replace k := k _ (if_neg c102).symm
      refine zW_s rfl ?_
      refine zW_s rfl ?_
      exact k
set_option maxHeartbeats 4000000 in
theorem b97 {d : Nat} {r0 : Nat} {σ : zH} {Q : Option Value → zH → Prop} (h : (zK σ r0 = 10) ∧ (zK σ (zQ σ r0 1) = 1) ∧ Q none (zsI (zsI σ r0 2 (nI 0)) (zQ σ r0 1) 3 (nI 0))) : zM (d) 97 [.ref r0] σ Q := by
  unfold zM
  refine zW_s rfl ?_
  refine zW_s rfl ?_
  have hp101 := h.1; replace h := h.2
  refine zW_p rfl hp101 ?_
  refine zW_s rfl ?_
  refine zW_p rfl hp101 ?_
  refine zW_s rfl ?_
  have hp102 := h.1; replace h := h.2
  refine zW_p rfl hp102 ?_
  refine zW_r rfl trivial ?_
  exact h
set_option maxHeartbeats 4000000 in
theorem b99 {d : Nat} {r0 : Nat} {σ : zH} {Q : Option Value → zH → Prop} (h : zW (d) 99 2 [(0, .ref r0), (1, .int (nI 0))] [] σ Q) : zM (d) 99 [.ref r0] σ Q := by
  unfold zM
  refine zW_s rfl ?_
  refine zW_s rfl ?_
  exact h
set_option maxHeartbeats 4000000 in
theorem b99_2 {d : Nat} {r0 : Nat} {x1 : Int32} {σ : zH} {Q : Option Value → zH → Prop} (h : (zK σ r0 = 11) ∧ (if (zI σ r0 4) ≤ x1 then Q none (zsI σ r0 4 (nI 0)) else (if (nI 3000) ≤ x1 then Q none (zsI σ r0 4 (nI 0)) else (zK σ (zQ σ r0 2) = 20) ∧ (vp_in x1 (zN σ (zQ σ r0 2))) ∧ (zK σ (zQ σ r0 3) = 20) ∧ (vp_in (zA σ (zQ σ r0 2) x1.toNatClampNeg) (zN σ (zQ σ r0 3))) ∧ zW (d) 99 2 [(0, .ref r0), (1, .int (x1 + nI 1))] [] (zsA σ (zQ σ r0 3) (zA σ (zQ σ r0 2) x1.toNatClampNeg).toNatClampNeg (nI 0)) Q))) : zW (d) 99 2 [(0, .ref r0), (1, .int x1)] [] σ Q := by
  refine zW_s rfl ?_
  refine zW_s rfl ?_
  have hp101 := h.1; replace h := h.2
  refine zW_p rfl hp101 ?_
  refine zW_s rfl ?_
  refine zW_if (fun (c102 : (zI σ r0 4) ≤ x1) => ?_) (fun (c102 : ¬ ((zI σ r0 4) ≤ x1)) => ?_)
  · rw [if_pos c102] at h
    refine zW_s rfl ?_
    refine zW_s rfl ?_
    refine zW_p rfl hp101 ?_
    refine zW_r rfl trivial ?_
    exact h
  · rw [if_neg c102] at h
    refine zW_s rfl ?_
    refine zW_s rfl ?_
    refine zW_s rfl ?_
    refine zW_if (fun (c103 : (nI 3000) ≤ x1) => ?_) (fun (c103 : ¬ ((nI 3000) ≤ x1)) => ?_)
    · rw [if_pos c103] at h
      refine zW_s rfl ?_
      refine zW_s rfl ?_
      refine zW_p rfl hp101 ?_
      refine zW_r rfl trivial ?_
      exact h
    · rw [if_neg c103] at h
      refine zW_s rfl ?_
      refine zW_p rfl hp101 ?_
      refine zW_s rfl ?_
      refine zW_p rfl hp101 ?_
      refine zW_s rfl ?_
      have hp104 := h.1; replace h := h.2
      have hp105 := h.1; replace h := h.2
      refine zW_p rfl ⟨hp104, hp105⟩ ?_
      refine zW_s rfl ?_
      have hp106 := h.1; replace h := h.2
      have hp107 := h.1; replace h := h.2
      refine zW_p rfl ⟨hp106, hp107⟩ ?_
      refine zW_s rfl ?_
      refine zW_s rfl ?_
      exact h
set_option maxHeartbeats 4000000 in
theorem b100 {d : Nat} {r0 : Nat} {y1 : Int64} {y3 : Int64} {σ : zH} {Q : Option Value → zH → Prop} (h : zW (d + 1) 100 14 [(0, .ref r0), (1, .long y1), (3, .long y3), (5, .int ((zlus (y1 * (Int64.ofInt (-7046029254386353131))) (nI 52)).toInt32)), (6, .int (nI 0))] [] σ Q) : zM (d + 1) 100 [.ref r0, .long y1, .long y3] σ Q := by
  unfold zM
  refine zW_s rfl ?_
  refine zW_s rfl ?_
  refine zW_s rfl ?_
  refine zW_s rfl ?_
  refine zW_s rfl ?_
  refine zW_s rfl ?_
  refine zW_s rfl ?_
  refine zW_s rfl ?_
  refine zW_s rfl ?_
  exact h
set_option maxHeartbeats 4000000 in
theorem b100_14 {d : Nat} {r0 : Nat} {y1 : Int64} {y3 : Int64} {x5 : Int32} {x6 : Int32} {σ : zH} {Q : Option Value → zH → Prop} (h : (if (nI 4096) ≤ x6 then Q (some (.int (nI 0))) σ else (zK σ r0 = 11) ∧ (zK σ (zQ σ r0 3) = 20) ∧ (vp_in x5 (zN σ (zQ σ r0 3))) ∧ (if 0 ≤ ((zA σ (zQ σ r0 3) x5.toNatClampNeg) - (nI 1)) then (zK σ (zQ σ r0 0) = 21) ∧ (vp_in ((zA σ (zQ σ r0 3) x5.toNatClampNeg) - (nI 1)) (zN σ (zQ σ r0 0))) ∧ (if ¬ (lg_cmp (zB σ (zQ σ r0 0) ((zA σ (zQ σ r0 3) x5.toNatClampNeg) - (nI 1)).toNatClampNeg) y1) = 0 then zW (d + 1) 100 14 [(0, .ref r0), (1, .long y1), (3, .long y3), (5, .int ((x5 + (nI 1)) &&& (nI 4095))), (6, .int (x6 + nI 1))] [] σ Q else (zK σ (zQ σ r0 1) = 21) ∧ (vp_in ((zA σ (zQ σ r0 3) x5.toNatClampNeg) - (nI 1)) (zN σ (zQ σ r0 1))) ∧ Q (some (.int (nI 1))) (zsB σ (zQ σ r0 1) ((zA σ (zQ σ r0 3) x5.toNatClampNeg) - (nI 1)).toNatClampNeg (if y3 < (zB σ (zQ σ r0 1) ((zA σ (zQ σ r0 3) x5.toNatClampNeg) - (nI 1)).toNatClampNeg) then y3 else (zB σ (zQ σ r0 1) ((zA σ (zQ σ r0 3) x5.toNatClampNeg) - (nI 1)).toNatClampNeg)))) else zM d 101 [.ref r0, .int x5, .long y1, .long y3] σ (fun r σ111 => zqi r (fun x112 => (x112 = 0 ∨ x112 = 1) ∧ Q (some (.int x112)) σ111))))) : zW (d + 1) 100 14 [(0, .ref r0), (1, .long y1), (3, .long y3), (5, .int x5), (6, .int x6)] [] σ Q := by
  refine zW_s rfl ?_
  refine zW_s rfl ?_
  refine zW_s rfl ?_
  refine zW_if (fun (c101 : (nI 4096) ≤ x6) => ?_) (fun (c101 : ¬ ((nI 4096) ≤ x6)) => ?_)
  · rw [if_pos c101] at h
    refine zW_s rfl ?_
    refine zW_r rfl (by decide) ?_
    exact h
  · rw [if_neg c101] at h
    refine zW_s rfl ?_
    have hp102 := h.1; replace h := h.2
    refine zW_p rfl hp102 ?_
    refine zW_s rfl ?_
    have hp103 := h.1; replace h := h.2
    have hp104 := h.1; replace h := h.2
    refine zW_p rfl ⟨hp103, hp104⟩ ?_
    refine zW_s rfl ?_
    refine zW_s rfl ?_
    refine zW_s rfl ?_
    refine zW_s rfl ?_
    refine zW_s rfl ?_
    refine zW_if (fun (c105 : 0 ≤ ((zA σ (zQ σ r0 3) x5.toNatClampNeg) - (nI 1))) => ?_) (fun (c105 : ¬ (0 ≤ ((zA σ (zQ σ r0 3) x5.toNatClampNeg) - (nI 1)))) => ?_)
    · rw [if_pos c105] at h
      refine zW_s rfl ?_
      refine zW_p rfl hp102 ?_
      refine zW_s rfl ?_
      have hp106 := h.1; replace h := h.2
      have hp107 := h.1; replace h := h.2
      refine zW_p rfl ⟨hp106, hp107⟩ ?_
      refine zW_s rfl ?_
      refine zW_s rfl ?_
      refine zW_s rfl ?_
      refine zW_if (fun (c108 : ¬ (lg_cmp (zB σ (zQ σ r0 0) ((zA σ (zQ σ r0 3) x5.toNatClampNeg) - (nI 1)).toNatClampNeg) y1) = 0) => ?_) (fun (c108 : ¬ (¬ (lg_cmp (zB σ (zQ σ r0 0) ((zA σ (zQ σ r0 3) x5.toNatClampNeg) - (nI 1)).toNatClampNeg) y1) = 0)) => ?_)
      · rw [if_pos c108] at h
        refine zW_s rfl ?_
        refine zW_s rfl ?_
        refine zW_s rfl ?_
        refine zW_s rfl ?_
        refine zW_s rfl ?_
        refine zW_s rfl ?_
        refine zW_s rfl ?_
        refine zW_s rfl ?_
        refine zW_k [0, 1, 2, 3, 4] rfl ?_
        exact h
      · rw [if_neg c108] at h
        refine zW_s rfl ?_
        refine zW_p rfl hp102 ?_
        refine zW_s rfl ?_
        refine zW_s rfl ?_
        refine zW_p rfl hp102 ?_
        refine zW_s rfl ?_
        have hp109 := h.1; replace h := h.2
        have hp110 := h.1; replace h := h.2
        refine zW_p rfl ⟨hp109, hp110⟩ ?_
        refine zW_s rfl ?_
        refine zW_s rfl ?_
        refine zW_p rfl ⟨hp109, hp110⟩ ?_
        refine zW_s rfl ?_
        refine zW_r rfl (by decide) ?_
        exact h
    · rw [if_neg c105] at h
      refine zW_s rfl ?_
      refine zW_s rfl ?_
      refine zW_s rfl ?_
      refine zW_s rfl ?_
      refine zW_c rfl hp102 (zM_m h ?_)
      intro r σ111 h
      replace h := zqi_e h
      obtain ⟨x112, rfl, h⟩ := h
      have hp113 := h.1; replace h := h.2
      refine zW_r rfl hp113 ?_
      exact h
set_option maxHeartbeats 4000000 in
theorem b101 {d : Nat} {r0 : Nat} {x1 : Int32} {y2 : Int64} {y4 : Int64} {σ : zH} {Q : Option Value → zH → Prop} (h : (zK σ r0 = 11) ∧ (if (zI σ r0 4) < (nI 3000) then (zK σ (zQ σ r0 0) = 21) ∧ (vp_in (zI σ r0 4) (zN σ (zQ σ r0 0))) ∧ (zK σ (zQ σ r0 1) = 21) ∧ (vp_in (zI σ r0 4) (zN σ (zQ σ r0 1))) ∧ (zK σ (zQ σ r0 2) = 20) ∧ (vp_in (zI σ r0 4) (zN σ (zQ σ r0 2))) ∧ (zK σ (zQ σ r0 3) = 20) ∧ (vp_in x1 (zN σ (zQ σ r0 3))) ∧ Q (some (.int (nI 1))) (zsA (zsI (zsA (zsB (zsB σ (zQ σ r0 0) (zI σ r0 4).toNatClampNeg y2) (zQ σ r0 1) (zI σ r0 4).toNatClampNeg y4) (zQ σ r0 2) (zI σ r0 4).toNatClampNeg x1) r0 4 ((zI σ r0 4) + (nI 1))) (zQ σ r0 3) x1.toNatClampNeg (zI (zsI σ r0 4 ((zI σ r0 4) + (nI 1))) r0 4)) else Q (some (.int (nI 0))) σ)) : zM (d) 101 [.ref r0, .int x1, .long y2, .long y4] σ Q := by
  unfold zM
  refine zW_s rfl ?_
  have hp101 := h.1; replace h := h.2
  refine zW_p rfl hp101 ?_
  refine zW_s rfl ?_
  refine zW_s rfl ?_
  refine zW_if (fun (c102 : (zI σ r0 4) < (nI 3000)) => ?_) (fun (c102 : ¬ ((zI σ r0 4) < (nI 3000))) => ?_)
  · rw [if_pos c102] at h
    refine zW_s rfl ?_
    refine zW_p rfl hp101 ?_
    refine zW_s rfl ?_
    refine zW_p rfl hp101 ?_
    refine zW_s rfl ?_
    have hp103 := h.1; replace h := h.2
    have hp104 := h.1; replace h := h.2
    refine zW_p rfl ⟨hp103, hp104⟩ ?_
    refine zW_s rfl ?_
    refine zW_p rfl hp101 ?_
    refine zW_s rfl ?_
    refine zW_p rfl hp101 ?_
    refine zW_s rfl ?_
    have hp105 := h.1; replace h := h.2
    have hp106 := h.1; replace h := h.2
    refine zW_p rfl ⟨hp105, hp106⟩ ?_
    refine zW_s rfl ?_
    refine zW_p rfl hp101 ?_
    refine zW_s rfl ?_
    refine zW_p rfl hp101 ?_
    refine zW_s rfl ?_
    have hp107 := h.1; replace h := h.2
    have hp108 := h.1; replace h := h.2
    refine zW_p rfl ⟨hp107, hp108⟩ ?_
    refine zW_s rfl ?_
    refine zW_s rfl ?_
    refine zW_p rfl hp101 ?_
    refine zW_s rfl ?_
    refine zW_s rfl ?_
    refine zW_p rfl hp101 ?_
    refine zW_s rfl ?_
    refine zW_p rfl hp101 ?_
    refine zW_s rfl ?_
    refine zW_s rfl ?_
    refine zW_p rfl hp101 ?_
    have hp109 := h.1; replace h := h.2
    have hp110 := h.1; replace h := h.2
    refine zW_p rfl ⟨hp109, hp110⟩ ?_
    refine zW_s rfl ?_
    refine zW_r rfl (by decide) ?_
    exact h
  · rw [if_neg c102] at h
    refine zW_s rfl ?_
    refine zW_r rfl (by decide) ?_
    exact h
set_option maxHeartbeats 4000000 in
theorem b102 {d : Nat} {y0 : Int64} {σ : zH} {Q : Option Value → zH → Prop} (h : Q (some (.int ((y0.toInt32) &&& (nI 15)))) σ) : zM (d) 102 [.long y0] σ Q := by
  unfold zM
  refine zW_s rfl ?_
  refine zW_s rfl ?_
  refine zW_s rfl ?_
  refine zW_s rfl ?_
  refine zW_r rfl trivial ?_
  exact h
set_option maxHeartbeats 4000000 in
theorem b103 {d : Nat} {y0 : Int64} {x2 : Int32} {σ : zH} {Q : Option Value → zH → Prop} (h : Q (some (.int ((((zlus y0 ((nI 53) - ((nI 7) * x2))).toInt32) &&& (nI 127)) - (nI 1)))) σ) : zM (d) 103 [.long y0, .int x2] σ Q := by
  unfold zM
  refine zW_s rfl ?_
  refine zW_s rfl ?_
  refine zW_s rfl ?_
  refine zW_s rfl ?_
  refine zW_s rfl ?_
  refine zW_s rfl ?_
  refine zW_s rfl ?_
  refine zW_s rfl ?_
  refine zW_s rfl ?_
  refine zW_s rfl ?_
  refine zW_s rfl ?_
  refine zW_s rfl ?_
  refine zW_r rfl trivial ?_
  exact h
set_option maxHeartbeats 4000000 in
theorem b104 {d : Nat} {y0 : Int64} {x2 : Int32} {σ : zH} {Q : Option Value → zH → Prop} (h : zM d 102 [.long y0] σ (fun r σ101 => zqi r (fun x102 => (if x102 < (nI 8) then Q (some (.long ((y0 + (zlsl ((x2 + (nI 1)).toInt64) ((nI 53) - ((nI 7) * x102)))) + (lN 1)))) σ101 else Q (some (.long y0)) σ101)))) : zM (d + 1) 104 [.long y0, .int x2] σ Q := by
  unfold zM
  refine zW_s rfl ?_
  refine zW_c rfl trivial (zM_m h ?_)
  intro r σ101 h
  replace h := zqi_e h
  obtain ⟨x102, rfl, h⟩ := h
  refine zW_s rfl ?_
  refine zW_s rfl ?_
  refine zW_s rfl ?_
  refine zW_s rfl ?_
  refine zW_if (fun (c103 : x102 < (nI 8)) => ?_) (fun (c103 : ¬ (x102 < (nI 8))) => ?_)
  · rw [if_pos c103] at h
    refine zW_s rfl ?_
    refine zW_s rfl ?_
    refine zW_s rfl ?_
    refine zW_s rfl ?_
    refine zW_s rfl ?_
    refine zW_s rfl ?_
    refine zW_s rfl ?_
    refine zW_s rfl ?_
    refine zW_s rfl ?_
    refine zW_s rfl ?_
    refine zW_s rfl ?_
    refine zW_s rfl ?_
    refine zW_s rfl ?_
    refine zW_s rfl ?_
    refine zW_r rfl trivial ?_
    exact h
  · rw [if_neg c103] at h
    refine zW_s rfl ?_
    refine zW_r rfl trivial ?_
    exact h
set_option maxHeartbeats 4000000 in
theorem b106 {d : Nat} {r0 : Nat} {x1 : Int32} {x2 : Int32} {x3 : Int32} {x4 : Int32} {x5 : Int32} {σ : zH} {Q : Option Value → zH → Prop} (h : (zK σ r0 = 12) ∧ (zK σ (zQ σ r0 0) = 8) ∧ (if (zI σ (zQ σ r0 0) 1) ≤ (nI 880) then zM d 85 [.ref (zQ σ r0 0), .int x1] σ (fun r σ104 => zqv r ((zK σ104 r0 = 12) ∧ (zK σ104 (zQ σ104 r0 0) = 8) ∧ zM d 85 [.ref (zQ σ104 r0 0), .int x2] σ104 (fun r σ107 => zqv r ((zK σ107 r0 = 12) ∧ (zK σ107 (zQ σ107 r0 0) = 8) ∧ zM d 85 [.ref (zQ σ107 r0 0), .int x3] σ107 (fun r σ110 => zqv r ((zK σ110 r0 = 12) ∧ (zK σ110 (zQ σ110 r0 0) = 8) ∧ zM d 85 [.ref (zQ σ110 r0 0), .int x4] σ110 (fun r σ113 => zqv r ((zK σ113 r0 = 12) ∧ (zK σ113 (zQ σ113 r0 0) = 8) ∧ zM d 85 [.ref (zQ σ113 r0 0), .int x5] σ113 (fun r σ116 => zqv r ((zK σ116 r0 = 12) ∧ (zK σ116 (zQ σ116 r0 0) = 8) ∧ Q (some (.int (zI σ116 (zQ σ116 r0 0) 1))) σ116)))))))))) else Q (some (.int (-1))) σ)) : zM (d + 1) 106 [.ref r0, .int x1, .int x2, .int x3, .int x4, .int x5] σ Q := by
  unfold zM
  refine zW_s rfl ?_
  have hp101 := h.1; replace h := h.2
  refine zW_p rfl hp101 ?_
  have hp102 := h.1; replace h := h.2
  refine zW_p rfl hp102 ?_
  refine zW_s rfl ?_
  refine zW_s rfl ?_
  refine zW_if (fun (c103 : (zI σ (zQ σ r0 0) 1) ≤ (nI 880)) => ?_) (fun (c103 : ¬ ((zI σ (zQ σ r0 0) 1) ≤ (nI 880))) => ?_)
  · rw [if_pos c103] at h
    refine zW_s rfl ?_
    refine zW_p rfl hp101 ?_
    refine zW_s rfl ?_
    refine zW_c rfl hp102 (zM_m h ?_)
    intro r σ104 h
    replace h := zqv_e h
    obtain ⟨rfl, h⟩ := h
    refine zW_s rfl ?_
    have hp105 := h.1; replace h := h.2
    refine zW_p rfl hp105 ?_
    refine zW_s rfl ?_
    have hp106 := h.1; replace h := h.2
    refine zW_c rfl hp106 (zM_m h ?_)
    intro r σ107 h
    replace h := zqv_e h
    obtain ⟨rfl, h⟩ := h
    refine zW_s rfl ?_
    have hp108 := h.1; replace h := h.2
    refine zW_p rfl hp108 ?_
    refine zW_s rfl ?_
    have hp109 := h.1; replace h := h.2
    refine zW_c rfl hp109 (zM_m h ?_)
    intro r σ110 h
    replace h := zqv_e h
    obtain ⟨rfl, h⟩ := h
    refine zW_s rfl ?_
    have hp111 := h.1; replace h := h.2
    refine zW_p rfl hp111 ?_
    refine zW_s rfl ?_
    have hp112 := h.1; replace h := h.2
    refine zW_c rfl hp112 (zM_m h ?_)
    intro r σ113 h
    replace h := zqv_e h
    obtain ⟨rfl, h⟩ := h
    refine zW_s rfl ?_
    have hp114 := h.1; replace h := h.2
    refine zW_p rfl hp114 ?_
    refine zW_s rfl ?_
    have hp115 := h.1; replace h := h.2
    refine zW_c rfl hp115 (zM_m h ?_)
    intro r σ116 h
    replace h := zqv_e h
    obtain ⟨rfl, h⟩ := h
    refine zW_s rfl ?_
    have hp117 := h.1; replace h := h.2
    refine zW_p rfl hp117 ?_
    have hp118 := h.1; replace h := h.2
    refine zW_p rfl hp118 ?_
    refine zW_r rfl trivial ?_
    exact h
  · rw [if_neg c103] at h
    refine zW_s rfl ?_
    refine zW_r rfl trivial ?_
    exact h
set_option maxHeartbeats 4000000 in
theorem b107 {d : Nat} {r0 : Nat} {x1 : Int32} {σ : zH} {Q : Option Value → zH → Prop} (h : (if x1 < 0 then Q (some (.int (nI 0))) σ else (zK σ r0 = 12) ∧ (zK σ (zQ σ r0 0) = 8) ∧ (if x1 ≤ (zI σ (zQ σ r0 0) 1) then Q (some (.int (nI 1))) (zsI σ (zQ σ r0 0) 1 x1) else Q (some (.int (nI 0))) σ))) : zM (d) 107 [.ref r0, .int x1] σ Q := by
  unfold zM
  refine zW_s rfl ?_
  refine zW_s rfl ?_
  refine zW_if (fun (c101 : x1 < 0) => ?_) (fun (c101 : ¬ (x1 < 0)) => ?_)
  · rw [if_pos c101] at h
    refine zW_s rfl ?_
    refine zW_r rfl (by decide) ?_
    exact h
  · rw [if_neg c101] at h
    refine zW_s rfl ?_
    refine zW_s rfl ?_
    have hp102 := h.1; replace h := h.2
    refine zW_p rfl hp102 ?_
    have hp103 := h.1; replace h := h.2
    refine zW_p rfl hp103 ?_
    refine zW_s rfl ?_
    refine zW_if (fun (c104 : x1 ≤ (zI σ (zQ σ r0 0) 1)) => ?_) (fun (c104 : ¬ (x1 ≤ (zI σ (zQ σ r0 0) 1))) => ?_)
    · rw [if_pos c104] at h
      refine zW_s rfl ?_
      refine zW_p rfl hp102 ?_
      refine zW_s rfl ?_
      refine zW_p rfl hp103 ?_
      refine zW_s rfl ?_
      refine zW_r rfl (by decide) ?_
      exact h
    · rw [if_neg c104] at h
      refine zW_s rfl ?_
      refine zW_r rfl (by decide) ?_
      exact h
set_option maxHeartbeats 4000000 in
theorem b108 {d : Nat} {r0 : Nat} {x1 : Int32} {σ : zH} {Q : Option Value → zH → Prop} (h : (if x1 < (nI 2) then Q (some (.int (nI 0))) σ else (if x1 ≤ (nI 9) then (zK σ r0 = 12) ∧ (zK σ (zQ σ r0 1) = 2) ∧ zM d 10 [.ref (zQ σ r0 1), .int x1] σ (fun r σ105 => zqv r ((zK σ105 r0 = 12) ∧ (zK σ105 (zQ σ105 r0 5) = 4) ∧ zM d 41 [.ref (zQ σ105 r0 5)] σ105 (fun r σ108 => zqv r ((zK σ108 r0 = 12) ∧ zM d 123 [.ref r0] σ108 (fun r σ110 => zqv r (Q (some (.int (nI 1))) σ110)))))) else Q (some (.int (nI 0))) σ))) : zM (d + 1) 108 [.ref r0, .int x1] σ Q := by
  unfold zM
  refine zW_s rfl ?_
  refine zW_s rfl ?_
  refine zW_s rfl ?_
  refine zW_if (fun (c101 : x1 < (nI 2)) => ?_) (fun (c101 : ¬ (x1 < (nI 2))) => ?_)
  · rw [if_pos c101] at h
    refine zW_s rfl ?_
    refine zW_r rfl (by decide) ?_
    exact h
  · rw [if_neg c101] at h
    refine zW_s rfl ?_
    refine zW_s rfl ?_
    refine zW_s rfl ?_
    refine zW_if (fun (c102 : x1 ≤ (nI 9)) => ?_) (fun (c102 : ¬ (x1 ≤ (nI 9))) => ?_)
    · rw [if_pos c102] at h
      refine zW_s rfl ?_
      have hp103 := h.1; replace h := h.2
      refine zW_p rfl hp103 ?_
      refine zW_s rfl ?_
      have hp104 := h.1; replace h := h.2
      refine zW_c rfl hp104 (zM_m h ?_)
      intro r σ105 h
      replace h := zqv_e h
      obtain ⟨rfl, h⟩ := h
      refine zW_s rfl ?_
      have hp106 := h.1; replace h := h.2
      refine zW_p rfl hp106 ?_
      have hp107 := h.1; replace h := h.2
      refine zW_c rfl hp107 (zM_m h ?_)
      intro r σ108 h
      replace h := zqv_e h
      obtain ⟨rfl, h⟩ := h
      refine zW_s rfl ?_
      have hp109 := h.1; replace h := h.2
      refine zW_c rfl hp109 (zM_m h ?_)
      intro r σ110 h
      replace h := zqv_e h
      obtain ⟨rfl, h⟩ := h
      refine zW_s rfl ?_
      refine zW_r rfl (by decide) ?_
      exact h
    · rw [if_neg c102] at h
      refine zW_s rfl ?_
      refine zW_r rfl (by decide) ?_
      exact h
set_option maxHeartbeats 4000000 in
theorem b109 {d : Nat} {r0 : Nat} {x1 : Int32} {x2 : Int32} {x3 : Int32} {x4 : Int32} {σ : zH} {Q : Option Value → zH → Prop} (h : (if x1 < (nI 1) then Q (some (.int (nI 0))) σ else (zK σ r0 = 12) ∧ (zK σ (zQ σ r0 1) = 2) ∧ (if (zI σ (zQ σ r0 1) 4) < x1 then Q (some (.int (nI 0))) σ else (if x2 < (nI 1) then Q (some (.int (nI 0))) σ else (if (nI 13) < x2 then Q (some (.int (nI 0))) σ else (if x3 < 0 then Q (some (.int (nI 0))) σ else (if (nI 3) < x3 then Q (some (.int (nI 0))) σ else (if x4 < 0 then Q (some (.int (nI 0))) σ else (if x4 ≤ (nI 1) then zM d 11 [.ref (zQ σ r0 1), .int x1, .int x2, .int x3, .int x4] σ (fun r σ111 => zqv r (Q (some (.int (nI 1))) σ111)) else Q (some (.int (nI 0))) σ))))))))) : zM (d + 1) 109 [.ref r0, .int x1, .int x2, .int x3, .int x4] σ Q := by
  unfold zM
  refine zW_s rfl ?_
  refine zW_s rfl ?_
  refine zW_s rfl ?_
  refine zW_if (fun (c101 : x1 < (nI 1)) => ?_) (fun (c101 : ¬ (x1 < (nI 1))) => ?_)
  · rw [if_pos c101] at h
    refine zW_s rfl ?_
    refine zW_r rfl (by decide) ?_
    exact h
  · rw [if_neg c101] at h
    refine zW_s rfl ?_
    refine zW_s rfl ?_
    have hp102 := h.1; replace h := h.2
    refine zW_p rfl hp102 ?_
    have hp103 := h.1; replace h := h.2
    refine zW_p rfl hp103 ?_
    refine zW_s rfl ?_
    refine zW_if (fun (c104 : (zI σ (zQ σ r0 1) 4) < x1) => ?_) (fun (c104 : ¬ ((zI σ (zQ σ r0 1) 4) < x1)) => ?_)
    · rw [if_pos c104] at h
      refine zW_s rfl ?_
      refine zW_r rfl (by decide) ?_
      exact h
    · rw [if_neg c104] at h
      refine zW_s rfl ?_
      refine zW_s rfl ?_
      refine zW_s rfl ?_
      refine zW_if (fun (c105 : x2 < (nI 1)) => ?_) (fun (c105 : ¬ (x2 < (nI 1))) => ?_)
      · rw [if_pos c105] at h
        refine zW_s rfl ?_
        refine zW_r rfl (by decide) ?_
        exact h
      · rw [if_neg c105] at h
        refine zW_s rfl ?_
        refine zW_s rfl ?_
        refine zW_s rfl ?_
        refine zW_if (fun (c106 : (nI 13) < x2) => ?_) (fun (c106 : ¬ ((nI 13) < x2)) => ?_)
        · rw [if_pos c106] at h
          refine zW_s rfl ?_
          refine zW_r rfl (by decide) ?_
          exact h
        · rw [if_neg c106] at h
          refine zW_s rfl ?_
          refine zW_s rfl ?_
          refine zW_if (fun (c107 : x3 < 0) => ?_) (fun (c107 : ¬ (x3 < 0)) => ?_)
          · rw [if_pos c107] at h
            refine zW_s rfl ?_
            refine zW_r rfl (by decide) ?_
            exact h
          · rw [if_neg c107] at h
            refine zW_s rfl ?_
            refine zW_s rfl ?_
            refine zW_s rfl ?_
            refine zW_if (fun (c108 : (nI 3) < x3) => ?_) (fun (c108 : ¬ ((nI 3) < x3)) => ?_)
            · rw [if_pos c108] at h
              refine zW_s rfl ?_
              refine zW_r rfl (by decide) ?_
              exact h
            · rw [if_neg c108] at h
              refine zW_s rfl ?_
              refine zW_s rfl ?_
              refine zW_if (fun (c109 : x4 < 0) => ?_) (fun (c109 : ¬ (x4 < 0)) => ?_)
              · rw [if_pos c109] at h
                refine zW_s rfl ?_
                refine zW_r rfl (by decide) ?_
                exact h
              · rw [if_neg c109] at h
                refine zW_s rfl ?_
                refine zW_s rfl ?_
                refine zW_s rfl ?_
                refine zW_if (fun (c110 : x4 ≤ (nI 1)) => ?_) (fun (c110 : ¬ (x4 ≤ (nI 1))) => ?_)
                · rw [if_pos c110] at h
                  refine zW_s rfl ?_
                  refine zW_p rfl hp102 ?_
                  refine zW_s rfl ?_
                  refine zW_s rfl ?_
                  refine zW_s rfl ?_
                  refine zW_s rfl ?_
                  refine zW_c rfl hp103 (zM_m h ?_)
                  intro r σ111 h
                  replace h := zqv_e h
                  obtain ⟨rfl, h⟩ := h
                  refine zW_s rfl ?_
                  refine zW_r rfl (by decide) ?_
                  exact h
                · rw [if_neg c110] at h
                  refine zW_s rfl ?_
                  refine zW_r rfl (by decide) ?_
                  exact h
set_option maxHeartbeats 4000000 in
theorem b110 {d : Nat} {r0 : Nat} {σ : zH} {Q : Option Value → zH → Prop} (h : (zK σ r0 = 12) ∧ zM d 124 [.ref r0] σ (fun r σ102 => zqi r (fun x103 => (if x103 = 0 then (zK σ102 r0 = 12) ∧ (zK σ102 (zQ σ102 r0 0) = 8) ∧ (x103 = 0 ∨ x103 = 1) ∧ Q (some (.int x103)) (zsI σ102 (zQ σ102 r0 0) 1 (nI 0)) else zW (d + 1) 110 11 [(0, .ref r0), (1, .int x103), (2, .int (nI 0))] [] σ102 Q)))) : zM (d + 1) 110 [.ref r0] σ Q := by
  unfold zM
  refine zW_s rfl ?_
  have hp101 := h.1; replace h := h.2
  refine zW_c rfl hp101 (zM_m h ?_)
  intro r σ102 h
  replace h := zqi_e h
  obtain ⟨x103, rfl, h⟩ := h
  refine zW_s rfl ?_
  refine zW_s rfl ?_
  refine zW_s rfl ?_
  refine zW_if (fun (c104 : x103 = 0) => ?_) (fun (c104 : ¬ (x103 = 0)) => ?_)
  · rw [if_pos c104] at h
    refine zW_s rfl ?_
    have hp105 := h.1; replace h := h.2
    refine zW_p rfl hp105 ?_
    refine zW_s rfl ?_
    have hp106 := h.1; replace h := h.2
    refine zW_p rfl hp106 ?_
    refine zW_s rfl ?_
    have hp107 := h.1; replace h := h.2
    refine zW_r rfl hp107 ?_
    exact h
  · rw [if_neg c104] at h
    refine zW_s rfl ?_
    refine zW_s rfl ?_
    exact h
set_option maxHeartbeats 4000000 in
theorem b110_11 {d : Nat} {r0 : Nat} {x1 : Int32} {x2 : Int32} {σ : zH} {Q : Option Value → zH → Prop} (h : (zK σ r0 = 12) ∧ (zK σ (zQ σ r0 1) = 2) ∧ (if (zI σ (zQ σ r0 1) 4) ≤ x2 then (zK σ (zQ σ r0 0) = 8) ∧ (x1 = 0 ∨ x1 = 1) ∧ Q (some (.int x1)) (zsI σ (zQ σ r0 0) 1 (nI 0)) else (zK σ (zQ σ r0 0) = 8) ∧ (zK σ (zQ σ (zQ σ r0 0) 0) = 20) ∧ (vp_in x2 (zN σ (zQ σ (zQ σ r0 0) 0))) ∧ (zK σ (zQ σ (zQ σ r0 1) 3) = 20) ∧ (vp_in x2 (zN σ (zQ σ (zQ σ r0 1) 3))) ∧ zW (d + 1) 110 11 [(0, .ref r0), (1, .int x1), (2, .int (x2 + nI 1))] [] (zsA σ (zQ σ (zQ σ r0 1) 3) x2.toNatClampNeg (((zA σ (zQ σ (zQ σ r0 0) 0) x2.toNatClampNeg) &&& (nI 15)) + (if (zA σ (zQ σ (zQ σ r0 0) 0) x2.toNatClampNeg) < (nI 128) then nI 0 else nI 16))) Q)) : zW (d + 1) 110 11 [(0, .ref r0), (1, .int x1), (2, .int x2)] [] σ Q := by
  refine zW_s rfl ?_
  refine zW_s rfl ?_
  have hp101 := h.1; replace h := h.2
  refine zW_p rfl hp101 ?_
  have hp102 := h.1; replace h := h.2
  refine zW_p rfl hp102 ?_
  refine zW_s rfl ?_
  refine zW_if (fun (c103 : (zI σ (zQ σ r0 1) 4) ≤ x2) => ?_) (fun (c103 : ¬ ((zI σ (zQ σ r0 1) 4) ≤ x2)) => ?_)
  · rw [if_pos c103] at h
    refine zW_s rfl ?_
    refine zW_p rfl hp101 ?_
    refine zW_s rfl ?_
    have hp104 := h.1; replace h := h.2
    refine zW_p rfl hp104 ?_
    refine zW_s rfl ?_
    have hp105 := h.1; replace h := h.2
    refine zW_r rfl hp105 ?_
    exact h
  · rw [if_neg c103] at h
    refine zW_s rfl ?_
    refine zW_p rfl hp101 ?_
    have hp106 := h.1; replace h := h.2
    refine zW_p rfl hp106 ?_
    refine zW_s rfl ?_
    have hp107 := h.1; replace h := h.2
    have hp108 := h.1; replace h := h.2
    refine zW_p rfl ⟨hp107, hp108⟩ ?_
    refine zW_s rfl ?_
    refine zW_s rfl ?_
    refine zW_p rfl hp101 ?_
    refine zW_p rfl hp102 ?_
    refine zW_s rfl ?_
    refine zW_s rfl ?_
    refine zW_s rfl ?_
    refine zW_s rfl ?_
    refine zW_s rfl ?_
    refine zW_s rfl ?_
    refine zW_s rfl ?_
    have k : ∀ v : Int32, v = (if (zA σ (zQ σ (zQ σ r0 0) 0) x2.toNatClampNeg) < (nI 128) then nI 0 else nI 16) → zW (d + 1) 110 57 [(0, .ref r0), (1, .int x1), (2, .int x2), (3, .int (zA σ (zQ σ (zQ σ r0 0) 0) x2.toNatClampNeg))] [.int v, .int ((zA σ (zQ σ (zQ σ r0 0) 0) x2.toNatClampNeg) &&& (nI 15)), .int x2, .ref (zQ σ (zQ σ r0 1) 3)] σ Q := by
      intro v hv
      subst hv
      refine zW_s rfl ?_
      have hp110 := h.1; replace h := h.2
      have hp111 := h.1; replace h := h.2
      refine zW_p rfl ⟨hp110, hp111⟩ ?_
      refine zW_s rfl ?_
      refine zW_s rfl ?_
      refine zW_k [0, 1, 2] rfl ?_
      exact h
    refine zW_if (fun (c109 : (zA σ (zQ σ (zQ σ r0 0) 0) x2.toNatClampNeg) < (nI 128)) => ?_) (fun (c109 : ¬ ((zA σ (zQ σ (zQ σ r0 0) 0) x2.toNatClampNeg) < (nI 128))) => ?_)
    · replace k := k _ (if_pos c109).symm
      refine zW_s rfl ?_
      exact k
    · replace k := k _ (if_neg c109).symm
      refine zW_s rfl ?_
      refine zW_s rfl ?_
      exact k
set_option maxHeartbeats 4000000 in
theorem b111 {d : Nat} {r0 : Nat} {σ : zH} {Q : Option Value → zH → Prop} (h : (zK σ r0 = 12) ∧ (zK σ (zQ σ r0 2) = 3) ∧ zM d 15 [.ref (zQ σ r0 2), .ref (zQ σ r0 0), .ref (zQ σ r0 8)] σ (fun r σ103 => zqv r ((zK σ103 r0 = 12) ∧ (zK σ103 (zQ σ103 r0 0) = 8) ∧ (zK σ103 (zQ σ103 r0 2) = 3) ∧ (if (zI (zsI σ103 (zQ σ103 r0 0) 1 (nI 0)) (zQ σ103 r0 2) 5) = 0 then (zK σ103 (zQ (zsQ (zsQ σ103 r0 7 (zQ σ103 r0 8)) r0 8 (zQ σ103 r0 7)) r0 7) = 10) ∧ Q (some (.int (zI (zsI σ103 (zQ σ103 r0 0) 1 (nI 0)) (zQ (zsQ (zsQ σ103 r0 7 (zQ σ103 r0 8)) r0 8 (zQ σ103 r0 7)) r0 7) 2))) (zsQ (zsQ (zsI σ103 (zQ σ103 r0 0) 1 (nI 0)) r0 7 (zQ σ103 r0 8)) r0 8 (zQ σ103 r0 7)) else Q (some (.int ((-1) - (zI (zsI σ103 (zQ σ103 r0 0) 1 (nI 0)) (zQ σ103 r0 2) 6)))) (zsI σ103 (zQ σ103 r0 0) 1 (nI 0)))))) : zM (d + 1) 111 [.ref r0] σ Q := by
  unfold zM
  refine zW_s rfl ?_
  have hp101 := h.1; replace h := h.2
  refine zW_p rfl hp101 ?_
  refine zW_s rfl ?_
  refine zW_p rfl hp101 ?_
  refine zW_s rfl ?_
  refine zW_p rfl hp101 ?_
  have hp102 := h.1; replace h := h.2
  refine zW_c rfl hp102 (zM_m h ?_)
  intro r σ103 h
  replace h := zqv_e h
  obtain ⟨rfl, h⟩ := h
  refine zW_s rfl ?_
  have hp104 := h.1; replace h := h.2
  refine zW_p rfl hp104 ?_
  refine zW_s rfl ?_
  have hp105 := h.1; replace h := h.2
  refine zW_p rfl hp105 ?_
  refine zW_s rfl ?_
  refine zW_p rfl hp104 ?_
  have hp106 := h.1; replace h := h.2
  refine zW_p rfl hp106 ?_
  refine zW_s rfl ?_
  refine zW_if (fun (c107 : (zI (zsI σ103 (zQ σ103 r0 0) 1 (nI 0)) (zQ σ103 r0 2) 5) = 0) => ?_) (fun (c107 : ¬ ((zI (zsI σ103 (zQ σ103 r0 0) 1 (nI 0)) (zQ σ103 r0 2) 5) = 0)) => ?_)
  · rw [if_pos c107] at h
    refine zW_s rfl ?_
    refine zW_p rfl hp104 ?_
    refine zW_s rfl ?_
    refine zW_s rfl ?_
    refine zW_s rfl ?_
    refine zW_p rfl hp104 ?_
    refine zW_p rfl hp104 ?_
    refine zW_s rfl ?_
    refine zW_s rfl ?_
    refine zW_p rfl hp104 ?_
    refine zW_s rfl ?_
    refine zW_p rfl hp104 ?_
    have hp108 := h.1; replace h := h.2
    refine zW_p rfl hp108 ?_
    refine zW_r rfl trivial ?_
    exact h
  · rw [if_neg c107] at h
    refine zW_s rfl ?_
    refine zW_s rfl ?_
    refine zW_p rfl hp104 ?_
    refine zW_p rfl hp106 ?_
    refine zW_s rfl ?_
    refine zW_r rfl trivial ?_
    exact h
set_option maxHeartbeats 4000000 in
theorem b112 {d : Nat} {r0 : Nat} {σ : zH} {Q : Option Value → zH → Prop} (h : (zK σ r0 = 12) ∧ (zK σ (zQ σ r0 2) = 3) ∧ zM d 16 [.ref (zQ σ r0 2), .ref (zQ σ r0 0), .ref (zQ σ r0 10)] σ (fun r σ103 => zqv r ((zK σ103 r0 = 12) ∧ (zK σ103 (zQ σ103 r0 0) = 8) ∧ (zK σ103 (zQ σ103 r0 2) = 3) ∧ (if (zI (zsI σ103 (zQ σ103 r0 0) 1 (nI 0)) (zQ σ103 r0 2) 5) = 0 then Q (some (.int (nI 0))) (zsQ (zsQ (zsI σ103 (zQ σ103 r0 0) 1 (nI 0)) r0 9 (zQ σ103 r0 10)) r0 10 (zQ σ103 r0 9)) else Q (some (.int ((-1) - (zI (zsI σ103 (zQ σ103 r0 0) 1 (nI 0)) (zQ σ103 r0 2) 6)))) (zsI σ103 (zQ σ103 r0 0) 1 (nI 0)))))) : zM (d + 1) 112 [.ref r0] σ Q := by
  unfold zM
  refine zW_s rfl ?_
  have hp101 := h.1; replace h := h.2
  refine zW_p rfl hp101 ?_
  refine zW_s rfl ?_
  refine zW_p rfl hp101 ?_
  refine zW_s rfl ?_
  refine zW_p rfl hp101 ?_
  have hp102 := h.1; replace h := h.2
  refine zW_c rfl hp102 (zM_m h ?_)
  intro r σ103 h
  replace h := zqv_e h
  obtain ⟨rfl, h⟩ := h
  refine zW_s rfl ?_
  have hp104 := h.1; replace h := h.2
  refine zW_p rfl hp104 ?_
  refine zW_s rfl ?_
  have hp105 := h.1; replace h := h.2
  refine zW_p rfl hp105 ?_
  refine zW_s rfl ?_
  refine zW_p rfl hp104 ?_
  have hp106 := h.1; replace h := h.2
  refine zW_p rfl hp106 ?_
  refine zW_s rfl ?_
  refine zW_if (fun (c107 : (zI (zsI σ103 (zQ σ103 r0 0) 1 (nI 0)) (zQ σ103 r0 2) 5) = 0) => ?_) (fun (c107 : ¬ ((zI (zsI σ103 (zQ σ103 r0 0) 1 (nI 0)) (zQ σ103 r0 2) 5) = 0)) => ?_)
  · rw [if_pos c107] at h
    refine zW_s rfl ?_
    refine zW_p rfl hp104 ?_
    refine zW_s rfl ?_
    refine zW_s rfl ?_
    refine zW_s rfl ?_
    refine zW_p rfl hp104 ?_
    refine zW_p rfl hp104 ?_
    refine zW_s rfl ?_
    refine zW_s rfl ?_
    refine zW_p rfl hp104 ?_
    refine zW_s rfl ?_
    refine zW_r rfl trivial ?_
    exact h
  · rw [if_neg c107] at h
    refine zW_s rfl ?_
    refine zW_s rfl ?_
    refine zW_p rfl hp104 ?_
    refine zW_p rfl hp106 ?_
    refine zW_s rfl ?_
    refine zW_r rfl trivial ?_
    exact h
set_option maxHeartbeats 4000000 in
theorem b113 {d : Nat} {r0 : Nat} {σ : zH} {Q : Option Value → zH → Prop} (h : (zK σ r0 = 12) ∧ (zK σ (zQ σ r0 2) = 3) ∧ Q (some (.int (zI σ (zQ σ r0 2) 5))) σ) : zM (d) 113 [.ref r0] σ Q := by
  unfold zM
  refine zW_s rfl ?_
  have hp101 := h.1; replace h := h.2
  refine zW_p rfl hp101 ?_
  have hp102 := h.1; replace h := h.2
  refine zW_p rfl hp102 ?_
  refine zW_r rfl trivial ?_
  exact h
set_option maxHeartbeats 4000000 in
theorem b114 {d : Nat} {r0 : Nat} {σ : zH} {Q : Option Value → zH → Prop} (h : (zK σ r0 = 12) ∧ zM d 123 [.ref r0] σ (fun r σ102 => zqv r ((zK σ102 r0 = 12) ∧ (zK σ102 (zQ σ102 r0 1) = 2) ∧ (zK σ102 (zQ σ102 r0 4) = 5) ∧ zM d 47 [.ref (zQ σ102 r0 4), .ref (zQ σ102 r0 7), .ref (zQ σ102 r0 9), .ref (zQ σ102 (zQ σ102 r0 1) 3)] σ102 (fun r σ106 => zqv r ((zK σ106 r0 = 12) ∧ (zK σ106 (zQ σ106 r0 4) = 5) ∧ (if (zI σ106 (zQ σ106 r0 4) 4) = 0 then Q (some (.int (if ¬ (zI (zsI (zsI (zsI σ106 r0 11 (nI 1)) r0 12 (zI (zsI σ106 r0 11 (nI 1)) (zQ σ106 r0 4) 5)) r0 13 (zI (zsI (zsI σ106 r0 11 (nI 1)) r0 12 (zI (zsI σ106 r0 11 (nI 1)) (zQ σ106 r0 4) 5)) (zQ σ106 r0 4) 6)) r0 13) = (zI (zsI (zsI (zsI σ106 r0 11 (nI 1)) r0 12 (zI (zsI σ106 r0 11 (nI 1)) (zQ σ106 r0 4) 5)) r0 13 (zI (zsI (zsI σ106 r0 11 (nI 1)) r0 12 (zI (zsI σ106 r0 11 (nI 1)) (zQ σ106 r0 4) 5)) (zQ σ106 r0 4) 6)) r0 12) then nI 1 else nI 0))) (zsJ (zsI (zsI (zsI σ106 r0 11 (nI 1)) r0 12 (zI (zsI σ106 r0 11 (nI 1)) (zQ σ106 r0 4) 5)) r0 13 (zI (zsI (zsI σ106 r0 11 (nI 1)) r0 12 (zI (zsI σ106 r0 11 (nI 1)) (zQ σ106 r0 4) 5)) (zQ σ106 r0 4) 6)) r0 14 (zJ σ106 (zQ σ106 r0 4) 7)) else Q (some (.int (nI 2))) σ106)))))) : zM (d + 1) 114 [.ref r0] σ Q := by
  unfold zM
  refine zW_s rfl ?_
  have hp101 := h.1; replace h := h.2
  refine zW_c rfl hp101 (zM_m h ?_)
  intro r σ102 h
  replace h := zqv_e h
  obtain ⟨rfl, h⟩ := h
  refine zW_s rfl ?_
  have hp103 := h.1; replace h := h.2
  refine zW_p rfl hp103 ?_
  refine zW_s rfl ?_
  refine zW_p rfl hp103 ?_
  refine zW_s rfl ?_
  refine zW_p rfl hp103 ?_
  refine zW_s rfl ?_
  refine zW_p rfl hp103 ?_
  have hp104 := h.1; replace h := h.2
  refine zW_p rfl hp104 ?_
  have hp105 := h.1; replace h := h.2
  refine zW_c rfl hp105 (zM_m h ?_)
  intro r σ106 h
  replace h := zqv_e h
  obtain ⟨rfl, h⟩ := h
  refine zW_s rfl ?_
  have hp107 := h.1; replace h := h.2
  refine zW_p rfl hp107 ?_
  have hp108 := h.1; replace h := h.2
  refine zW_p rfl hp108 ?_
  refine zW_s rfl ?_
  refine zW_if (fun (c109 : (zI σ106 (zQ σ106 r0 4) 4) = 0) => ?_) (fun (c109 : ¬ ((zI σ106 (zQ σ106 r0 4) 4) = 0)) => ?_)
  · rw [if_pos c109] at h
    refine zW_s rfl ?_
    refine zW_s rfl ?_
    refine zW_p rfl ⟨hp107, by decide⟩ ?_
    refine zW_s rfl ?_
    refine zW_s rfl ?_
    refine zW_p rfl hp107 ?_
    refine zW_p rfl hp108 ?_
    refine zW_p rfl hp107 ?_
    refine zW_s rfl ?_
    refine zW_s rfl ?_
    refine zW_p rfl hp107 ?_
    refine zW_p rfl hp108 ?_
    refine zW_p rfl hp107 ?_
    refine zW_s rfl ?_
    refine zW_s rfl ?_
    refine zW_p rfl hp107 ?_
    refine zW_p rfl hp108 ?_
    refine zW_p rfl hp107 ?_
    refine zW_s rfl ?_
    refine zW_p rfl hp107 ?_
    refine zW_s rfl ?_
    refine zW_p rfl hp107 ?_
    refine zW_s rfl ?_
    have k : ∀ v : Int32, v = (if ¬ (zI (zsI (zsI (zsI σ106 r0 11 (nI 1)) r0 12 (zI (zsI σ106 r0 11 (nI 1)) (zQ σ106 r0 4) 5)) r0 13 (zI (zsI (zsI σ106 r0 11 (nI 1)) r0 12 (zI (zsI σ106 r0 11 (nI 1)) (zQ σ106 r0 4) 5)) (zQ σ106 r0 4) 6)) r0 13) = (zI (zsI (zsI (zsI σ106 r0 11 (nI 1)) r0 12 (zI (zsI σ106 r0 11 (nI 1)) (zQ σ106 r0 4) 5)) r0 13 (zI (zsI (zsI σ106 r0 11 (nI 1)) r0 12 (zI (zsI σ106 r0 11 (nI 1)) (zQ σ106 r0 4) 5)) (zQ σ106 r0 4) 6)) r0 12) then nI 1 else nI 0) → zW (d + 1) 114 92 [(0, .ref r0)] [.int v] (zsJ (zsI (zsI (zsI σ106 r0 11 (nI 1)) r0 12 (zI (zsI σ106 r0 11 (nI 1)) (zQ σ106 r0 4) 5)) r0 13 (zI (zsI (zsI σ106 r0 11 (nI 1)) r0 12 (zI (zsI σ106 r0 11 (nI 1)) (zQ σ106 r0 4) 5)) (zQ σ106 r0 4) 6)) r0 14 (zJ σ106 (zQ σ106 r0 4) 7)) Q := by
      intro v hv
      subst hv
      refine zW_r rfl trivial ?_
      exact h
    refine zW_if (fun (c110 : ¬ (zI (zsI (zsI (zsI σ106 r0 11 (nI 1)) r0 12 (zI (zsI σ106 r0 11 (nI 1)) (zQ σ106 r0 4) 5)) r0 13 (zI (zsI (zsI σ106 r0 11 (nI 1)) r0 12 (zI (zsI σ106 r0 11 (nI 1)) (zQ σ106 r0 4) 5)) (zQ σ106 r0 4) 6)) r0 13) = (zI (zsI (zsI (zsI σ106 r0 11 (nI 1)) r0 12 (zI (zsI σ106 r0 11 (nI 1)) (zQ σ106 r0 4) 5)) r0 13 (zI (zsI (zsI σ106 r0 11 (nI 1)) r0 12 (zI (zsI σ106 r0 11 (nI 1)) (zQ σ106 r0 4) 5)) (zQ σ106 r0 4) 6)) r0 12)) => ?_) (fun (c110 : ¬ (¬ (zI (zsI (zsI (zsI σ106 r0 11 (nI 1)) r0 12 (zI (zsI σ106 r0 11 (nI 1)) (zQ σ106 r0 4) 5)) r0 13 (zI (zsI (zsI σ106 r0 11 (nI 1)) r0 12 (zI (zsI σ106 r0 11 (nI 1)) (zQ σ106 r0 4) 5)) (zQ σ106 r0 4) 6)) r0 13) = (zI (zsI (zsI (zsI σ106 r0 11 (nI 1)) r0 12 (zI (zsI σ106 r0 11 (nI 1)) (zQ σ106 r0 4) 5)) r0 13 (zI (zsI (zsI σ106 r0 11 (nI 1)) r0 12 (zI (zsI σ106 r0 11 (nI 1)) (zQ σ106 r0 4) 5)) (zQ σ106 r0 4) 6)) r0 12))) => ?_)
    · replace k := k _ (if_pos c110).symm
      refine zW_s rfl ?_
      exact k
    · replace k := k _ (if_neg c110).symm
      refine zW_s rfl ?_
      refine zW_s rfl ?_
      exact k
  · rw [if_neg c109] at h
    refine zW_s rfl ?_
    refine zW_r rfl trivial ?_
    exact h
