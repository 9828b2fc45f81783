/-! blocks of the methods, printed by wip/whole/gen/blocks.py -/
def zqi (r : Option Value) (F : Int32 → Prop) : Prop := match r with | some (.int x) => F x | _ => False
def zql (r : Option Value) (F : Int64 → Prop) : Prop := match r with | some (.long x) => F x | _ => False
def zqv (r : Option Value) (F : Prop) : Prop := match r with | none => F | _ => False
theorem zqi_e {r : Option Value} {F : Int32 → Prop} (h : zqi r F) : ∃ x, r = some (.int x) ∧ F x := by
  unfold zqi at h
  split at h
  · exact ⟨_, rfl, h⟩
  · exact h.elim
theorem zql_e {r : Option Value} {F : Int64 → Prop} (h : zql r F) : ∃ x, r = some (.long x) ∧ F x := by
  unfold zql at h
  split at h
  · exact ⟨_, rfl, h⟩
  · exact h.elim
theorem zqv_e {r : Option Value} {F : Prop} (h : zqv r F) : r = none ∧ F := by
  unfold zqv at h
  split at h
  · exact ⟨rfl, h⟩
  · exact h.elim
theorem zqi_s (x : Int32) (F : Int32 → Prop) : zqi (some (.int x)) F = F x := rfl
theorem zql_s (x : Int64) (F : Int64 → Prop) : zql (some (.long x)) F = F x := rfl
theorem zqv_s (F : Prop) : zqv none F = F := rfl
theorem zW_sw {d M : Nat} {x : Int32} {k : Int} {a t : Nat} {l : List (Int × Nat)} {lc : zC} {st : List Value} {σ : zH} {Q : Option Value → zH → Prop} (h1 : x = Int32.ofInt k → zW d M t lc st σ Q) (h2 : ¬ x = Int32.ofInt k → zW d M (zsw x a l) lc st σ Q) : zW d M (zsw x a ((k, t) :: l)) lc st σ Q := zW_if h1 h2
theorem zb01 {c : Prop} [Decidable c] : (if c then nI 0 else nI 1) = 0 ∨ (if c then nI 0 else nI 1) = 1 := by split <;> decide
theorem zb10 {c : Prop} [Decidable c] : (if c then nI 1 else nI 0) = 0 ∨ (if c then nI 1 else nI 0) = 1 := by split <;> decide
def zush (x y : Int32) : Int32 := (x.toUInt32 >>> (y.toUInt32 &&& Int32.toUInt32 31)).toInt32
def zlsl (x : Int64) (y : Int32) : Int64 := x <<< (y.toInt64 &&& 63)
def zlsr (x : Int64) (y : Int32) : Int64 := x >>> (y.toInt64 &&& 63)
def zlus (x : Int64) (y : Int32) : Int64 := (x.toUInt64 >>> (y.toInt64.toUInt64 &&& Int64.toUInt64 63)).toInt64
set_option maxHeartbeats 4000000 in
theorem b1 {d : Nat} {r0 : Nat} {x1 : Int32} {x2 : Int32} {x3 : Int32} {σ : zH} {Q : Option Value → zH → Prop} (h : (zK σ r0 = 1) ∧ (if (nI 450) ≤ (zI σ r0 3) then Q none σ else (zK σ (zQ σ r0 0) = 20) ∧ (vp_in (zI σ r0 3) (zN σ (zQ σ r0 0))) ∧ (zK σ (zQ σ r0 1) = 20) ∧ (vp_in (zI σ r0 3) (zN σ (zQ σ r0 1))) ∧ (zK σ (zQ σ r0 2) = 20) ∧ (vp_in (zI σ r0 3) (zN σ (zQ σ r0 2))) ∧ Q none (zsI (zsA (zsA (zsA σ (zQ σ r0 0) (zI σ r0 3).toNatClampNeg x1) (zQ σ r0 1) (zI σ r0 3).toNatClampNeg x2) (zQ σ r0 2) (zI σ r0 3).toNatClampNeg x3) r0 3 ((zI σ r0 3) + (nI 1))))) : zM (d) 1 [.ref r0, .int x1, .int x2, .int x3] σ Q := by
  unfold zM
  refine zW_s rfl ?_
  have hp101 := h.1; replace h := h.2
  refine zW_p rfl hp101 ?_
  refine zW_s rfl ?_
  refine zW_s rfl ?_
  refine zW_if (fun (c102 : (nI 450) ≤ (zI σ r0 3)) => ?_) (fun (c102 : ¬ ((nI 450) ≤ (zI σ r0 3))) => ?_)
  · rw [if_pos c102] at h
    refine zW_r rfl trivial ?_
    exact h
  · rw [if_neg c102] at h
    refine zW_s rfl ?_
    refine zW_p rfl hp101 ?_
    refine zW_s rfl ?_
    refine zW_p rfl hp101 ?_
    refine zW_s rfl ?_
    have hp103 := h.1; replace h := h.2
    have hp104 := h.1; replace h := h.2
    refine zW_p rfl ⟨hp103, hp104⟩ ?_
    refine zW_s rfl ?_
    refine zW_p rfl hp101 ?_
    refine zW_s rfl ?_
    refine zW_p rfl hp101 ?_
    refine zW_s rfl ?_
    have hp105 := h.1; replace h := h.2
    have hp106 := h.1; replace h := h.2
    refine zW_p rfl ⟨hp105, hp106⟩ ?_
    refine zW_s rfl ?_
    refine zW_p rfl hp101 ?_
    refine zW_s rfl ?_
    refine zW_p rfl hp101 ?_
    refine zW_s rfl ?_
    have hp107 := h.1; replace h := h.2
    have hp108 := h.1; replace h := h.2
    refine zW_p rfl ⟨hp107, hp108⟩ ?_
    refine zW_s rfl ?_
    refine zW_s rfl ?_
    refine zW_p rfl hp101 ?_
    refine zW_s rfl ?_
    refine zW_s rfl ?_
    refine zW_p rfl hp101 ?_
    refine zW_r rfl trivial ?_
    exact h
set_option maxHeartbeats 4000000 in
theorem b2 {d : Nat} {x0 : Int32} {σ : zH} {Q : Option Value → zH → Prop} (h : Q (some (.int ((nI 9216) ||| x0))) σ) : zM (d) 2 [.int x0] σ Q := by
  unfold zM
  refine zW_s rfl ?_
  refine zW_s rfl ?_
  refine zW_s rfl ?_
  refine zW_r rfl trivial ?_
  exact h
set_option maxHeartbeats 4000000 in
theorem b3 {d : Nat} {x0 : Int32} {x1 : Int32} {x2 : Int32} {σ : zH} {Q : Option Value → zH → Prop} (h : zM d 4 [.int x1, .int x2] σ (fun r σ101 => zqi r (fun x102 => Q (some (.int ((x0 <<< ((nI 8) &&& 31)) ||| x102))) σ101))) : zM (d + 1) 3 [.int x0, .int x1, .int x2] σ Q := by
  unfold zM
  refine zW_s rfl ?_
  refine zW_s rfl ?_
  refine zW_s rfl ?_
  refine zW_s rfl ?_
  refine zW_s rfl ?_
  refine zW_c rfl trivial (zM_m h ?_)
  intro r σ101 h
  replace h := zqi_e h
  obtain ⟨x102, rfl, h⟩ := h
  refine zW_s rfl ?_
  refine zW_r rfl trivial ?_
  exact h
set_option maxHeartbeats 4000000 in
theorem b4 {d : Nat} {x0 : Int32} {x1 : Int32} {σ : zH} {Q : Option Value → zH → Prop} (h : Q (some (.int ((x0 <<< ((nI 4) &&& 31)) ||| x1))) σ) : zM (d) 4 [.int x0, .int x1] σ Q := by
  unfold zM
  refine zW_s rfl ?_
  refine zW_s rfl ?_
  refine zW_s rfl ?_
  refine zW_s rfl ?_
  refine zW_s rfl ?_
  refine zW_r rfl trivial ?_
  exact h
set_option maxHeartbeats 4000000 in
theorem b5 {d : Nat} {r0 : Nat} {r1 : Nat} {x2 : Int32} {x3 : Int32} {σ : zH} {Q : Option Value → zH → Prop} (h : zW (d + 1) 5 6 [(0, .ref r0), (1, .ref r1), (3, .int x3), (4, .int (nI 0)), (5, .int x2)] [] σ Q) : zM (d + 1) 5 [.ref r0, .ref r1, .int x2, .int x3] σ Q := by
  unfold zM
  refine zW_s rfl ?_
  refine zW_s rfl ?_
  refine zW_s rfl ?_
  refine zW_s rfl ?_
  refine zW_k [0, 1, 3, 4, 5] rfl ?_
  exact h
set_option maxHeartbeats 4000000 in
theorem b5_6 {d : Nat} {r0 : Nat} {r1 : Nat} {x3 : Int32} {x4 : Int32} {x5 : Int32} {σ : zH} {Q : Option Value → zH → Prop} (h : (if x5 < 0 then Q (some (.int (if ¬ (x4 &&& (nI 1)) = (nI 1) then nI 0 else nI 1))) σ else (if x3 ≤ x5 then Q (some (.int (if ¬ (x4 &&& (nI 1)) = (nI 1) then nI 0 else nI 1))) σ else (if (nI 450) ≤ x5 then Q (some (.int (if ¬ (x4 &&& (nI 1)) = (nI 1) then nI 0 else nI 1))) σ else (zK σ r0 = 1) ∧ (zK σ (zQ σ r0 0) = 20) ∧ (vp_in x5 (zN σ (zQ σ r0 0))) ∧ (if (zA σ (zQ σ r0 0) x5.toNatClampNeg) = nI 21 then zW (d + 1) 5 6 [(0, .ref r0), (1, .ref r1), (3, .int x3), (4, .int ((x4 >>> ((nI 1) &&& 31)) ||| (x4 &&& (nI 1)))), (5, .int (x5 + nI 1))] [] σ Q else (if (zA σ (zQ σ r0 0) x5.toNatClampNeg) = nI 22 then (if ¬ (x4 &&& (nI 1)) = (nI 1) then zW (d + 1) 5 6 [(0, .ref r0), (1, .ref r1), (3, .int x3), (4, .int ((x4 >>> ((nI 1) &&& 31)) &&& (-2))), (5, .int (x5 + nI 1))] [] σ Q else zW (d + 1) 5 6 [(0, .ref r0), (1, .ref r1), (3, .int x3), (4, .int (x4 >>> ((nI 1) &&& 31))), (5, .int (x5 + nI 1))] [] σ Q) else (if (zA σ (zQ σ r0 0) x5.toNatClampNeg) = nI 23 then zW (d + 1) 5 6 [(0, .ref r0), (1, .ref r1), (3, .int x3), (4, .int (x4 ^^^ (nI 1))), (5, .int (x5 + nI 1))] [] σ Q else zM d 6 [.ref r0, .ref r1, .int x5] σ (fun r σ114 => zqi r (fun x115 => zW (d + 1) 5 6 [(0, .ref r0), (1, .ref r1), (3, .int x3), (4, .int ((x4 <<< ((nI 1) &&& 31)) ||| (if x115 = 0 then nI 0 else nI 1))), (5, .int (x5 + nI 1))] [] σ114 Q))))))))) : zW (d + 1) 5 6 [(0, .ref r0), (1, .ref r1), (3, .int x3), (4, .int x4), (5, .int x5)] [] σ Q := by
  refine zW_s rfl ?_
  refine zW_s rfl ?_
  refine zW_if (fun (c101 : x5 < 0) => ?_) (fun (c101 : ¬ (x5 < 0)) => ?_)
  · rw [if_pos c101] at h
    refine zW_s rfl ?_
    refine zW_s rfl ?_
    refine zW_s rfl ?_
    refine zW_s rfl ?_
    refine zW_s rfl ?_
    have k : ∀ v : Int32, v = (if ¬ (x4 &&& (nI 1)) = (nI 1) then nI 0 else nI 1) → zW (d + 1) 5 151 [(0, .ref r0), (1, .ref r1), (3, .int x3), (4, .int x4), (5, .int x5)] [.int v] σ Q := by
      intro v hv
      subst hv
      refine zW_r rfl zb01 ?_
      exact h
    refine zW_if (fun (c102 : ¬ (x4 &&& (nI 1)) = (nI 1)) => ?_) (fun (c102 : ¬ (¬ (x4 &&& (nI 1)) = (nI 1))) => ?_)
    · replace k := k _ (if_pos c102).symm
      refine zW_s rfl ?_
      exact k
    · replace k := k _ (if_neg c102).symm
      refine zW_s rfl ?_
      refine zW_s rfl ?_
      exact k
  · rw [if_neg c101] at h
    refine zW_s rfl ?_
    refine zW_s rfl ?_
    refine zW_s rfl ?_
    refine zW_if (fun (c103 : x3 ≤ x5) => ?_) (fun (c103 : ¬ (x3 ≤ x5)) => ?_)
    · rw [if_pos c103] at h
      refine zW_s rfl ?_
      refine zW_s rfl ?_
      refine zW_s rfl ?_
      refine zW_s rfl ?_
      refine zW_s rfl ?_
      have k : ∀ v : Int32, v = (if ¬ (x4 &&& (nI 1)) = (nI 1) then nI 0 else nI 1) → zW (d + 1) 5 151 [(0, .ref r0), (1, .ref r1), (3, .int x3), (4, .int x4), (5, .int x5)] [.int v] σ Q := by
        intro v hv
        subst hv
        refine zW_r rfl zb01 ?_
        exact h
      refine zW_if (fun (c104 : ¬ (x4 &&& (nI 1)) = (nI 1)) => ?_) (fun (c104 : ¬ (¬ (x4 &&& (nI 1)) = (nI 1))) => ?_)
      · replace k := k _ (if_pos c104).symm
        refine zW_s rfl ?_
        exact k
      · replace k := k _ (if_neg c104).symm
        refine zW_s rfl ?_
        refine zW_s rfl ?_
        exact k
    · rw [if_neg c103] at h
      refine zW_s rfl ?_
      refine zW_s rfl ?_
      refine zW_s rfl ?_
      refine zW_if (fun (c105 : (nI 450) ≤ x5) => ?_) (fun (c105 : ¬ ((nI 450) ≤ x5)) => ?_)
      · rw [if_pos c105] at h
        refine zW_s rfl ?_
        refine zW_s rfl ?_
        refine zW_s rfl ?_
        refine zW_s rfl ?_
        refine zW_s rfl ?_
        have k : ∀ v : Int32, v = (if ¬ (x4 &&& (nI 1)) = (nI 1) then nI 0 else nI 1) → zW (d + 1) 5 151 [(0, .ref r0), (1, .ref r1), (3, .int x3), (4, .int x4), (5, .int x5)] [.int v] σ Q := by
          intro v hv
          subst hv
          refine zW_r rfl zb01 ?_
          exact h
        refine zW_if (fun (c106 : ¬ (x4 &&& (nI 1)) = (nI 1)) => ?_) (fun (c106 : ¬ (¬ (x4 &&& (nI 1)) = (nI 1))) => ?_)
        · replace k := k _ (if_pos c106).symm
          refine zW_s rfl ?_
          exact k
        · replace k := k _ (if_neg c106).symm
          refine zW_s rfl ?_
          refine zW_s rfl ?_
          exact k
      · rw [if_neg c105] at h
        refine zW_s rfl ?_
        refine zW_s rfl ?_
        refine zW_s rfl ?_
        refine zW_s rfl ?_
        refine zW_s rfl ?_
        have hp107 := h.1; replace h := h.2
        refine zW_p rfl hp107 ?_
        refine zW_s rfl ?_
        have hp108 := h.1; replace h := h.2
        have hp109 := h.1; replace h := h.2
        refine zW_p rfl ⟨hp108, hp109⟩ ?_
        refine zW_s rfl ?_
        refine zW_sw (fun (c110 : (zA σ (zQ σ r0 0) x5.toNatClampNeg) = nI 21) => ?_) (fun (c110 : ¬ ((zA σ (zQ σ r0 0) x5.toNatClampNeg) = nI 21)) => ?_)
        · rw [if_pos c110] at h
          refine zW_s rfl ?_
          refine zW_s rfl ?_
          refine zW_s rfl ?_
          refine zW_s rfl ?_
          refine zW_s rfl ?_
          refine zW_s rfl ?_
          refine zW_s rfl ?_
          refine zW_s rfl ?_
          refine zW_s rfl ?_
          refine zW_k [0, 1, 2, 3, 4] rfl ?_
          exact h
        · rw [if_neg c110] at h
          refine zW_sw (fun (c111 : (zA σ (zQ σ r0 0) x5.toNatClampNeg) = nI 22) => ?_) (fun (c111 : ¬ ((zA σ (zQ σ r0 0) x5.toNatClampNeg) = nI 22)) => ?_)
          · rw [if_pos c111] at h
            refine zW_s rfl ?_
            refine zW_s rfl ?_
            refine zW_s rfl ?_
            refine zW_if (fun (c112 : ¬ (x4 &&& (nI 1)) = (nI 1)) => ?_) (fun (c112 : ¬ (¬ (x4 &&& (nI 1)) = (nI 1))) => ?_)
            · rw [if_pos c112] at h
              refine zW_s rfl ?_
              refine zW_s rfl ?_
              refine zW_s rfl ?_
              refine zW_s rfl ?_
              refine zW_s rfl ?_
              refine zW_s rfl ?_
              refine zW_s rfl ?_
              refine zW_s rfl ?_
              refine zW_s rfl ?_
              refine zW_k [0, 1, 2, 3, 4] rfl ?_
              exact h
            · rw [if_neg c112] at h
              refine zW_s rfl ?_
              refine zW_s rfl ?_
              refine zW_s rfl ?_
              refine zW_s rfl ?_
              refine zW_s rfl ?_
              refine zW_s rfl ?_
              refine zW_s rfl ?_
              refine zW_s rfl ?_
              refine zW_k [0, 1, 2, 3, 4] rfl ?_
              exact h
          · rw [if_neg c111] at h
            refine zW_sw (fun (c113 : (zA σ (zQ σ r0 0) x5.toNatClampNeg) = nI 23) => ?_) (fun (c113 : ¬ ((zA σ (zQ σ r0 0) x5.toNatClampNeg) = nI 23)) => ?_)
            · rw [if_pos c113] at h
              refine zW_s rfl ?_
              refine zW_s rfl ?_
              refine zW_s rfl ?_
              refine zW_s rfl ?_
              refine zW_s rfl ?_
              refine zW_s rfl ?_
              refine zW_s rfl ?_
              refine zW_k [0, 1, 2, 3, 4] rfl ?_
              exact h
            · rw [if_neg c113] at h
              refine zW_s rfl ?_
              refine zW_s rfl ?_
              refine zW_s rfl ?_
              refine zW_s rfl ?_
              refine zW_s rfl ?_
              refine zW_s rfl ?_
              refine zW_c rfl hp107 (zM_m h ?_)
              intro r σ114 h
              replace h := zqi_e h
              obtain ⟨x115, rfl, h⟩ := h
              refine zW_s rfl ?_
              have k : ∀ v : Int32, v = (if x115 = 0 then nI 0 else nI 1) → zW (d + 1) 5 129 [(0, .ref r0), (1, .ref r1), (3, .int x3), (4, .int x4), (5, .int x5), (6, .int (x4 &&& (nI 1)))] [.int v, .int (x4 <<< ((nI 1) &&& 31))] σ114 Q := by
                intro v hv
                subst hv
                refine zW_s rfl ?_
                refine zW_s rfl ?_
                refine zW_s rfl ?_
                refine zW_s rfl ?_
                refine zW_k [0, 1, 2, 3, 4] rfl ?_
                exact h
              refine zW_if (fun (c116 : x115 = 0) => ?_) (fun (c116 : ¬ (x115 = 0)) => ?_)
              · replace k := k _ (if_pos c116).symm
                refine zW_s rfl ?_
                exact k
              · replace k := k _ (if_neg c116).symm
                refine zW_s rfl ?_
                refine zW_s rfl ?_
                exact k
set_option maxHeartbeats 4000000 in
theorem b6 {d : Nat} {r0 : Nat} {r1 : Nat} {x2 : Int32} {σ : zH} {Q : Option Value → zH → Prop} (h : (zK σ r0 = 1) ∧ (zK σ (zQ σ r0 2) = 20) ∧ (vp_in x2 (zN σ (zQ σ r0 2))) ∧ (zK σ (zQ σ r0 0) = 20) ∧ (vp_in x2 (zN σ (zQ σ r0 0))) ∧ (if (zA σ (zQ σ r0 0) x2.toNatClampNeg) = nI 24 then (zK σ (zQ σ r0 1) = 20) ∧ (vp_in x2 (zN σ (zQ σ r0 1))) ∧ (zK σ r1 = 7) ∧ zM d 64 [.ref r1, .int (((zA σ (zQ σ r0 2) x2.toNatClampNeg) >>> ((nI 4) &&& 31)) &&& (nI 3)), .int (zA σ (zQ σ r0 1) x2.toNatClampNeg)] σ (fun r σ110 => zqi r (fun x111 => (x111 = 0 ∨ x111 = 1) ∧ Q (some (.int x111)) σ110)) else (if (zA σ (zQ σ r0 0) x2.toNatClampNeg) = nI 25 then (zK σ (zQ σ r0 1) = 20) ∧ (vp_in x2 (zN σ (zQ σ r0 1))) ∧ (zK σ r1 = 7) ∧ zM d 65 [.ref r1, .int (((zA σ (zQ σ r0 2) x2.toNatClampNeg) >>> ((nI 4) &&& 31)) &&& (nI 3)), .int (zA σ (zQ σ r0 1) x2.toNatClampNeg), .int ((zA σ (zQ σ r0 2) x2.toNatClampNeg) &&& (nI 15))] σ (fun r σ117 => zqi r (fun x118 => (x118 = 0 ∨ x118 = 1) ∧ Q (some (.int x118)) σ117)) else (if (zA σ (zQ σ r0 0) x2.toNatClampNeg) = nI 26 then (zK σ r1 = 7) ∧ zM d 66 [.ref r1, .int (((zA σ (zQ σ r0 2) x2.toNatClampNeg) >>> ((nI 4) &&& 31)) &&& (nI 3))] σ (fun r σ122 => zqi r (fun x123 => (x123 = 0 ∨ x123 = 1) ∧ Q (some (.int x123)) σ122)) else (zK σ (zQ σ r0 1) = 20) ∧ (vp_in x2 (zN σ (zQ σ r0 1))) ∧ zM d 8 [.ref r1, .int (zA σ (zQ σ r0 1) x2.toNatClampNeg)] σ (fun r σ127 => zqi r (fun x128 => (zK σ127 r0 = 1) ∧ (zK σ127 (zQ σ127 r0 2) = 20) ∧ (vp_in x2 (zN σ127 (zQ σ127 r0 2))) ∧ zM d 8 [.ref r1, .int (zA σ127 (zQ σ127 r0 2) x2.toNatClampNeg)] σ127 (fun r σ132 => zqi r (fun x133 => zM d 7 [.int (zA σ (zQ σ r0 0) x2.toNatClampNeg), .int x128, .int x133] σ132 (fun r σ134 => zqi r (fun x135 => (x135 = 0 ∨ x135 = 1) ∧ Q (some (.int x135)) σ134)))))))))) : zM (d + 1) 6 [.ref r0, .ref r1, .int x2] σ Q := by
  unfold zM
  refine zW_s rfl ?_
  have hp101 := h.1; replace h := h.2
  refine zW_p rfl hp101 ?_
  refine zW_s rfl ?_
  have hp102 := h.1; replace h := h.2
  have hp103 := h.1; replace h := h.2
  refine zW_p rfl ⟨hp102, hp103⟩ ?_
  refine zW_s rfl ?_
  refine zW_s rfl ?_
  refine zW_s rfl ?_
  refine zW_s rfl ?_
  refine zW_s rfl ?_
  refine zW_s rfl ?_
  refine zW_p rfl hp101 ?_
  refine zW_s rfl ?_
  have hp104 := h.1; replace h := h.2
  have hp105 := h.1; replace h := h.2
  refine zW_p rfl ⟨hp104, hp105⟩ ?_
  refine zW_s rfl ?_
  refine zW_sw (fun (c106 : (zA σ (zQ σ r0 0) x2.toNatClampNeg) = nI 24) => ?_) (fun (c106 : ¬ ((zA σ (zQ σ r0 0) x2.toNatClampNeg) = nI 24)) => ?_)
  · rw [if_pos c106] at h
    refine zW_s rfl ?_
    refine zW_s rfl ?_
    refine zW_s rfl ?_
    refine zW_p rfl hp101 ?_
    refine zW_s rfl ?_
    have hp107 := h.1; replace h := h.2
    have hp108 := h.1; replace h := h.2
    refine zW_p rfl ⟨hp107, hp108⟩ ?_
    have hp109 := h.1; replace h := h.2
    refine zW_c rfl hp109 (zM_m h ?_)
    intro r σ110 h
    replace h := zqi_e h
    obtain ⟨x111, rfl, h⟩ := h
    have hp112 := h.1; replace h := h.2
    refine zW_r rfl hp112 ?_
    exact h
  · rw [if_neg c106] at h
    refine zW_sw (fun (c113 : (zA σ (zQ σ r0 0) x2.toNatClampNeg) = nI 25) => ?_) (fun (c113 : ¬ ((zA σ (zQ σ r0 0) x2.toNatClampNeg) = nI 25)) => ?_)
    · rw [if_pos c113] at h
      refine zW_s rfl ?_
      refine zW_s rfl ?_
      refine zW_s rfl ?_
      refine zW_p rfl hp101 ?_
      refine zW_s rfl ?_
      have hp114 := h.1; replace h := h.2
      have hp115 := h.1; replace h := h.2
      refine zW_p rfl ⟨hp114, hp115⟩ ?_
      refine zW_s rfl ?_
      refine zW_p rfl hp101 ?_
      refine zW_s rfl ?_
      refine zW_p rfl ⟨hp102, hp103⟩ ?_
      refine zW_s rfl ?_
      refine zW_s rfl ?_
      have hp116 := h.1; replace h := h.2
      refine zW_c rfl hp116 (zM_m h ?_)
      intro r σ117 h
      replace h := zqi_e h
      obtain ⟨x118, rfl, h⟩ := h
      have hp119 := h.1; replace h := h.2
      refine zW_r rfl hp119 ?_
      exact h
    · rw [if_neg c113] at h
      refine zW_sw (fun (c120 : (zA σ (zQ σ r0 0) x2.toNatClampNeg) = nI 26) => ?_) (fun (c120 : ¬ ((zA σ (zQ σ r0 0) x2.toNatClampNeg) = nI 26)) => ?_)
      · rw [if_pos c120] at h
        refine zW_s rfl ?_
        refine zW_s rfl ?_
        have hp121 := h.1; replace h := h.2
        refine zW_c rfl hp121 (zM_m h ?_)
        intro r σ122 h
        replace h := zqi_e h
        obtain ⟨x123, rfl, h⟩ := h
        have hp124 := h.1; replace h := h.2
        refine zW_r rfl hp124 ?_
        exact h
      · rw [if_neg c120] at h
        refine zW_s rfl ?_
        refine zW_p rfl hp101 ?_
        refine zW_s rfl ?_
        refine zW_p rfl ⟨hp104, hp105⟩ ?_
        refine zW_s rfl ?_
        refine zW_s rfl ?_
        refine zW_p rfl hp101 ?_
        refine zW_s rfl ?_
        have hp125 := h.1; replace h := h.2
        have hp126 := h.1; replace h := h.2
        refine zW_p rfl ⟨hp125, hp126⟩ ?_
        refine zW_c rfl trivial (zM_m h ?_)
        intro r σ127 h
        replace h := zqi_e h
        obtain ⟨x128, rfl, h⟩ := h
        refine zW_s rfl ?_
        refine zW_s rfl ?_
        have hp129 := h.1; replace h := h.2
        refine zW_p rfl hp129 ?_
        refine zW_s rfl ?_
        have hp130 := h.1; replace h := h.2
        have hp131 := h.1; replace h := h.2
        refine zW_p rfl ⟨hp130, hp131⟩ ?_
        refine zW_c rfl trivial (zM_m h ?_)
        intro r σ132 h
        replace h := zqi_e h
        obtain ⟨x133, rfl, h⟩ := h
        refine zW_c rfl trivial (zM_m h ?_)
        intro r σ134 h
        replace h := zqi_e h
        obtain ⟨x135, rfl, h⟩ := h
        have hp136 := h.1; replace h := h.2
        refine zW_r rfl hp136 ?_
        exact h
set_option maxHeartbeats 4000000 in
theorem b7 {d : Nat} {x0 : Int32} {x1 : Int32} {x2 : Int32} {σ : zH} {Q : Option Value → zH → Prop} (h : (if x0 = nI 42 then Q (some (.int (if ¬ x1 = x2 then nI 0 else nI 1))) σ else (if x0 = nI 43 then Q (some (.int (if x1 = x2 then nI 0 else nI 1))) σ else (if x0 = nI 44 then Q (some (.int (if x2 ≤ x1 then nI 0 else nI 1))) σ else (if x0 = nI 45 then Q (some (.int (if x2 < x1 then nI 0 else nI 1))) σ else (if x0 = nI 46 then Q (some (.int (if x1 ≤ x2 then nI 0 else nI 1))) σ else Q (some (.int (if x1 < x2 then nI 0 else nI 1))) σ)))))) : zM (d) 7 [.int x0, .int x1, .int x2] σ Q := by
  unfold zM
  refine zW_s rfl ?_
  refine zW_s rfl ?_
  refine zW_sw (fun (c101 : x0 = nI 42) => ?_) (fun (c101 : ¬ (x0 = nI 42)) => ?_)
  · rw [if_pos c101] at h
    refine zW_s rfl ?_
    refine zW_s rfl ?_
    refine zW_s rfl ?_
    have k : ∀ v : Int32, v = (if ¬ x1 = x2 then nI 0 else nI 1) → zW (d) 7 46 [(0, .int x0), (1, .int x1), (2, .int x2)] [.int v] σ Q := by
      intro v hv
      subst hv
      refine zW_r rfl zb01 ?_
      exact h
    refine zW_if (fun (c102 : ¬ x1 = x2) => ?_) (fun (c102 : ¬ (¬ x1 = x2)) => ?_)
    · replace k := k _ (if_pos c102).symm
      refine zW_s rfl ?_
      exact k
    · replace k := k _ (if_neg c102).symm
      refine zW_s rfl ?_
      refine zW_s rfl ?_
      exact k
  · rw [if_neg c101] at h
    refine zW_sw (fun (c103 : x0 = nI 43) => ?_) (fun (c103 : ¬ (x0 = nI 43)) => ?_)
    · rw [if_pos c103] at h
      refine zW_s rfl ?_
      refine zW_s rfl ?_
      refine zW_s rfl ?_
      have k : ∀ v : Int32, v = (if x1 = x2 then nI 0 else nI 1) → zW (d) 7 57 [(0, .int x0), (1, .int x1), (2, .int x2)] [.int v] σ Q := by
        intro v hv
        subst hv
        refine zW_r rfl zb01 ?_
        exact h
      refine zW_if (fun (c104 : x1 = x2) => ?_) (fun (c104 : ¬ (x1 = x2)) => ?_)
      · replace k := k _ (if_pos c104).symm
        refine zW_s rfl ?_
        exact k
      · replace k := k _ (if_neg c104).symm
        refine zW_s rfl ?_
        refine zW_s rfl ?_
        exact k
    · rw [if_neg c103] at h
      refine zW_sw (fun (c105 : x0 = nI 44) => ?_) (fun (c105 : ¬ (x0 = nI 44)) => ?_)
      · rw [if_pos c105] at h
        refine zW_s rfl ?_
        refine zW_s rfl ?_
        refine zW_s rfl ?_
        have k : ∀ v : Int32, v = (if x2 ≤ x1 then nI 0 else nI 1) → zW (d) 7 68 [(0, .int x0), (1, .int x1), (2, .int x2)] [.int v] σ Q := by
          intro v hv
          subst hv
          refine zW_r rfl zb01 ?_
          exact h
        refine zW_if (fun (c106 : x2 ≤ x1) => ?_) (fun (c106 : ¬ (x2 ≤ x1)) => ?_)
        · replace k := k _ (if_pos c106).symm
          refine zW_s rfl ?_
          exact k
        · replace k := k _ (if_neg c106).symm
          refine zW_s rfl ?_
          refine zW_s rfl ?_
          exact k
      · rw [if_neg c105] at h
        refine zW_sw (fun (c107 : x0 = nI 45) => ?_) (fun (c107 : ¬ (x0 = nI 45)) => ?_)
        · rw [if_pos c107] at h
          refine zW_s rfl ?_
          refine zW_s rfl ?_
          refine zW_s rfl ?_
          have k : ∀ v : Int32, v = (if x2 < x1 then nI 0 else nI 1) → zW (d) 7 79 [(0, .int x0), (1, .int x1), (2, .int x2)] [.int v] σ Q := by
            intro v hv
            subst hv
            refine zW_r rfl zb01 ?_
            exact h
          refine zW_if (fun (c108 : x2 < x1) => ?_) (fun (c108 : ¬ (x2 < x1)) => ?_)
          · replace k := k _ (if_pos c108).symm
            refine zW_s rfl ?_
            exact k
          · replace k := k _ (if_neg c108).symm
            refine zW_s rfl ?_
            refine zW_s rfl ?_
            exact k
        · rw [if_neg c107] at h
          refine zW_sw (fun (c109 : x0 = nI 46) => ?_) (fun (c109 : ¬ (x0 = nI 46)) => ?_)
          · rw [if_pos c109] at h
            refine zW_s rfl ?_
            refine zW_s rfl ?_
            refine zW_s rfl ?_
            have k : ∀ v : Int32, v = (if x1 ≤ x2 then nI 0 else nI 1) → zW (d) 7 90 [(0, .int x0), (1, .int x1), (2, .int x2)] [.int v] σ Q := by
              intro v hv
              subst hv
              refine zW_r rfl zb01 ?_
              exact h
            refine zW_if (fun (c110 : x1 ≤ x2) => ?_) (fun (c110 : ¬ (x1 ≤ x2)) => ?_)
            · replace k := k _ (if_pos c110).symm
              refine zW_s rfl ?_
              exact k
            · replace k := k _ (if_neg c110).symm
              refine zW_s rfl ?_
              refine zW_s rfl ?_
              exact k
          · rw [if_neg c109] at h
            refine zW_s rfl ?_
            refine zW_s rfl ?_
            refine zW_s rfl ?_
            have k : ∀ v : Int32, v = (if x1 < x2 then nI 0 else nI 1) → zW (d) 7 101 [(0, .int x0), (1, .int x1), (2, .int x2)] [.int v] σ Q := by
              intro v hv
              subst hv
              refine zW_r rfl zb01 ?_
              exact h
            refine zW_if (fun (c111 : x1 < x2) => ?_) (fun (c111 : ¬ (x1 < x2)) => ?_)
            · replace k := k _ (if_pos c111).symm
              refine zW_s rfl ?_
              exact k
            · replace k := k _ (if_neg c111).symm
              refine zW_s rfl ?_
              refine zW_s rfl ?_
              exact k
set_option maxHeartbeats 4000000 in
theorem b8 {d : Nat} {r0 : Nat} {x1 : Int32} {σ : zH} {Q : Option Value → zH → Prop} (h : (if (x1 >>> ((nI 8) &&& 31)) = nI 27 then (zK σ r0 = 7) ∧ (zK σ (zQ σ r0 3) = 20) ∧ (vp_in ((x1 >>> ((nI 4) &&& 31)) &&& (nI 3)) (zN σ (zQ σ r0 3))) ∧ Q (some (.int (zA σ (zQ σ r0 3) ((x1 >>> ((nI 4) &&& 31)) &&& (nI 3)).toNatClampNeg))) σ else (if (x1 >>> ((nI 8) &&& 31)) = nI 28 then (zK σ r0 = 7) ∧ zM d 62 [.ref r0, .int ((x1 >>> ((nI 4) &&& 31)) &&& (nI 3))] σ (fun r σ107 => zqi r (fun x108 => Q (some (.int x108)) σ107)) else (if (x1 >>> ((nI 8) &&& 31)) = nI 29 then (zK σ r0 = 7) ∧ zM d 63 [.ref r0, .int ((x1 >>> ((nI 4) &&& 31)) &&& (nI 3))] σ (fun r σ111 => zqi r (fun x112 => Q (some (.int x112)) σ111)) else (if (x1 >>> ((nI 8) &&& 31)) = nI 30 then (zK σ r0 = 7) ∧ zM d 61 [.ref r0, .int ((x1 >>> ((nI 4) &&& 31)) &&& (nI 3)), .int (x1 &&& (nI 15))] σ (fun r σ115 => zqi r (fun x116 => (zK σ115 (zQ σ r0 0) = 2) ∧ zM d 13 [.ref (zQ σ r0 0), .int (x1 >>> ((nI 8) &&& 31)), .int x116] σ115 (fun r σ118 => zqi r (fun x119 => Q (some (.int x119)) σ118)))) else (if (x1 >>> ((nI 8) &&& 31)) = nI 31 then (zK σ r0 = 7) ∧ zM d 61 [.ref r0, .int ((x1 >>> ((nI 4) &&& 31)) &&& (nI 3)), .int (x1 &&& (nI 15))] σ (fun r σ122 => zqi r (fun x123 => (zK σ122 (zQ σ r0 0) = 2) ∧ zM d 13 [.ref (zQ σ r0 0), .int (x1 >>> ((nI 8) &&& 31)), .int x123] σ122 (fun r σ125 => zqi r (fun x126 => Q (some (.int x126)) σ125)))) else (if (x1 >>> ((nI 8) &&& 31)) = nI 32 then (zK σ r0 = 7) ∧ zM d 61 [.ref r0, .int ((x1 >>> ((nI 4) &&& 31)) &&& (nI 3)), .int (x1 &&& (nI 15))] σ (fun r σ129 => zqi r (fun x130 => (zK σ129 (zQ σ r0 0) = 2) ∧ zM d 13 [.ref (zQ σ r0 0), .int (x1 >>> ((nI 8) &&& 31)), .int x130] σ129 (fun r σ132 => zqi r (fun x133 => Q (some (.int x133)) σ132)))) else (if (x1 >>> ((nI 8) &&& 31)) = nI 33 then (zK σ r0 = 7) ∧ zM d 61 [.ref r0, .int ((x1 >>> ((nI 4) &&& 31)) &&& (nI 3)), .int (x1 &&& (nI 15))] σ (fun r σ136 => zqi r (fun x137 => (zK σ136 (zQ σ r0 0) = 2) ∧ zM d 13 [.ref (zQ σ r0 0), .int (x1 >>> ((nI 8) &&& 31)), .int x137] σ136 (fun r σ139 => zqi r (fun x140 => Q (some (.int x140)) σ139)))) else (if (x1 >>> ((nI 8) &&& 31)) = nI 34 then (zK σ r0 = 7) ∧ zM d 61 [.ref r0, .int ((x1 >>> ((nI 4) &&& 31)) &&& (nI 3)), .int (x1 &&& (nI 15))] σ (fun r σ143 => zqi r (fun x144 => (zK σ143 (zQ σ r0 0) = 2) ∧ zM d 13 [.ref (zQ σ r0 0), .int (x1 >>> ((nI 8) &&& 31)), .int x144] σ143 (fun r σ146 => zqi r (fun x147 => Q (some (.int x147)) σ146)))) else (if (x1 >>> ((nI 8) &&& 31)) = nI 35 then (zK σ r0 = 7) ∧ zM d 61 [.ref r0, .int ((x1 >>> ((nI 4) &&& 31)) &&& (nI 3)), .int (x1 &&& (nI 15))] σ (fun r σ150 => zqi r (fun x151 => (zK σ150 (zQ σ r0 0) = 2) ∧ zM d 13 [.ref (zQ σ r0 0), .int (x1 >>> ((nI 8) &&& 31)), .int x151] σ150 (fun r σ153 => zqi r (fun x154 => Q (some (.int x154)) σ153)))) else (if (x1 >>> ((nI 8) &&& 31)) = nI 36 then Q (some (.int (x1 &&& (nI 255)))) σ else (zK σ r0 = 7) ∧ zM d 61 [.ref r0, .int ((x1 >>> ((nI 4) &&& 31)) &&& (nI 3)), .int (x1 &&& (nI 15))] σ (fun r σ157 => zqi r (fun x158 => (zK σ157 (zQ σ r0 0) = 2) ∧ zM d 13 [.ref (zQ σ r0 0), .int (x1 >>> ((nI 8) &&& 31)), .int x158] σ157 (fun r σ160 => zqi r (fun x161 => Q (some (.int x161)) σ160))))))))))))))) : zM (d + 1) 8 [.ref r0, .int x1] σ Q := by
  unfold zM
  refine zW_s rfl ?_
  refine zW_s rfl ?_
  refine zW_s rfl ?_
  refine zW_s rfl ?_
  refine zW_s rfl ?_
  refine zW_s rfl ?_
  refine zW_s rfl ?_
  refine zW_s rfl ?_
  refine zW_s rfl ?_
  refine zW_s rfl ?_
  refine zW_s rfl ?_
  refine zW_s rfl ?_
  refine zW_sw (fun (c101 : (x1 >>> ((nI 8) &&& 31)) = nI 27) => ?_) (fun (c101 : ¬ ((x1 >>> ((nI 8) &&& 31)) = nI 27)) => ?_)
  · rw [if_pos c101] at h
    refine zW_s rfl ?_
    have hp102 := h.1; replace h := h.2
    refine zW_p rfl hp102 ?_
    refine zW_s rfl ?_
    have hp103 := h.1; replace h := h.2
    have hp104 := h.1; replace h := h.2
    refine zW_p rfl ⟨hp103, hp104⟩ ?_
    refine zW_r rfl trivial ?_
    exact h
  · rw [if_neg c101] at h
    refine zW_sw (fun (c105 : (x1 >>> ((nI 8) &&& 31)) = nI 28) => ?_) (fun (c105 : ¬ ((x1 >>> ((nI 8) &&& 31)) = nI 28)) => ?_)
    · rw [if_pos c105] at h
      refine zW_s rfl ?_
      refine zW_s rfl ?_
      have hp106 := h.1; replace h := h.2
      refine zW_c rfl hp106 (zM_m h ?_)
      intro r σ107 h
      replace h := zqi_e h
      obtain ⟨x108, rfl, h⟩ := h
      refine zW_r rfl trivial ?_
      exact h
    · rw [if_neg c105] at h
      refine zW_sw (fun (c109 : (x1 >>> ((nI 8) &&& 31)) = nI 29) => ?_) (fun (c109 : ¬ ((x1 >>> ((nI 8) &&& 31)) = nI 29)) => ?_)
      · rw [if_pos c109] at h
        refine zW_s rfl ?_
        refine zW_s rfl ?_
        have hp110 := h.1; replace h := h.2
        refine zW_c rfl hp110 (zM_m h ?_)
        intro r σ111 h
        replace h := zqi_e h
        obtain ⟨x112, rfl, h⟩ := h
        refine zW_r rfl trivial ?_
        exact h
      · rw [if_neg c109] at h
        refine zW_sw (fun (c113 : (x1 >>> ((nI 8) &&& 31)) = nI 30) => ?_) (fun (c113 : ¬ ((x1 >>> ((nI 8) &&& 31)) = nI 30)) => ?_)
        · rw [if_pos c113] at h
          refine zW_s rfl ?_
          have hp114 := h.1; replace h := h.2
          refine zW_p rfl hp114 ?_
          refine zW_s rfl ?_
          refine zW_s rfl ?_
          refine zW_s rfl ?_
          refine zW_s rfl ?_
          refine zW_s rfl ?_
          refine zW_s rfl ?_
          refine zW_c rfl hp114 (zM_m h ?_)
          intro r σ115 h
          replace h := zqi_e h
          obtain ⟨x116, rfl, h⟩ := h
          have hp117 := h.1; replace h := h.2
          refine zW_c rfl hp117 (zM_m h ?_)
          intro r σ118 h
          replace h := zqi_e h
          obtain ⟨x119, rfl, h⟩ := h
          refine zW_r rfl trivial ?_
          exact h
        · rw [if_neg c113] at h
          refine zW_sw (fun (c120 : (x1 >>> ((nI 8) &&& 31)) = nI 31) => ?_) (fun (c120 : ¬ ((x1 >>> ((nI 8) &&& 31)) = nI 31)) => ?_)
          · rw [if_pos c120] at h
            refine zW_s rfl ?_
            have hp121 := h.1; replace h := h.2
            refine zW_p rfl hp121 ?_
            refine zW_s rfl ?_
            refine zW_s rfl ?_
            refine zW_s rfl ?_
            refine zW_s rfl ?_
            refine zW_s rfl ?_
            refine zW_s rfl ?_
            refine zW_c rfl hp121 (zM_m h ?_)
            intro r σ122 h
            replace h := zqi_e h
            obtain ⟨x123, rfl, h⟩ := h
            have hp124 := h.1; replace h := h.2
            refine zW_c rfl hp124 (zM_m h ?_)
            intro r σ125 h
            replace h := zqi_e h
            obtain ⟨x126, rfl, h⟩ := h
            refine zW_r rfl trivial ?_
            exact h
          · rw [if_neg c120] at h
            refine zW_sw (fun (c127 : (x1 >>> ((nI 8) &&& 31)) = nI 32) => ?_) (fun (c127 : ¬ ((x1 >>> ((nI 8) &&& 31)) = nI 32)) => ?_)
            · rw [if_pos c127] at h
              refine zW_s rfl ?_
              have hp128 := h.1; replace h := h.2
              refine zW_p rfl hp128 ?_
              refine zW_s rfl ?_
              refine zW_s rfl ?_
              refine zW_s rfl ?_
              refine zW_s rfl ?_
              refine zW_s rfl ?_
              refine zW_s rfl ?_
              refine zW_c rfl hp128 (zM_m h ?_)
              intro r σ129 h
              replace h := zqi_e h
              obtain ⟨x130, rfl, h⟩ := h
              have hp131 := h.1; replace h := h.2
              refine zW_c rfl hp131 (zM_m h ?_)
              intro r σ132 h
              replace h := zqi_e h
              obtain ⟨x133, rfl, h⟩ := h
              refine zW_r rfl trivial ?_
              exact h
            · rw [if_neg c127] at h
              refine zW_sw (fun (c134 : (x1 >>> ((nI 8) &&& 31)) = nI 33) => ?_) (fun (c134 : ¬ ((x1 >>> ((nI 8) &&& 31)) = nI 33)) => ?_)
              · rw [if_pos c134] at h
                refine zW_s rfl ?_
                have hp135 := h.1; replace h := h.2
                refine zW_p rfl hp135 ?_
                refine zW_s rfl ?_
                refine zW_s rfl ?_
                refine zW_s rfl ?_
                refine zW_s rfl ?_
                refine zW_s rfl ?_
                refine zW_s rfl ?_
                refine zW_c rfl hp135 (zM_m h ?_)
                intro r σ136 h
                replace h := zqi_e h
                obtain ⟨x137, rfl, h⟩ := h
                have hp138 := h.1; replace h := h.2
                refine zW_c rfl hp138 (zM_m h ?_)
                intro r σ139 h
                replace h := zqi_e h
                obtain ⟨x140, rfl, h⟩ := h
                refine zW_r rfl trivial ?_
                exact h
              · rw [if_neg c134] at h
                refine zW_sw (fun (c141 : (x1 >>> ((nI 8) &&& 31)) = nI 34) => ?_) (fun (c141 : ¬ ((x1 >>> ((nI 8) &&& 31)) = nI 34)) => ?_)
                · rw [if_pos c141] at h
                  refine zW_s rfl ?_
                  have hp142 := h.1; replace h := h.2
                  refine zW_p rfl hp142 ?_
                  refine zW_s rfl ?_
                  refine zW_s rfl ?_
                  refine zW_s rfl ?_
                  refine zW_s rfl ?_
                  refine zW_s rfl ?_
                  refine zW_s rfl ?_
                  refine zW_c rfl hp142 (zM_m h ?_)
                  intro r σ143 h
                  replace h := zqi_e h
                  obtain ⟨x144, rfl, h⟩ := h
                  have hp145 := h.1; replace h := h.2
                  refine zW_c rfl hp145 (zM_m h ?_)
                  intro r σ146 h
                  replace h := zqi_e h
                  obtain ⟨x147, rfl, h⟩ := h
                  refine zW_r rfl trivial ?_
                  exact h
                · rw [if_neg c141] at h
                  refine zW_sw (fun (c148 : (x1 >>> ((nI 8) &&& 31)) = nI 35) => ?_) (fun (c148 : ¬ ((x1 >>> ((nI 8) &&& 31)) = nI 35)) => ?_)
                  · rw [if_pos c148] at h
                    refine zW_s rfl ?_
                    have hp149 := h.1; replace h := h.2
                    refine zW_p rfl hp149 ?_
                    refine zW_s rfl ?_
                    refine zW_s rfl ?_
                    refine zW_s rfl ?_
                    refine zW_s rfl ?_
                    refine zW_s rfl ?_
                    refine zW_s rfl ?_
                    refine zW_c rfl hp149 (zM_m h ?_)
                    intro r σ150 h
                    replace h := zqi_e h
                    obtain ⟨x151, rfl, h⟩ := h
                    have hp152 := h.1; replace h := h.2
                    refine zW_c rfl hp152 (zM_m h ?_)
                    intro r σ153 h
                    replace h := zqi_e h
                    obtain ⟨x154, rfl, h⟩ := h
                    refine zW_r rfl trivial ?_
                    exact h
                  · rw [if_neg c148] at h
                    refine zW_sw (fun (c155 : (x1 >>> ((nI 8) &&& 31)) = nI 36) => ?_) (fun (c155 : ¬ ((x1 >>> ((nI 8) &&& 31)) = nI 36)) => ?_)
                    · rw [if_pos c155] at h
                      refine zW_s rfl ?_
                      refine zW_s rfl ?_
                      refine zW_s rfl ?_
                      refine zW_r rfl trivial ?_
                      exact h
                    · rw [if_neg c155] at h
                      refine zW_s rfl ?_
                      have hp156 := h.1; replace h := h.2
                      refine zW_p rfl hp156 ?_
                      refine zW_s rfl ?_
                      refine zW_s rfl ?_
                      refine zW_s rfl ?_
                      refine zW_s rfl ?_
                      refine zW_s rfl ?_
                      refine zW_s rfl ?_
                      refine zW_c rfl hp156 (zM_m h ?_)
                      intro r σ157 h
                      replace h := zqi_e h
                      obtain ⟨x158, rfl, h⟩ := h
                      have hp159 := h.1; replace h := h.2
                      refine zW_c rfl hp159 (zM_m h ?_)
                      intro r σ160 h
                      replace h := zqi_e h
                      obtain ⟨x161, rfl, h⟩ := h
                      refine zW_r rfl trivial ?_
                      exact h
set_option maxHeartbeats 4000000 in
theorem b10 {d : Nat} {r0 : Nat} {x1 : Int32} {σ : zH} {Q : Option Value → zH → Prop} (h : (zK σ r0 = 2) ∧ zW (d + 1) 10 7 [(0, .ref r0), (2, .int (nI 1))] [] (zsI σ r0 4 x1) Q) : zM (d + 1) 10 [.ref r0, .int x1] σ Q := by
  unfold zM
  refine zW_s rfl ?_
  refine zW_s rfl ?_
  have hp101 := h.1; replace h := h.2
  refine zW_p rfl hp101 ?_
  refine zW_s rfl ?_
  refine zW_s rfl ?_
  refine zW_k [0, 2] rfl ?_
  exact h
set_option maxHeartbeats 4000000 in
theorem b10_7 {d : Nat} {r0 : Nat} {x2 : Int32} {σ : zH} {Q : Option Value → zH → Prop} (h : (if (nI 9) < x2 then Q none σ else (zK σ r0 = 2) ∧ zM d 11 [.ref r0, .int x2, .int x2, .int ((x2 - (nI 1)) &&& (nI 3)), .int ((x2 - (nI 1)) &&& (nI 1))] σ (fun r σ103 => zqv r ((zK σ103 r0 = 2) ∧ (zK σ103 (zQ σ103 r0 3) = 20) ∧ (vp_in (x2 - (nI 1)) (zN σ103 (zQ σ103 r0 3))) ∧ zW (d + 1) 10 7 [(0, .ref r0), (2, .int (x2 + nI 1))] [] (zsA σ103 (zQ σ103 r0 3) (x2 - (nI 1)).toNatClampNeg x2) Q)))) : zW (d + 1) 10 7 [(0, .ref r0), (2, .int x2)] [] σ Q := by
  refine zW_s rfl ?_
  refine zW_s rfl ?_
  refine zW_s rfl ?_
  refine zW_if (fun (c101 : (nI 9) < x2) => ?_) (fun (c101 : ¬ ((nI 9) < x2)) => ?_)
  · rw [if_pos c101] at h
    refine zW_r rfl trivial ?_
    exact h
  · rw [if_neg c101] at h
    refine zW_s rfl ?_
    refine zW_s rfl ?_
    refine zW_s rfl ?_
    refine zW_s rfl ?_
    refine zW_s rfl ?_
    refine zW_s rfl ?_
    refine zW_s rfl ?_
    refine zW_s rfl ?_
    refine zW_s rfl ?_
    refine zW_s rfl ?_
    refine zW_s rfl ?_
    refine zW_s rfl ?_
    refine zW_s rfl ?_
    have hp102 := h.1; replace h := h.2
    refine zW_c rfl hp102 (zM_m h ?_)
    intro r σ103 h
    replace h := zqv_e h
    obtain ⟨rfl, h⟩ := h
    refine zW_s rfl ?_
    have hp104 := h.1; replace h := h.2
    refine zW_p rfl hp104 ?_
    refine zW_s rfl ?_
    refine zW_s rfl ?_
    refine zW_s rfl ?_
    refine zW_s rfl ?_
    have hp105 := h.1; replace h := h.2
    have hp106 := h.1; replace h := h.2
    refine zW_p rfl ⟨hp105, hp106⟩ ?_
    refine zW_s rfl ?_
    refine zW_s rfl ?_
    exact h
set_option maxHeartbeats 4000000 in
theorem b11 {d : Nat} {r0 : Nat} {x1 : Int32} {x2 : Int32} {x3 : Int32} {x4 : Int32} {σ : zH} {Q : Option Value → zH → Prop} (h : (zK σ r0 = 2) ∧ (zK σ (zQ σ r0 0) = 20) ∧ (vp_in x1 (zN σ (zQ σ r0 0))) ∧ (zK σ (zQ σ r0 1) = 20) ∧ (vp_in x1 (zN σ (zQ σ r0 1))) ∧ (zK σ (zQ σ r0 2) = 20) ∧ (vp_in x1 (zN σ (zQ σ r0 2))) ∧ Q none (zsA (zsA (zsA σ (zQ σ r0 0) x1.toNatClampNeg x2) (zQ σ r0 1) x1.toNatClampNeg x3) (zQ σ r0 2) x1.toNatClampNeg x4)) : zM (d) 11 [.ref r0, .int x1, .int x2, .int x3, .int x4] σ Q := by
  unfold zM
  refine zW_s rfl ?_
  have hp101 := h.1; replace h := h.2
  refine zW_p rfl hp101 ?_
  refine zW_s rfl ?_
  refine zW_s rfl ?_
  have hp102 := h.1; replace h := h.2
  have hp103 := h.1; replace h := h.2
  refine zW_p rfl ⟨hp102, hp103⟩ ?_
  refine zW_s rfl ?_
  refine zW_p rfl hp101 ?_
  refine zW_s rfl ?_
  refine zW_s rfl ?_
  have hp104 := h.1; replace h := h.2
  have hp105 := h.1; replace h := h.2
  refine zW_p rfl ⟨hp104, hp105⟩ ?_
  refine zW_s rfl ?_
  refine zW_p rfl hp101 ?_
  refine zW_s rfl ?_
  refine zW_s rfl ?_
  have hp106 := h.1; replace h := h.2
  have hp107 := h.1; replace h := h.2
  refine zW_p rfl ⟨hp106, hp107⟩ ?_
  refine zW_r rfl trivial ?_
  exact h
set_option maxHeartbeats 4000000 in
theorem b12 {d : Nat} {r0 : Nat} {r1 : Nat} {σ : zH} {Q : Option Value → zH → Prop} (h : zW (d) 12 2 [(0, .ref r0), (1, .ref r1), (2, .int (nI 0))] [] σ Q) : zM (d) 12 [.ref r0, .ref r1] σ Q := by
  unfold zM
  refine zW_s rfl ?_
  refine zW_s rfl ?_
  exact h
set_option maxHeartbeats 4000000 in
theorem b12_2 {d : Nat} {r0 : Nat} {r1 : Nat} {x2 : Int32} {σ : zH} {Q : Option Value → zH → Prop} (h : (zK σ r0 = 2) ∧ (if (zI σ r0 4) ≤ x2 then Q none σ else (zK σ r1 = 20) ∧ (vp_in x2 (zN σ r1)) ∧ (zK σ (zQ σ r0 3) = 20) ∧ (vp_in x2 (zN σ (zQ σ r0 3))) ∧ zW (d) 12 2 [(0, .ref r0), (1, .ref r1), (2, .int (x2 + nI 1))] [] (zsA σ (zQ σ r0 3) x2.toNatClampNeg (zA σ r1 x2.toNatClampNeg)) Q)) : zW (d) 12 2 [(0, .ref r0), (1, .ref r1), (2, .int x2)] [] σ Q := by
  refine zW_s rfl ?_
  refine zW_s rfl ?_
  have hp101 := h.1; replace h := h.2
  refine zW_p rfl hp101 ?_
  refine zW_s rfl ?_
  refine zW_if (fun (c102 : (zI σ r0 4) ≤ x2) => ?_) (fun (c102 : ¬ ((zI σ r0 4) ≤ x2)) => ?_)
  · rw [if_pos c102] at h
    refine zW_r rfl trivial ?_
    exact h
  · rw [if_neg c102] at h
    refine zW_s rfl ?_
    refine zW_p rfl hp101 ?_
    refine zW_s rfl ?_
    refine zW_s rfl ?_
    refine zW_s rfl ?_
    have hp103 := h.1; replace h := h.2
    have hp104 := h.1; replace h := h.2
    refine zW_p rfl ⟨hp103, hp104⟩ ?_
    have hp105 := h.1; replace h := h.2
    have hp106 := h.1; replace h := h.2
    refine zW_p rfl ⟨hp105, hp106⟩ ?_
    refine zW_s rfl ?_
    refine zW_s rfl ?_
    exact h
set_option maxHeartbeats 4000000 in
theorem b13 {d : Nat} {r0 : Nat} {x1 : Int32} {x2 : Int32} {σ : zH} {Q : Option Value → zH → Prop} (h : (if x1 = nI 30 then Q (some (.int (x2 &&& (nI 15)))) σ else (if x1 = nI 31 then (zK σ r0 = 2) ∧ (zK σ (zQ σ r0 0) = 20) ∧ (vp_in (x2 &&& (nI 15)) (zN σ (zQ σ r0 0))) ∧ Q (some (.int (zA σ (zQ σ r0 0) (x2 &&& (nI 15)).toNatClampNeg))) σ else (if x1 = nI 32 then (zK σ r0 = 2) ∧ (zK σ (zQ σ r0 1) = 20) ∧ (vp_in (x2 &&& (nI 15)) (zN σ (zQ σ r0 1))) ∧ Q (some (.int (zA σ (zQ σ r0 1) (x2 &&& (nI 15)).toNatClampNeg))) σ else (if x1 = nI 33 then (zK σ r0 = 2) ∧ (zK σ (zQ σ r0 2) = 20) ∧ (vp_in (x2 &&& (nI 15)) (zN σ (zQ σ r0 2))) ∧ Q (some (.int (zA σ (zQ σ r0 2) (x2 &&& (nI 15)).toNatClampNeg))) σ else (if x1 = nI 34 then Q (some (.int (if x2 < (nI 16) then nI 0 else nI 1))) σ else Q (some (.int (nI 0))) σ)))))) : zM (d) 13 [.ref r0, .int x1, .int x2] σ Q := by
  unfold zM
  refine zW_s rfl ?_
  refine zW_s rfl ?_
  refine zW_s rfl ?_
  refine zW_s rfl ?_
  refine zW_s rfl ?_
  refine zW_s rfl ?_
  refine zW_sw (fun (c101 : x1 = nI 30) => ?_) (fun (c101 : ¬ (x1 = nI 30)) => ?_)
  · rw [if_pos c101] at h
    refine zW_s rfl ?_
    refine zW_r rfl trivial ?_
    exact h
  · rw [if_neg c101] at h
    refine zW_sw (fun (c102 : x1 = nI 31) => ?_) (fun (c102 : ¬ (x1 = nI 31)) => ?_)
    · rw [if_pos c102] at h
      refine zW_s rfl ?_
      have hp103 := h.1; replace h := h.2
      refine zW_p rfl hp103 ?_
      refine zW_s rfl ?_
      have hp104 := h.1; replace h := h.2
      have hp105 := h.1; replace h := h.2
      refine zW_p rfl ⟨hp104, hp105⟩ ?_
      refine zW_r rfl trivial ?_
      exact h
    · rw [if_neg c102] at h
      refine zW_sw (fun (c106 : x1 = nI 32) => ?_) (fun (c106 : ¬ (x1 = nI 32)) => ?_)
      · rw [if_pos c106] at h
        refine zW_s rfl ?_
        have hp107 := h.1; replace h := h.2
        refine zW_p rfl hp107 ?_
        refine zW_s rfl ?_
        have hp108 := h.1; replace h := h.2
        have hp109 := h.1; replace h := h.2
        refine zW_p rfl ⟨hp108, hp109⟩ ?_
        refine zW_r rfl trivial ?_
        exact h
      · rw [if_neg c106] at h
        refine zW_sw (fun (c110 : x1 = nI 33) => ?_) (fun (c110 : ¬ (x1 = nI 33)) => ?_)
        · rw [if_pos c110] at h
          refine zW_s rfl ?_
          have hp111 := h.1; replace h := h.2
          refine zW_p rfl hp111 ?_
          refine zW_s rfl ?_
          have hp112 := h.1; replace h := h.2
          have hp113 := h.1; replace h := h.2
          refine zW_p rfl ⟨hp112, hp113⟩ ?_
          refine zW_r rfl trivial ?_
          exact h
        · rw [if_neg c110] at h
          refine zW_sw (fun (c114 : x1 = nI 34) => ?_) (fun (c114 : ¬ (x1 = nI 34)) => ?_)
          · rw [if_pos c114] at h
            refine zW_s rfl ?_
            refine zW_s rfl ?_
            refine zW_s rfl ?_
            have k : ∀ v : Int32, v = (if x2 < (nI 16) then nI 0 else nI 1) → zW (d) 13 53 [(0, .ref r0), (1, .int x1), (2, .int x2), (3, .int (x2 &&& (nI 15)))] [.int v] σ Q := by
              intro v hv
              subst hv
              refine zW_r rfl trivial ?_
              exact h
            refine zW_if (fun (c115 : x2 < (nI 16)) => ?_) (fun (c115 : ¬ (x2 < (nI 16))) => ?_)
            · replace k := k _ (if_pos c115).symm
              refine zW_s rfl ?_
              exact k
            · replace k := k _ (if_neg c115).symm
              refine zW_s rfl ?_
              refine zW_s rfl ?_
              exact k
          · rw [if_neg c114] at h
            refine zW_s rfl ?_
            refine zW_r rfl trivial ?_
            exact h
set_option maxHeartbeats 4000000 in
theorem b15 {d : Nat} {r0 : Nat} {r1 : Nat} {r2 : Nat} {σ : zH} {Q : Option Value → zH → Prop} (h : (zK σ r0 = 3) ∧ zM d 17 [.ref r0, .ref r1] σ (fun r σ102 => zqv r ((zK σ102 r2 = 10) ∧ zM d 97 [.ref r2] σ102 (fun r σ104 => zqv r ((zK σ104 r0 = 3) ∧ zM d 21 [.ref r0, .ref r2, .int (nI 0), .int (nI 1)] σ104 (fun r σ106 => zqv r ((zK σ106 r0 = 3) ∧ zM d 20 [.ref r0, .int (nI 49)] σ106 (fun r σ108 => zqv r ((zK σ108 r0 = 3) ∧ (if (zI σ108 r0 4) ≤ (nI 8) then (if (zI σ108 r0 3) ≤ (nI 500) then Q none σ108 else zM d 19 [.ref r0, .int (nI 6)] σ108 (fun r σ112 => zqv r (Q none σ112))) else zM d 19 [.ref r0, .int (nI 5)] σ108 (fun r σ113 => zqv r (Q none σ113)))))))))))) : zM (d + 1) 15 [.ref r0, .ref r1, .ref r2] σ Q := by
  unfold zM
  refine zW_s rfl ?_
  refine zW_s rfl ?_
  have hp101 := h.1; replace h := h.2
  refine zW_c rfl hp101 (zM_m h ?_)
  intro r σ102 h
  replace h := zqv_e h
  obtain ⟨rfl, h⟩ := h
  refine zW_s rfl ?_
  have hp103 := h.1; replace h := h.2
  refine zW_c rfl hp103 (zM_m h ?_)
  intro r σ104 h
  replace h := zqv_e h
  obtain ⟨rfl, h⟩ := h
  refine zW_s rfl ?_
  refine zW_s rfl ?_
  refine zW_s rfl ?_
  refine zW_s rfl ?_
  have hp105 := h.1; replace h := h.2
  refine zW_c rfl hp105 (zM_m h ?_)
  intro r σ106 h
  replace h := zqv_e h
  obtain ⟨rfl, h⟩ := h
  refine zW_s rfl ?_
  refine zW_s rfl ?_
  have hp107 := h.1; replace h := h.2
  refine zW_c rfl hp107 (zM_m h ?_)
  intro r σ108 h
  replace h := zqv_e h
  obtain ⟨rfl, h⟩ := h
  refine zW_s rfl ?_
  have hp109 := h.1; replace h := h.2
  refine zW_p rfl hp109 ?_
  refine zW_s rfl ?_
  refine zW_s rfl ?_
  refine zW_if (fun (c110 : (zI σ108 r0 4) ≤ (nI 8)) => ?_) (fun (c110 : ¬ ((zI σ108 r0 4) ≤ (nI 8))) => ?_)
  · rw [if_pos c110] at h
    refine zW_s rfl ?_
    refine zW_p rfl hp109 ?_
    refine zW_s rfl ?_
    refine zW_s rfl ?_
    refine zW_if (fun (c111 : (zI σ108 r0 3) ≤ (nI 500)) => ?_) (fun (c111 : ¬ ((zI σ108 r0 3) ≤ (nI 500))) => ?_)
    · rw [if_pos c111] at h
      refine zW_r rfl trivial ?_
      exact h
    · rw [if_neg c111] at h
      refine zW_s rfl ?_
      refine zW_s rfl ?_
      refine zW_c rfl hp109 (zM_m h ?_)
      intro r σ112 h
      replace h := zqv_e h
      obtain ⟨rfl, h⟩ := h
      refine zW_r rfl trivial ?_
      exact h
  · rw [if_neg c110] at h
    refine zW_s rfl ?_
    refine zW_s rfl ?_
    refine zW_c rfl hp109 (zM_m h ?_)
    intro r σ113 h
    replace h := zqv_e h
    obtain ⟨rfl, h⟩ := h
    refine zW_s rfl ?_
    refine zW_r rfl trivial ?_
    exact h
set_option maxHeartbeats 4000000 in
theorem b16 {d : Nat} {r0 : Nat} {r1 : Nat} {r2 : Nat} {σ : zH} {Q : Option Value → zH → Prop} (h : (zK σ r0 = 3) ∧ zM d 17 [.ref r0, .ref r1] σ (fun r σ102 => zqv r ((zK σ102 r2 = 1) ∧ (zK σ102 r0 = 3) ∧ zM d 32 [.ref r0, .ref r2, .int (nI 0)] (zsI σ102 r2 3 (nI 0)) (fun r σ105 => zqv r ((zK σ105 r0 = 3) ∧ zM d 20 [.ref r0, .int (nI 49)] σ105 (fun r σ107 => zqv r (Q none σ107))))))) : zM (d + 1) 16 [.ref r0, .ref r1, .ref r2] σ Q := by
  unfold zM
  refine zW_s rfl ?_
  refine zW_s rfl ?_
  have hp101 := h.1; replace h := h.2
  refine zW_c rfl hp101 (zM_m h ?_)
  intro r σ102 h
  replace h := zqv_e h
  obtain ⟨rfl, h⟩ := h
  refine zW_s rfl ?_
  refine zW_s rfl ?_
  have hp103 := h.1; replace h := h.2
  refine zW_p rfl hp103 ?_
  refine zW_s rfl ?_
  refine zW_s rfl ?_
  refine zW_s rfl ?_
  have hp104 := h.1; replace h := h.2
  refine zW_c rfl hp104 (zM_m h ?_)
  intro r σ105 h
  replace h := zqv_e h
  obtain ⟨rfl, h⟩ := h
  refine zW_s rfl ?_
  refine zW_s rfl ?_
  have hp106 := h.1; replace h := h.2
  refine zW_c rfl hp106 (zM_m h ?_)
  intro r σ107 h
  replace h := zqv_e h
  obtain ⟨rfl, h⟩ := h
  refine zW_r rfl trivial ?_
  exact h
set_option maxHeartbeats 4000000 in
theorem b17 {d : Nat} {r0 : Nat} {r1 : Nat} {σ : zH} {Q : Option Value → zH → Prop} (h : (zK σ r0 = 3) ∧ (zK σ (zQ σ r0 0) = 9) ∧ zM d 87 [.ref (zQ σ r0 0), .ref r1] σ (fun r σ103 => zqv r ((zK σ103 r0 = 3) ∧ (zK σ103 (zQ σ103 r0 0) = 9) ∧ (zK σ103 (zQ σ103 (zQ σ103 r0 0) 0) = 20) ∧ (vp_in (nI 0) (zN σ103 (zQ σ103 (zQ σ103 r0 0) 0))) ∧ Q none (zsI (zsI (zsI (zsI (zsI (zsI σ103 r0 1 (nI 0)) r0 2 (zA σ103 (zQ σ103 (zQ σ103 r0 0) 0) (nI 0).toNatClampNeg)) r0 3 (nI 0)) r0 4 (nI 0)) r0 5 (nI 0)) r0 6 (nI 0))))) : zM (d + 1) 17 [.ref r0, .ref r1] σ Q := by
  unfold zM
  refine zW_s rfl ?_
  have hp101 := h.1; replace h := h.2
  refine zW_p rfl hp101 ?_
  refine zW_s rfl ?_
  have hp102 := h.1; replace h := h.2
  refine zW_c rfl hp102 (zM_m h ?_)
  intro r σ103 h
  replace h := zqv_e h
  obtain ⟨rfl, h⟩ := h
  refine zW_s rfl ?_
  refine zW_s rfl ?_
  have hp104 := h.1; replace h := h.2
  refine zW_p rfl hp104 ?_
  refine zW_s rfl ?_
  refine zW_s rfl ?_
  refine zW_p rfl hp104 ?_
  have hp105 := h.1; replace h := h.2
  refine zW_p rfl hp105 ?_
  refine zW_s rfl ?_
  have hp106 := h.1; replace h := h.2
  have hp107 := h.1; replace h := h.2
  refine zW_p rfl ⟨hp106, hp107⟩ ?_
  refine zW_p rfl hp104 ?_
  refine zW_s rfl ?_
  refine zW_s rfl ?_
  refine zW_p rfl hp104 ?_
  refine zW_s rfl ?_
  refine zW_s rfl ?_
  refine zW_p rfl hp104 ?_
  refine zW_s rfl ?_
  refine zW_s rfl ?_
  refine zW_p rfl hp104 ?_
  refine zW_s rfl ?_
  refine zW_s rfl ?_
  refine zW_p rfl hp104 ?_
  refine zW_r rfl trivial ?_
  exact h
set_option maxHeartbeats 4000000 in
theorem b18 {d : Nat} {r0 : Nat} {σ : zH} {Q : Option Value → zH → Prop} (h : (zK σ r0 = 3) ∧ (zK σ (zQ σ r0 0) = 9) ∧ (if ((zI σ (zQ σ r0 0) 3) - (nI 1)) ≤ (zI σ r0 1) then Q none σ else (zK σ (zQ σ (zQ σ r0 0) 0) = 20) ∧ (vp_in (zI (zsI σ r0 1 ((zI σ r0 1) + (nI 1))) r0 1) (zN σ (zQ σ (zQ σ r0 0) 0))) ∧ Q none (zsI (zsI σ r0 1 ((zI σ r0 1) + (nI 1))) r0 2 (zA σ (zQ σ (zQ σ r0 0) 0) (zI (zsI σ r0 1 ((zI σ r0 1) + (nI 1))) r0 1).toNatClampNeg)))) : zM (d) 18 [.ref r0] σ Q := by
  unfold zM
  refine zW_s rfl ?_
  have hp101 := h.1; replace h := h.2
  refine zW_p rfl hp101 ?_
  refine zW_s rfl ?_
  refine zW_p rfl hp101 ?_
  have hp102 := h.1; replace h := h.2
  refine zW_p rfl hp102 ?_
  refine zW_s rfl ?_
  refine zW_s rfl ?_
  refine zW_s rfl ?_
  refine zW_if (fun (c103 : ((zI σ (zQ σ r0 0) 3) - (nI 1)) ≤ (zI σ r0 1)) => ?_) (fun (c103 : ¬ (((zI σ (zQ σ r0 0) 3) - (nI 1)) ≤ (zI σ r0 1))) => ?_)
  · rw [if_pos c103] at h
    refine zW_r rfl trivial ?_
    exact h
  · rw [if_neg c103] at h
    refine zW_s rfl ?_
    refine zW_s rfl ?_
    refine zW_p rfl hp101 ?_
    refine zW_s rfl ?_
    refine zW_s rfl ?_
    refine zW_p rfl hp101 ?_
    refine zW_s rfl ?_
    refine zW_s rfl ?_
    refine zW_p rfl hp101 ?_
    refine zW_p rfl hp102 ?_
    refine zW_s rfl ?_
    refine zW_p rfl hp101 ?_
    have hp104 := h.1; replace h := h.2
    have hp105 := h.1; replace h := h.2
    refine zW_p rfl ⟨hp104, hp105⟩ ?_
    refine zW_p rfl hp101 ?_
    refine zW_r rfl trivial ?_
    exact h
set_option maxHeartbeats 4000000 in
theorem b19 {d : Nat} {r0 : Nat} {x1 : Int32} {σ : zH} {Q : Option Value → zH → Prop} (h : (zK σ r0 = 3) ∧ (if (zI σ r0 5) = 0 then (zK σ (zQ σ r0 0) = 9) ∧ (zK σ (zQ σ (zQ σ r0 0) 1) = 20) ∧ (vp_in (zI (zsI σ r0 5 (if ¬ (zI σ r0 2) = (nI 48) then x1 else nI 1)) r0 1) (zN σ (zQ σ (zQ σ r0 0) 1))) ∧ Q none (zsI (zsI (zsI (zsI σ r0 5 (if ¬ (zI σ r0 2) = (nI 48) then x1 else nI 1)) r0 6 (zA σ (zQ σ (zQ σ r0 0) 1) (zI (zsI σ r0 5 (if ¬ (zI σ r0 2) = (nI 48) then x1 else nI 1)) r0 1).toNatClampNeg)) r0 1 ((zI (zsI (zsI σ r0 5 (if ¬ (zI σ r0 2) = (nI 48) then x1 else nI 1)) r0 6 (zA σ (zQ σ (zQ σ r0 0) 1) (zI (zsI σ r0 5 (if ¬ (zI σ r0 2) = (nI 48) then x1 else nI 1)) r0 1).toNatClampNeg)) (zQ σ r0 0) 3) - (nI 1))) r0 2 (nI 49)) else Q none σ)) : zM (d) 19 [.ref r0, .int x1] σ Q := by
  unfold zM
  refine zW_s rfl ?_
  have hp101 := h.1; replace h := h.2
  refine zW_p rfl hp101 ?_
  refine zW_s rfl ?_
  refine zW_if (fun (c102 : (zI σ r0 5) = 0) => ?_) (fun (c102 : ¬ ((zI σ r0 5) = 0)) => ?_)
  · rw [if_pos c102] at h
    refine zW_s rfl ?_
    refine zW_s rfl ?_
    refine zW_p rfl hp101 ?_
    refine zW_s rfl ?_
    refine zW_s rfl ?_
    have k : ∀ v : Int32, v = (if ¬ (zI σ r0 2) = (nI 48) then x1 else nI 1) → zW (d) 19 23 [(0, .ref r0), (1, .int x1)] [.int v, .ref r0] σ Q := by
      intro v hv
      subst hv
      refine zW_p rfl hp101 ?_
      refine zW_s rfl ?_
      refine zW_s rfl ?_
      refine zW_p rfl hp101 ?_
      have hp104 := h.1; replace h := h.2
      refine zW_p rfl hp104 ?_
      refine zW_s rfl ?_
      refine zW_p rfl hp101 ?_
      have hp105 := h.1; replace h := h.2
      have hp106 := h.1; replace h := h.2
      refine zW_p rfl ⟨hp105, hp106⟩ ?_
      refine zW_p rfl hp101 ?_
      refine zW_s rfl ?_
      refine zW_s rfl ?_
      refine zW_p rfl hp101 ?_
      refine zW_p rfl hp104 ?_
      refine zW_s rfl ?_
      refine zW_s rfl ?_
      refine zW_p rfl hp101 ?_
      refine zW_s rfl ?_
      refine zW_s rfl ?_
      refine zW_p rfl hp101 ?_
      refine zW_r rfl trivial ?_
      exact h
    refine zW_if (fun (c103 : ¬ (zI σ r0 2) = (nI 48)) => ?_) (fun (c103 : ¬ (¬ (zI σ r0 2) = (nI 48))) => ?_)
    · replace k := k _ (if_pos c103).symm
      refine zW_s rfl ?_
      exact k
    · replace k := k _ (if_neg c103).symm
      refine zW_s rfl ?_
      refine zW_s rfl ?_
      exact k
  · rw [if_neg c102] at h
    refine zW_r rfl trivial ?_
    exact h
set_option maxHeartbeats 4000000 in
theorem b20 {d : Nat} {r0 : Nat} {x1 : Int32} {σ : zH} {Q : Option Value → zH → Prop} (h : (zK σ r0 = 3) ∧ (if ¬ (zI σ r0 2) = x1 then zM d 19 [.ref r0, .int (nI 2)] σ (fun r σ103 => zqv r (Q none σ103)) else zM d 18 [.ref r0] σ (fun r σ104 => zqv r (Q none σ104)))) : zM (d + 1) 20 [.ref r0, .int x1] σ Q := by
  unfold zM
  refine zW_s rfl ?_
  have hp101 := h.1; replace h := h.2
  refine zW_p rfl hp101 ?_
  refine zW_s rfl ?_
  refine zW_s rfl ?_
  refine zW_if (fun (c102 : ¬ (zI σ r0 2) = x1) => ?_) (fun (c102 : ¬ (¬ (zI σ r0 2) = x1)) => ?_)
  · rw [if_pos c102] at h
    refine zW_s rfl ?_
    refine zW_s rfl ?_
    refine zW_c rfl hp101 (zM_m h ?_)
    intro r σ103 h
    replace h := zqv_e h
    obtain ⟨rfl, h⟩ := h
    refine zW_r rfl trivial ?_
    exact h
  · rw [if_neg c102] at h
    refine zW_s rfl ?_
    refine zW_c rfl hp101 (zM_m h ?_)
    intro r σ104 h
    replace h := zqv_e h
    obtain ⟨rfl, h⟩ := h
    refine zW_s rfl ?_
    refine zW_r rfl trivial ?_
    exact h
