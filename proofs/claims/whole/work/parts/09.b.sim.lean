set_option maxHeartbeats 4000000 in
theorem zst_mono {d M pc pc1 : Nat} {lc lc1 : zC} {st st1 : List Value} {σ σ1 : zH} {P : Prop} (h : zst d M pc lc st σ = some (P, .inl (pc1, lc1, st1, σ1))) : zX σ ≤ zX σ1 ∧ zL σ ≤ zL σ1 := by
  unfold zst at h
  cases hz : zc M pc with
  | none => rw [hz] at h; cases h
  | some q =>
    obtain ⟨i, nx, a, b, cd, kd, v, sw⟩ := q
    rw [hz] at h
    dsimp only at h
    repeat' (split at h)
    all_goals first
      | (cases h; done)
      | (cases h; exact ⟨Nat.le_refl _, Nat.le_refl _⟩)
      | (cases h; exact ⟨Nat.le_succ _, Nat.le_add_right _ _⟩)
      | (obtain ⟨_, h4⟩ := zcond h; cases h4; exact ⟨Nat.le_refl _, Nat.le_refl _⟩)
      | (obtain ⟨_, h4⟩ := zcond h; cases h4; done)
      | skip
    all_goals first
      | (cases hb : Nat.beq cd 0 with
          | true => (rw [hb] at h; cases h; exact ⟨Nat.le_refl _, Nat.le_refl _⟩)
          | false =>
            cases hb1 : Nat.beq cd 1 with
            | true => (rw [hb, hb1] at h; cases h; exact ⟨Nat.le_refl _, Nat.le_refl _⟩)
            | false => (rw [hb, hb1] at h; cases h))
      | (cases hb : Nat.beq a 0 with
          | true => (rw [hb] at h; cases h)
          | false => (rw [hb] at h; cases h; exact ⟨Nat.le_succ _, Nat.le_add_right _ _⟩))
theorem zrun_mono : ∀ (n : Nat) {d M pc : Nat} {lc : zC} {st : List Value} {σ : zH} {r : Option Value} {σ' : zH}, zrun n d M pc lc st σ r σ' → zX σ ≤ zX σ' ∧ zL σ ≤ zL σ' := by
  intro n
  induction n with
  | zero => intro d M pc lc st σ r σ' h; exact h.elim
  | succ n ih =>
    intro d M pc lc st σ r σ' h
    rcases h with ⟨lc', h1, h2⟩ | ⟨P, o, h1, h2, h3⟩
    · exact ih h2
    · match o, h1, h3 with
      | .inl (pc', lc', st', σ1), h1, h3 =>
        have a1 := zst_mono h1
        have a2 := ih h3
        omega
      | .inr (.inl (M', as, pc', st')), h1, h3 =>
        obtain ⟨d', r1, σ1, e, g1, g2⟩ := h3
        have a1 := ih g1
        have a2 := ih g2
        omega
      | .inr (.inr v), h1, h3 =>
        obtain ⟨rfl, rfl⟩ := h3
        exact ⟨Nat.le_refl _, Nat.le_refl _⟩
theorem zpop_spec : ∀ (n : Nat) {acc st as st' : List Value}, zpop n acc st = some (as, st') → ∃ vs : List Value, vs.length = n ∧ st = vs ++ st' ∧ as = vs.reverse ++ acc
  | 0, acc, st, as, st', h => by
    unfold zpop at h
    cases h
    exact ⟨[], rfl, rfl, rfl⟩
  | n + 1, acc, [], as, st', h => by
    unfold zpop at h
    cases h
  | n + 1, acc, v :: st, as, st', h => by
    unfold zpop at h
    obtain ⟨vs, h1, h2, h3⟩ := zpop_spec n h
    exact ⟨v :: vs, by simp [h1], by rw [h2]; rfl, by rw [h3]; simp⟩
/-! contracts -/
def zPc (B0 : Nat) (D : va_G) (cs : Nat → ClassId) (xa : Nat → Nat) (as : List Value) (σ : zH) : Array Value → State → Prop := fun v U => v = (as.map (zV B0 xa)).toArray ∧ zHM B0 D cs σ U.heap ∧ va_K D zCl (zAt cs) U ∧ zXT B0 xa U
def zQc (B0 : Nat) (D : va_G) (cs : Nat → ClassId) (xa : Nat → Nat) (r : Option Value) (σ' : zH) : Array Value → State → Outcome → State → Prop := fun _ st o t => o = .returned (r.map (zV B0 xa)) ∧ zHM B0 D cs σ' t.heap ∧ st.heap.size ≤ t.heap.size ∧ ∀ q : Nat, q < st.heap.size → ¬ zAA B0 q → t.heap[q]? = st.heap[q]?
def zrm (d mc ms : Nat) : Room := { frames := d, cells := mc, slots := ms, locals := 40 * d }
/-- what a method owes: with these arguments and this heap it answers r, and the heap is σ' then -/
def zmet (l : Launch) (B0 : Nat) (D : va_G) (cs : Nat → ClassId) (xa : Nat → Nat) (d M : Nat) (as : List Value) (σ : zH) (r : Option Value) (σ' : zH) : Prop := Met l (zyM M) (zwsY (zyM M) (zby M) (zml M) (zrt M)) (zrm d (zX σ' - zX σ) (zL σ' - zL σ)) (zPc B0 D cs xa as σ) (zQc B0 D cs xa r σ') (zX σ' - zX σ) (zL σ' - zL σ) (zAA B0)
theorem zblind {B0 : Nat} {D : va_G} {cs : Nat → ClassId} {xa : Nat → Nat} {as : List Value} {σ : zH} : FrameBlind (zPc B0 D cs xa as σ) := fun a U g mk q => ⟨q.1, q.2.1, va_K.moved (u := U) (U := U.calling g mk a) (Vm.Alike.refl U.vm) q.2.2.1, q.2.2.2.call⟩
section ZCALL
variable {p : Program} {l : Launch} {e : Env} {R : Room} {s : State} {m : MethodId} {args : Array Value} {below : List Frame} {meth : Method} {c : Code} {H : Heap} {locs : List Loc} {cells slots : Nat} {Q : State → Prop}
variable {cc : ByteArray} {pc mc ms : Nat} {ls : Array Slot} {rest st0 : List Value} {B0 : Nat} {D : va_G} {cs : Nat → ClassId} {xa : Nat → Nat} {σ : zH}
theorem z_go {r1 : Option Value} {σ1 : zH} {a : Array Value} (hr : va_Run p l e R s m args below meth c H locs cells slots mc ms (F0 m pc ls st0) rest (zQc B0 D cs xa r1 σ1 a) (zAA B0)) (hS : va_S (zAA B0) s.heap H locs)
    (kk : ∀ (H1 : Heap) (locs1 : List Loc), zHM B0 D cs σ1 H1 → va_S (zAA B0) s.heap H1 locs1 → W p l e R s m args below meth c H1 locs1 (cells + mc) (slots + ms) Q (F0 m (pc + 3) ls ((r1.map (zV B0 xa)).toList ++ rest))) : W p l e R s m args below meth c H locs cells slots Q (F0 m pc ls st0) := by
  intro T hT X
  obtain ⟨v, st₀, t, T', L, h0, X', hL, e1, e2, ⟨hv, hm, hz, hk⟩, st⟩ := hr T hT X
  have hv : v = r1.map (zV B0 xa) := by injection hv
  subst hv
  rw [h0] at hz hk
  obtain ⟨t2, a1, b1⟩ := kk T'.heap (locs ++ L) (by rw [e1]; exact hm) ⟨Nat.le_trans hS.1 (by rw [e1]; exact hz), fun q h1 h2 => by rw [e1, hk q (Nat.lt_of_lt_of_le h1 hS.1) h2]; exact hS.2.1 q h1 h2, fun q hq => by
      rcases List.mem_append.mp hq with h | h
      · exact hS.2.2 q h
      · exact hL q h⟩ T' rfl X'
  exact ⟨t2, st t2 a1, b1⟩
end ZCALL
