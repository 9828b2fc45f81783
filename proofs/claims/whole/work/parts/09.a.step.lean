theorem zblt {a b : Nat} (h : Nat.blt a b = true) : a < b := by simpa [Nat.blt, Nat.ble_eq, Nat.succ_le_iff] using h
theorem zsw_form {sw : List (Int × Nat)} {lo : Int} {pc n : Nat} {offs : List Int} (h : sw.map (fun q => (q.1, (q.2 : Int))) = (List.range n).map (fun (j : Nat) => (lo + (j : Int), (pc : Int) + offs.getD j 0))) : ∃ f : Nat → Nat, sw = (List.range n).map (fun (j : Nat) => (lo + (j : Int), f j)) ∧ ∀ j, j < n → (f j : Int) = (pc : Int) + offs.getD j 0 := by
  have hlen : sw.length = n := by have := congrArg List.length h; simpa using this
  have hj : ∀ j (hj : j < n), (sw[j]'(by omega)).1 = lo + (j : Int) ∧ ((sw[j]'(by omega)).2 : Int) = (pc : Int) + offs.getD j 0 := by
    intro j hj
    have h1 := congrArg (fun l => l[j]?) h
    simp only [List.getElem?_map] at h1
    rw [List.getElem?_eq_getElem (by omega), List.getElem?_range hj] at h1
    simp only [Option.map_some, Option.some.injEq, Prod.mk.injEq] at h1
    exact h1
  refine ⟨fun j => (sw.getD j (0, 0)).2, ?_, fun j h1 => ?_⟩
  · apply List.ext_getElem (by simp [hlen])
    intro j h1 h2
    have h3 := hj j (by omega)
    simp only [List.getElem_map, List.getElem_range]
    apply Prod.ext
    · exact h3.1
    · show _ = (sw.getD j (0, 0)).2
      rw [List.getD_eq_getElem?_getD, List.getElem?_eq_getElem h1]
      rfl
  · show ((sw.getD j (0, 0)).2 : Int) = _
    rw [List.getD_eq_getElem?_getD, List.getElem?_eq_getElem (by omega)]
    exact (hj j h1).2

/-- the machine, from an abstract state on -/
def zwW (p : Program) (l : Launch) (e : Env) (R : Room) (s : State) (m : MethodId) (args : Array Value) (below : List Frame) (meth : Method) (c : Code) (Q : State → Prop) (B0 : Nat) (D : va_G) (cs : Nat → ClassId) (xa : Nat → Nat) (k0 s0 M pc : Nat) (lc : zC) (st : List Value) (σ : zH) : Prop :=
  ∀ (H : Heap) (locs : List Loc) (ls : Array Slot), zHM B0 D cs σ H → va_S (zAA B0) s.heap H locs → lv_has ls (zml M) (lc.map (zvp B0 xa)) → W p l e R s m args below meth c H locs (zX σ - k0) (zL σ - s0) Q (F0 m pc ls (st.map (zV B0 xa)))
theorem and2 {a b : Bool} (h : (a && b) = true) : a = true ∧ b = true := by rw [Bool.and_eq_true] at h; exact h
theorem zinj {P P' : Prop} {o o' : zO} (h : some (P, o) = some (P', o')) : P = P' ∧ o = o' := by cases h; exact ⟨rfl, rfl⟩
theorem zcond {b : Bool} {x : Prop × zO} {y : Prop × zO} (h : (bif b then some x else none) = some y) : b = true ∧ x = y := by
  cases b
  · cases h
  · exact ⟨rfl, Option.some.inj h⟩
set_option maxHeartbeats 4000000 in
theorem zstep {p : Program} {l : Launch} {e : Env} {R : Room} {s : State} {m : MethodId} {args : Array Value} {below : List Frame} {meth : Method} {c : Code} {Q : State → Prop} {B0 : Nat} {D : va_G} {cs : Nat → ClassId} {xa : Nat → Nat} {k0 s0 M : Nat} (C : zCx B0 D cs xa p s m args meth c M) {d pc pc1 : Nat} {lc lc1 : zC} {st st1 : List Value} {σ σ1 : zH} {P : Prop} (h : zst d M pc lc st σ = some (P, .inl (pc1, lc1, st1, σ1))) (hP : P) (hd : d ≤ R.frames ∧ 40 * d ≤ R.locals) (hk : k0 ≤ zX σ ∧ s0 ≤ zL σ) (hr : zX σ1 - k0 ≤ R.cells ∧ zL σ1 - s0 ≤ R.slots) (k : zwW p l e R s m args below meth c Q B0 D cs xa k0 s0 M pc1 lc1 st1 σ1) : zwW p l e R s m args below meth c Q B0 D cs xa k0 s0 M pc lc st σ := by
  unfold zst at h
  cases hz : zc M pc with
  | none => rw [hz] at h; cases h
  | some q =>
  obtain ⟨i, nx, a, b, cd, kd, v, sw⟩ := q
  rw [hz] at h
  obtain ⟨hM, ho⟩ := zc_ok hz
  obtain ⟨hdc0, hax⟩ := and2 ho
  have hdc : decode (zby M) pc = .ok (i, nx - pc) := of_decide_eq_true hdc0
  clear hdc0 ho
  obtain ⟨hx, hb, hml, hown, hw, hrt, hlk, hnm, hK, hXT, hsz⟩ := id C
  intro H locs ls hH hS hl
  cases i with
  | iconst n =>
    obtain ⟨h1, h2⟩ := and2 hax
    have e1 := Nat.eq_of_beq_eq_true h1
    subst e1
    rw [show pc + 1 - pc = 1 by omega] at hdc
    dsimp only at h
    have e2 : n = v := of_decide_eq_true h2
    subst e2
    cases h
    exact lv_iconst hx hb hdc rfl (k H locs ls hH hS hl)
  | bipush n =>
    obtain ⟨h1, h2⟩ := and2 hax
    have e1 := Nat.eq_of_beq_eq_true h1
    subst e1
    rw [show pc + 2 - pc = 2 by omega] at hdc
    dsimp only at h
    have e2 := of_decide_eq_true h2
    cases h
    exact lv_bipush hx hb hdc e2 (k H locs ls hH hS hl)
  | sipush n =>
    obtain ⟨h1, h2⟩ := and2 hax
    have e1 := Nat.eq_of_beq_eq_true h1
    subst e1
    rw [show pc + 3 - pc = 3 by omega] at hdc
    dsimp only at h
    have e2 := of_decide_eq_true h2
    cases h
    exact lv_sipush hx hb hdc e2 (k H locs ls hH hS hl)
  | lconst n =>
    obtain ⟨h1, h2⟩ := and2 hax
    have e1 := Nat.eq_of_beq_eq_true h1
    subst e1
    rw [show pc + 1 - pc = 1 by omega] at hdc
    dsimp only at h
    have e2 := of_decide_eq_true h2
    cases h
    exact lv_lconst hx hb hdc e2 (k H locs ls hH hS hl)
  | ldc2_w x =>
    obtain ⟨h1, h2⟩ := and2 hax
    have e1 := Nat.eq_of_beq_eq_true h1
    subst e1
    rw [show pc + 3 - pc = 3 by omega] at hdc
    dsimp only at h
    obtain ⟨w1, w2⟩ := zwd_ok h2
    cases h
    exact lv_ldc2 hx hb hown (hw _ w1 w2) hdc (k H locs ls hH hS hl)
  | ldc x =>
    obtain ⟨h1, h2⟩ := and2 hax
    have e1 := Nat.eq_of_beq_eq_true h1
    subst e1
    rw [show pc + 2 - pc = 2 by omega] at hdc
    dsimp only at h
    cases hc0 : Nat.beq cd 0 with
    | true =>
      rw [hc0] at h h2
      obtain ⟨w1, w2⟩ := zwd_ok h2
      cases h
      exact lv_ldc hx hb hown (hw _ w1 w2) hdc (k H locs ls hH hS hl)
    | false =>
      rw [hc0] at h h2
      cases hc1 : Nat.beq cd 1 with
      | false => rw [hc1] at h; cases h
      | true =>
        rw [hc1] at h h2
        cases h
        obtain ⟨-, -, h4, -⟩ := hXT
        obtain ⟨h5, h6⟩ := and2 h2
        have h5 := Nat.eq_of_beq_eq_true h5
        have h6 := Nat.eq_of_beq_eq_true h6
        rw [h6] at hdc
        rw [h5] at hown
        exact va_ldcS hx hb hown h4 hdc (k H locs ls hH hS hl)
  | iload x =>
    obtain ⟨h1, h2⟩ := and2 hax
    have e1 := Nat.eq_of_beq_eq_true h1
    subst e1
    rw [show pc + 2 - pc = 2 by omega] at hdc
    dsimp only at h
    have e2 := Nat.eq_of_beq_eq_true h2
    subst e2
    split at h
    · rename_i hg
      cases h
      exact lv_iload hx hb hdc (z_loc hl hg) (k H locs ls hH hS hl)
    · cases h
  | iload_n x =>
    obtain ⟨h1, h2⟩ := and2 hax
    have e1 := Nat.eq_of_beq_eq_true h1
    subst e1
    rw [show pc + 1 - pc = 1 by omega] at hdc
    dsimp only at h
    have e2 := Nat.eq_of_beq_eq_true h2
    split at h
    · rename_i hg
      cases h
      exact lv_iload_n hx hb hdc e2 (z_loc hl hg) (k H locs ls hH hS hl)
    · cases h
  | lload x =>
    obtain ⟨h1, h2⟩ := and2 hax
    have e1 := Nat.eq_of_beq_eq_true h1
    subst e1
    rw [show pc + 2 - pc = 2 by omega] at hdc
    dsimp only at h
    have e2 := Nat.eq_of_beq_eq_true h2
    subst e2
    split at h
    · rename_i hg
      cases h
      exact lv_lload hx hb hdc (z_loc hl hg) (k H locs ls hH hS hl)
    · cases h
  | lload_n x =>
    obtain ⟨h1, h2⟩ := and2 hax
    have e1 := Nat.eq_of_beq_eq_true h1
    subst e1
    rw [show pc + 1 - pc = 1 by omega] at hdc
    dsimp only at h
    have e2 := Nat.eq_of_beq_eq_true h2
    split at h
    · rename_i hg
      cases h
      exact lv_lload_n hx hb hdc e2 (z_loc hl hg) (k H locs ls hH hS hl)
    · cases h
  | aload x =>
    obtain ⟨h1, h2⟩ := and2 hax
    have e1 := Nat.eq_of_beq_eq_true h1
    subst e1
    rw [show pc + 2 - pc = 2 by omega] at hdc
    dsimp only at h
    have e2 := Nat.eq_of_beq_eq_true h2
    subst e2
    split at h
    · rename_i y hg
      cases h
      have hq := z_loc hl hg
      cases y with
      | zero => exact lv_aloadN hx hb hdc hq (k H locs ls hH hS hl)
      | succ y => exact lv_aload hx hb hdc hq (k H locs ls hH hS hl)
    · cases h
  | aload_n x =>
    obtain ⟨h1, h2⟩ := and2 hax
    have e1 := Nat.eq_of_beq_eq_true h1
    subst e1
    rw [show pc + 1 - pc = 1 by omega] at hdc
    dsimp only at h
    have e2 := Nat.eq_of_beq_eq_true h2
    split at h
    · rename_i y hg
      cases h
      have hq := z_loc hl hg
      cases y with
      | zero => exact lv_aload_nN hx hb hdc e2 hq (k H locs ls hH hS hl)
      | succ y => exact lv_aload_n hx hb hdc e2 hq (k H locs ls hH hS hl)
    · cases h
  | istore x =>
    obtain ⟨h1, h2⟩ := and2 hax
    obtain ⟨h2, h3⟩ := and2 h2
    have e1 := Nat.eq_of_beq_eq_true h1
    subst e1
    rw [show pc + 2 - pc = 2 by omega] at hdc
    dsimp only at h
    have e2 := Nat.eq_of_beq_eq_true h2
    subst e2
    have h3 := zblt h3
    split at h
    · cases h
      exact lv_istore hx hb hdc hl h3 rfl (fun ls1 hl1 => k H locs ls1 hH hS (z_st1 hl1))
    · cases h
  | istore_n x =>
    obtain ⟨h1, h2⟩ := and2 hax
    obtain ⟨h2, h3⟩ := and2 h2
    have e1 := Nat.eq_of_beq_eq_true h1
    subst e1
    rw [show pc + 1 - pc = 1 by omega] at hdc
    dsimp only at h
    have e2 := Nat.eq_of_beq_eq_true h2
    have h3 := zblt h3
    split at h
    · cases h
      exact lv_istore_n hx hb hdc e2 hl h3 rfl (fun ls1 hl1 => k H locs ls1 hH hS (z_st1 hl1))
    · cases h
  | lstore x =>
    obtain ⟨h1, h2⟩ := and2 hax
    obtain ⟨h2, h3⟩ := and2 h2
    have e1 := Nat.eq_of_beq_eq_true h1
    subst e1
    rw [show pc + 2 - pc = 2 by omega] at hdc
    dsimp only at h
    have e2 := Nat.eq_of_beq_eq_true h2
    subst e2
    have h3 := zblt h3
    split at h
    · cases h
      exact lv_lstore hx hb hdc hl h3 rfl (fun ls1 hl1 => k H locs ls1 hH hS (z_st2 hl1))
    · cases h
  | lstore_n x =>
    obtain ⟨h1, h2⟩ := and2 hax
    obtain ⟨h2, h3⟩ := and2 h2
    have e1 := Nat.eq_of_beq_eq_true h1
    subst e1
    rw [show pc + 1 - pc = 1 by omega] at hdc
    dsimp only at h
    have e2 := Nat.eq_of_beq_eq_true h2
    have h3 := zblt h3
    split at h
    · cases h
      exact lv_lstore_n hx hb hdc e2 hl h3 rfl (fun ls1 hl1 => k H locs ls1 hH hS (z_st2 hl1))
    · cases h
  | astore x =>
    obtain ⟨h1, h2⟩ := and2 hax
    obtain ⟨h2, h3⟩ := and2 h2
    have e1 := Nat.eq_of_beq_eq_true h1
    subst e1
    rw [show pc + 2 - pc = 2 by omega] at hdc
    dsimp only at h
    have e2 := Nat.eq_of_beq_eq_true h2
    subst e2
    have h3 := zblt h3
    split at h
    · rename_i y _
      cases h
      cases y with
      | zero => exact lv_astoreN hx hb hdc hl h3 rfl (fun ls1 hl1 => k H locs ls1 hH hS (z_st1 hl1))
      | succ y => exact lv_astore hx hb hdc hl h3 rfl (fun ls1 hl1 => k H locs ls1 hH hS (z_st1 hl1))
    · cases h
  | astore_n x =>
    obtain ⟨h1, h2⟩ := and2 hax
    obtain ⟨h2, h3⟩ := and2 h2
    have e1 := Nat.eq_of_beq_eq_true h1
    subst e1
    rw [show pc + 1 - pc = 1 by omega] at hdc
    dsimp only at h
    have e2 := Nat.eq_of_beq_eq_true h2
    have h3 := zblt h3
    split at h
    · rename_i y _
      cases h
      cases y with
      | zero => exact lv_astore_nN hx hb hdc e2 hl h3 rfl (fun ls1 hl1 => k H locs ls1 hH hS (z_st1 hl1))
      | succ y => exact lv_astore_n hx hb hdc e2 hl h3 rfl (fun ls1 hl1 => k H locs ls1 hH hS (z_st1 hl1))
    · cases h
  | iinc x n =>
    obtain ⟨h1, h2⟩ := and2 hax
    obtain ⟨h2, h3⟩ := and2 h2
    have e1 := Nat.eq_of_beq_eq_true h1
    subst e1
    rw [show pc + 3 - pc = 3 by omega] at hdc
    dsimp only at h
    have e2 := Nat.eq_of_beq_eq_true h2
    subst e2
    obtain ⟨h3a, h4⟩ := and2 h3
    have h3b := zblt h3a
    have e4 : n = v := of_decide_eq_true h4
    subst e4
    split at h
    · rename_i y hg
      cases h
      obtain ⟨kk, hkk⟩ := List.getElem?_of_mem (List.mem_map.mpr ⟨(x, .int y), zg_mem hg, rfl⟩ : (x, Value.int y) ∈ lc.map (zvp B0 xa))
      exact lv_iinc hx hb hdc hl hkk rfl h3b rfl (fun ls1 hl1 => k H locs ls1 hH hS (z_st1 hl1))
    · cases h
  | iadd =>
    have e1 := Nat.eq_of_beq_eq_true hax
    subst e1
    rw [show pc + 1 - pc = 1 by omega] at hdc
    dsimp only at h
    split at h
    · cases h
      exact lv_iadd hx hb hdc (k H locs ls hH hS hl)
    · cases h
  | isub =>
    have e1 := Nat.eq_of_beq_eq_true hax
    subst e1
    rw [show pc + 1 - pc = 1 by omega] at hdc
    dsimp only at h
    split at h
    · cases h
      exact lv_isub hx hb hdc (k H locs ls hH hS hl)
    · cases h
  | imul =>
    have e1 := Nat.eq_of_beq_eq_true hax
    subst e1
    rw [show pc + 1 - pc = 1 by omega] at hdc
    dsimp only at h
    split at h
    · cases h
      exact lv_imul hx hb hdc (k H locs ls hH hS hl)
    · cases h
  | iand =>
    have e1 := Nat.eq_of_beq_eq_true hax
    subst e1
    rw [show pc + 1 - pc = 1 by omega] at hdc
    dsimp only at h
    split at h
    · cases h
      exact lv_iand hx hb hdc (k H locs ls hH hS hl)
    · cases h
  | ior =>
    have e1 := Nat.eq_of_beq_eq_true hax
    subst e1
    rw [show pc + 1 - pc = 1 by omega] at hdc
    dsimp only at h
    split at h
    · cases h
      exact lv_ior hx hb hdc (k H locs ls hH hS hl)
    · cases h
  | ixor =>
    have e1 := Nat.eq_of_beq_eq_true hax
    subst e1
    rw [show pc + 1 - pc = 1 by omega] at hdc
    dsimp only at h
    split at h
    · cases h
      exact lv_ixor hx hb hdc (k H locs ls hH hS hl)
    · cases h
  | ishl =>
    have e1 := Nat.eq_of_beq_eq_true hax
    subst e1
    rw [show pc + 1 - pc = 1 by omega] at hdc
    dsimp only at h
    split at h
    · cases h
      exact lv_ishl hx hb hdc (k H locs ls hH hS hl)
    · cases h
  | ishr =>
    have e1 := Nat.eq_of_beq_eq_true hax
    subst e1
    rw [show pc + 1 - pc = 1 by omega] at hdc
    dsimp only at h
    split at h
    · cases h
      exact lv_ishr hx hb hdc (k H locs ls hH hS hl)
    · cases h
  | ladd =>
    have e1 := Nat.eq_of_beq_eq_true hax
    subst e1
    rw [show pc + 1 - pc = 1 by omega] at hdc
    dsimp only at h
    split at h
    · cases h
      exact lv_ladd hx hb hdc (k H locs ls hH hS hl)
    · cases h
  | lsub =>
    have e1 := Nat.eq_of_beq_eq_true hax
    subst e1
    rw [show pc + 1 - pc = 1 by omega] at hdc
    dsimp only at h
    split at h
    · cases h
      exact lv_lsub hx hb hdc (k H locs ls hH hS hl)
    · cases h
  | lmul =>
    have e1 := Nat.eq_of_beq_eq_true hax
    subst e1
    rw [show pc + 1 - pc = 1 by omega] at hdc
    dsimp only at h
    split at h
    · cases h
      exact lv_lmul hx hb hdc (k H locs ls hH hS hl)
    · cases h
  | land =>
    have e1 := Nat.eq_of_beq_eq_true hax
    subst e1
    rw [show pc + 1 - pc = 1 by omega] at hdc
    dsimp only at h
    split at h
    · cases h
      exact lv_land hx hb hdc (k H locs ls hH hS hl)
    · cases h
  | lor =>
    have e1 := Nat.eq_of_beq_eq_true hax
    subst e1
    rw [show pc + 1 - pc = 1 by omega] at hdc
    dsimp only at h
    split at h
    · cases h
      exact lv_lor hx hb hdc (k H locs ls hH hS hl)
    · cases h
  | iushr =>
    have e1 := Nat.eq_of_beq_eq_true hax
    subst e1
    rw [show pc + 1 - pc = 1 by omega] at hdc
    dsimp only at h
    split at h
    · cases h
      exact lv_iushr hx hb hdc rfl (k H locs ls hH hS hl)
    · cases h
  | lshl =>
    have e1 := Nat.eq_of_beq_eq_true hax
    subst e1
    rw [show pc + 1 - pc = 1 by omega] at hdc
    dsimp only at h
    split at h
    · cases h
      exact lv_lshl hx hb hdc rfl (k H locs ls hH hS hl)
    · cases h
  | lshr =>
    have e1 := Nat.eq_of_beq_eq_true hax
    subst e1
    rw [show pc + 1 - pc = 1 by omega] at hdc
    dsimp only at h
    split at h
    · cases h
      exact lv_lshr hx hb hdc rfl (k H locs ls hH hS hl)
    · cases h
  | lushr =>
    have e1 := Nat.eq_of_beq_eq_true hax
    subst e1
    rw [show pc + 1 - pc = 1 by omega] at hdc
    dsimp only at h
    split at h
    · cases h
      exact lv_lushr hx hb hdc rfl (k H locs ls hH hS hl)
    · cases h
  | i2l =>
    have e1 := Nat.eq_of_beq_eq_true hax
    subst e1
    rw [show pc + 1 - pc = 1 by omega] at hdc
    dsimp only at h
    split at h
    · cases h
      exact lv_i2l hx hb hdc rfl (k H locs ls hH hS hl)
    · cases h
  | l2i =>
    have e1 := Nat.eq_of_beq_eq_true hax
    subst e1
    rw [show pc + 1 - pc = 1 by omega] at hdc
    dsimp only at h
    split at h
    · cases h
      exact lv_l2i hx hb hdc rfl (k H locs ls hH hS hl)
    · cases h
  | i2b =>
    have e1 := Nat.eq_of_beq_eq_true hax
    subst e1
    rw [show pc + 1 - pc = 1 by omega] at hdc
    dsimp only at h
    split at h
    · cases h
      exact lv_i2b hx hb hdc rfl (k H locs ls hH hS hl)
    · cases h
  | irem =>
    have e1 := Nat.eq_of_beq_eq_true hax
    subst e1
    rw [show pc + 1 - pc = 1 by omega] at hdc
    dsimp only at h
    split at h
    · cases h
      exact lv_irem hx hb hdc hP (k H locs ls hH hS hl)
    · cases h
  | ldiv =>
    have e1 := Nat.eq_of_beq_eq_true hax
    subst e1
    rw [show pc + 1 - pc = 1 by omega] at hdc
    dsimp only at h
    split at h
    · cases h
      exact lv_ldiv hx hb hdc hP (k H locs ls hH hS hl)
    · cases h
  | lcmp =>
    have e1 := Nat.eq_of_beq_eq_true hax
    subst e1
    rw [show pc + 1 - pc = 1 by omega] at hdc
    dsimp only at h
    split at h
    · cases h
      exact W.lcmp hx hb hdc (k H locs ls hH hS hl)
    · cases h
  | dup =>
    have e1 := Nat.eq_of_beq_eq_true hax
    subst e1
    rw [show pc + 1 - pc = 1 by omega] at hdc
    dsimp only at h
    split at h
    · cases h
      exact lv_dup hx hb hdc rfl (k H locs ls hH hS hl)
    · cases h
      exact lv_dup hx hb hdc (zV_cat B0 xa (.ref _)) (k H locs ls hH hS hl)
    · cases h
  | dup2 =>
    have e1 := Nat.eq_of_beq_eq_true hax
    subst e1
    rw [show pc + 1 - pc = 1 by omega] at hdc
    dsimp only at h
    split at h
    · cases h
      exact lv_dup2_11 hx hb hdc rfl (zV_cat B0 xa (.ref _)) (k H locs ls hH hS hl)
    · cases h
  | pop =>
    have e1 := Nat.eq_of_beq_eq_true hax
    subst e1
    rw [show pc + 1 - pc = 1 by omega] at hdc
    dsimp only at h
    split at h
    · cases h
      exact lv_pop hx hb hdc rfl (k H locs ls hH hS hl)
    · cases h
      exact lv_pop hx hb hdc (zV_cat B0 xa (.ref _)) (k H locs ls hH hS hl)
    · cases h
  | if_icmp cnd o =>
    obtain ⟨h1, h2⟩ := and2 hax
    have e1 := Nat.eq_of_beq_eq_true h1
    subst e1
    rw [show pc + 3 - pc = 3 by omega] at hdc
    have e2 : (pc : Int) + o = (a : Int) := of_decide_eq_true h2
    cases cnd with
    | eq =>
      dsimp only at h
      split at h
      · cases h
        exact lv_icmp_eq hx hb hdc e2 (fun hc => by have h9 := (k H locs ls hH hS hl); rwa [if_pos hc] at h9) (fun hc => by have h9 := (k H locs ls hH hS hl); rwa [if_neg hc] at h9)
      · cases h
    | ne =>
      dsimp only at h
      split at h
      · cases h
        exact lv_icmp_ne hx hb hdc e2 (fun hc => by have h9 := (k H locs ls hH hS hl); rwa [if_pos hc] at h9) (fun hc => by have h9 := (k H locs ls hH hS hl); rwa [if_neg (fun q => q hc)] at h9)
      · cases h
    | lt =>
      dsimp only at h
      split at h
      · cases h
        exact lv_icmp_lt hx hb hdc e2 (fun hc => by have h9 := (k H locs ls hH hS hl); rwa [if_pos hc] at h9) (fun hc => by have h9 := (k H locs ls hH hS hl); rwa [if_neg hc] at h9)
      · cases h
    | ge =>
      dsimp only at h
      split at h
      · cases h
        exact lv_icmp_ge hx hb hdc e2 (fun hc => by have h9 := (k H locs ls hH hS hl); rwa [if_pos hc] at h9) (fun hc => by have h9 := (k H locs ls hH hS hl); rwa [if_neg hc] at h9)
      · cases h
    | gt =>
      dsimp only at h
      split at h
      · cases h
        exact lv_icmp_gt hx hb hdc e2 (fun hc => by have h9 := (k H locs ls hH hS hl); rwa [if_pos hc] at h9) (fun hc => by have h9 := (k H locs ls hH hS hl); rwa [if_neg hc] at h9)
      · cases h
    | le =>
      dsimp only at h
      split at h
      · cases h
        exact lv_icmp_le hx hb hdc e2 (fun hc => by have h9 := (k H locs ls hH hS hl); rwa [if_pos hc] at h9) (fun hc => by have h9 := (k H locs ls hH hS hl); rwa [if_neg hc] at h9)
      · cases h
  | ifCond cnd o =>
    obtain ⟨h1, h2⟩ := and2 hax
    have e1 := Nat.eq_of_beq_eq_true h1
    subst e1
    rw [show pc + 3 - pc = 3 by omega] at hdc
    have e2 : (pc : Int) + o = (a : Int) := of_decide_eq_true h2
    cases cnd with
    | eq =>
      dsimp only at h
      split at h
      · cases h
        exact lv_if_eq hx hb hdc e2 (fun hc => by have h9 := (k H locs ls hH hS hl); rwa [if_pos hc] at h9) (fun hc => by have h9 := (k H locs ls hH hS hl); rwa [if_neg hc] at h9)
      · cases h
    | ne =>
      dsimp only at h
      split at h
      · cases h
        exact lv_if_ne hx hb hdc e2 (fun hc => by have h9 := (k H locs ls hH hS hl); rwa [if_pos hc] at h9) (fun hc => by have h9 := (k H locs ls hH hS hl); rwa [if_neg (fun q => q hc)] at h9)
      · cases h
    | lt =>
      dsimp only at h
      split at h
      · cases h
        exact lv_if_lt hx hb hdc e2 (fun hc => by have h9 := (k H locs ls hH hS hl); rwa [if_pos hc] at h9) (fun hc => by have h9 := (k H locs ls hH hS hl); rwa [if_neg hc] at h9)
      · cases h
    | ge =>
      dsimp only at h
      split at h
      · cases h
        exact lv_if_ge hx hb hdc e2 (fun hc => by have h9 := (k H locs ls hH hS hl); rwa [if_pos hc] at h9) (fun hc => by have h9 := (k H locs ls hH hS hl); rwa [if_neg hc] at h9)
      · cases h
    | gt =>
      dsimp only at h
      split at h
      · cases h
        exact lv_if_gt hx hb hdc e2 (fun hc => by have h9 := (k H locs ls hH hS hl); rwa [if_pos hc] at h9) (fun hc => by have h9 := (k H locs ls hH hS hl); rwa [if_neg hc] at h9)
      · cases h
    | le =>
      dsimp only at h
      split at h
      · cases h
        exact lv_if_le hx hb hdc e2 (fun hc => by have h9 := (k H locs ls hH hS hl); rwa [if_pos hc] at h9) (fun hc => by have h9 := (k H locs ls hH hS hl); rwa [if_neg hc] at h9)
      · cases h
  | goto o =>
    obtain ⟨h1, h2⟩ := and2 hax
    have e1 := Nat.eq_of_beq_eq_true h1
    subst e1
    rw [show pc + 3 - pc = 3 by omega] at hdc
    dsimp only at h
    have e2 : (pc : Int) + o = (a : Int) := of_decide_eq_true h2
    cases h
    exact lv_goto hx hb hdc e2 (k H locs ls hH hS hl)
  | tableswitch df lo hi offs =>
    obtain ⟨h1, h2⟩ := and2 hax
    obtain ⟨h2, h3⟩ := and2 h2
    obtain ⟨h3, h4⟩ := and2 h3
    obtain ⟨h4, h5⟩ := and2 h4
    have e1 : (pc : Int) + df = (a : Int) := of_decide_eq_true h1
    have e2 := of_decide_eq_true h2
    have e3 : hi + 1 - lo = (offs.size : Int) := of_decide_eq_true h3
    have e4 : 0 ≤ lo := of_decide_eq_true h4
    have e5 : hi < 2147483648 := of_decide_eq_true h5
    dsimp only at h
    split at h
    · rename_i x _
      cases h
      obtain ⟨f, hf⟩ := zsw_form e2
      obtain ⟨g1, g2⟩ := zsw_tab (x := x) (d := a) (lo := lo) (f := f) offs.size 0 (fun j hj => by omega)
      have es : sw = (List.range offs.size).map (fun j => (lo + ((0 + j : Nat) : Int), f (0 + j))) := by simpa using hf.1
      rw [← es] at g1 g2
      by_cases hin : x.toInt < lo ∨ hi < x.toInt
      · refine lv_tableOut (tgt := a) hx hb hdc hin e1 ?_
        have h9 := (k H locs ls hH hS hl)
        rwa [g2 (by omega)] at h9
      · have hj : (x.toInt - lo).toNat < offs.size := by omega
        have h10 := hf.2 _ hj
        refine lv_tableIn (tgt := zsw x a sw) hx hb hdc (by omega) (by omega) (off := offs.toList.getD (x.toInt - lo).toNat 0) ?_ ?_ (k H locs ls hH hS hl)
        · rw [← Array.getElem?_toList, List.getD_eq_getElem?_getD, List.getElem?_eq_getElem (by rw [Array.length_toList]; exact hj)]
          rfl
        · rw [g1 _ hj (by omega)]
          rw [show 0 + (x.toInt - lo).toNat = (x.toInt - lo).toNat by omega]
          exact h10.symm
    · cases h
  | lookupswitch df ps =>
    obtain ⟨h1, h2⟩ := and2 hax
    obtain ⟨h2, h3⟩ := and2 h2
    obtain ⟨h3, h4⟩ := and2 h3
    have e1 : (pc : Int) + df = (a : Int) := of_decide_eq_true h1
    have e2 := of_decide_eq_true h2
    have e3 := of_decide_eq_true h3
    dsimp only at h
    split at h
    · cases h
      exact lv_lookup hx hb hdc e3 rfl (zsw_look e1 ps.toList sw e2 (fun q hq => by have h9 := List.all_eq_true.mp h4 q hq; obtain ⟨g1, g2⟩ := and2 h9; exact ⟨of_decide_eq_true g1, of_decide_eq_true g2⟩)) (k H locs ls hH hS hl)
    · cases h
  | getfield x =>
    obtain ⟨h1, h2⟩ := and2 hax
    obtain ⟨h2, h3⟩ := and2 h2
    have e1 := Nat.eq_of_beq_eq_true h1
    subst e1
    rw [show pc + 3 - pc = 3 by omega] at hdc
    dsimp only at h
    obtain ⟨q, hq, hq2⟩ := List.any_eq_true.mp h2
    obtain ⟨⟨g1, g2⟩, g3⟩ := zFl_ok q hq
    obtain ⟨g4, -⟩ := zwd_ok g3
    obtain ⟨q1, hq2⟩ := and2 hq2
    obtain ⟨q2, hq2⟩ := and2 hq2
    obtain ⟨q3, q4⟩ := and2 hq2
    have q1 := Nat.eq_of_beq_eq_true q1
    have q2 := Nat.eq_of_beq_eq_true q2
    have q3 := Nat.eq_of_beq_eq_true q3
    have q4 := Nat.eq_of_beq_eq_true q4
    have e3 := Nat.eq_of_beq_eq_true h3
    rw [q1, q2, q4] at g4
    rw [q4] at g2
    rw [← q3, Nat.add_sub_cancel] at e3
    split at h
    · rename_i r _
      split at h
      · cases h
        exact z_get hx hb hw hown hK hH (hP.trans q3.symm) g1 g2 g4 hdc (by rw [e3]; exact (k H locs ls hH hS hl))
      · cases h
        exact z_get hx hb hw hown hK hH (hP.trans q3.symm) g1 g2 g4 hdc (by rw [e3]; have h9 := (k H locs ls hH hS hl); rw [List.map_cons, zV_ref] at h9; exact h9)
      · rename_i n1 n2
        cases h
        refine z_get hx hb hw hown hK hH (hP.trans q3.symm) g1 g2 g4 hdc ?_
        rw [e3]
        have h9 := (k H locs ls hH hS hl)
        have h10 : zfv B0 σ r b cd = .int (zI σ r b) := by
          unfold zfv
          split
          · exact absurd rfl n1
          · exact absurd rfl n2
          · rfl
        rw [h10]
        exact h9
    · cases h
  | putfield x =>
    obtain ⟨h1, h2⟩ := and2 hax
    obtain ⟨h2, h3⟩ := and2 h2
    have e1 := Nat.eq_of_beq_eq_true h1
    subst e1
    rw [show pc + 3 - pc = 3 by omega] at hdc
    dsimp only at h
    obtain ⟨q, hq, hq2⟩ := List.any_eq_true.mp h2
    obtain ⟨⟨g1, g2⟩, g3⟩ := zFl_ok q hq
    obtain ⟨g4, -⟩ := zwd_ok g3
    obtain ⟨q1, hq2⟩ := and2 hq2
    obtain ⟨q2, hq2⟩ := and2 hq2
    obtain ⟨q3, q4⟩ := and2 hq2
    have q1 := Nat.eq_of_beq_eq_true q1
    have q2 := Nat.eq_of_beq_eq_true q2
    have q3 := Nat.eq_of_beq_eq_true q3
    have q4 := Nat.eq_of_beq_eq_true q4
    obtain ⟨h3, h4⟩ := and2 h3
    have e3 := Nat.eq_of_beq_eq_true h3
    rw [q1, q2, q4] at g4
    rw [q4] at g2
    rw [← q3, Nat.add_sub_cancel] at e3 h4
    have hfin : (zfd q.2.2.1 b).2.2.2 = false ∨ (meth.name = "<init>" ∧ (zfd q.2.2.1 b).1 = zcs (zcn M)) := by
      rw [Bool.or_eq_true] at h4
      rcases h4 with h4 | h4
      · left; simpa using h4
      · right
        obtain ⟨h5, h6⟩ := and2 h4
        exact ⟨hnm (of_decide_eq_true h5), of_decide_eq_true h6⟩
    split at h
    · cases h
      refine z_put hx hb hw hown hK hH hS (hP.trans q3.symm) g1 g2 g4 hdc hfin (fun t ht => zfit_j (ht.trans e3) _) (fun H1 locs1 o1 z1 hat hS1 => ?_)
      exact k H1 locs1 ls (zHM_J hH (hP.trans q3.symm) g1 e3 o1 z1 hat) hS1 hl
    · cases h
      rw [List.map_cons, zV_ref]
      refine z_put hx hb hw hown hK hH hS (hP.trans q3.symm) g1 g2 g4 hdc hfin (fun t ht => zfit_q (ht.trans e3) _) (fun H1 locs1 o1 z1 hat hS1 => ?_)
      exact k H1 locs1 ls (zHM_Q hH (hP.trans q3.symm) g1 e3 o1 z1 hat) hS1 hl
    · cases h
      refine z_put hx hb hw hown hK hH hS (hP.1.trans q3.symm) g1 g2 g4 hdc hfin (fun t ht => zfit_z (ht.trans e3) hP.2) (fun H1 locs1 o1 z1 hat hS1 => ?_)
      exact k H1 locs1 ls (zHM_I hH (hP.1.trans q3.symm) g1 (Or.inr e3) o1 z1 hat) hS1 hl
    · cases h
      refine z_put hx hb hw hown hK hH hS (hP.trans q3.symm) g1 g2 g4 hdc hfin (fun t ht => zfit_i (ht.trans e3) _) (fun H1 locs1 o1 z1 hat hS1 => ?_)
      exact k H1 locs1 ls (zHM_I hH (hP.trans q3.symm) g1 (Or.inl e3) o1 z1 hat) hS1 hl
    · cases h
  | getstatic x =>
    obtain ⟨h1, h2⟩ := and2 hax
    obtain ⟨h2, h3⟩ := and2 h2
    have e1 := Nat.eq_of_beq_eq_true h1
    subst e1
    rw [show pc + 3 - pc = 3 by omega] at hdc
    dsimp only at h
    have e2 := Nat.eq_of_beq_eq_true h2
    have e3 := Nat.eq_of_beq_eq_true h3
    subst e2
    subst e3
    cases h
    obtain ⟨-, -, -, -, h7, -⟩ := hXT
    exact va_gets hx hb h7 hS hown (hw _ zst1 rfl) (fun _ h => h) hdc (k H locs ls hH hS hl)
  | baload =>
    have e1 := Nat.eq_of_beq_eq_true hax
    subst e1
    rw [show pc + 1 - pc = 1 by omega] at hdc
    dsimp only at h
    split at h
    · cases h
      exact z_bald hx hb hK hH hP.1 hP.2 hdc (k H locs ls hH hS hl)
    · cases h
  | laload =>
    have e1 := Nat.eq_of_beq_eq_true hax
    subst e1
    rw [show pc + 1 - pc = 1 by omega] at hdc
    dsimp only at h
    split at h
    · cases h
      exact z_lald hx hb hK hH hP.1 hP.2 hdc (k H locs ls hH hS hl)
    · cases h
  | aaload =>
    have e1 := Nat.eq_of_beq_eq_true hax
    subst e1
    rw [show pc + 1 - pc = 1 by omega] at hdc
    dsimp only at h
    split at h
    · cases h
      exact z_aald hx hb hK hH hP.1 hP.2 hdc (k H locs ls hH hS hl)
    · cases h
  | iaload =>
    have e1 := Nat.eq_of_beq_eq_true hax
    subst e1
    rw [show pc + 1 - pc = 1 by omega] at hdc
    dsimp only at h
    split at h
    · cases h
      exact z_iald hx hb hK hH hP.1 hP.2 hdc (k H locs ls hH hS hl)
    · cases h
      obtain ⟨-, -, -, -, -, h8⟩ := hXT
      exact va_ti hx hb h8 hS hP rfl hdc (k H locs ls hH hS hl)
    · cases h
  | iastore =>
    have e1 := Nat.eq_of_beq_eq_true hax
    subst e1
    rw [show pc + 1 - pc = 1 by omega] at hdc
    dsimp only at h
    split at h
    · cases h
      exact z_iast hx hb hK hH hS hP.1 hP.2 hdc (fun H1 locs1 hH1 hS1 => k H1 locs1 ls hH1 hS1 hl)
    · cases h
  | bastore =>
    have e1 := Nat.eq_of_beq_eq_true hax
    subst e1
    rw [show pc + 1 - pc = 1 by omega] at hdc
    dsimp only at h
    split at h
    · cases h
      exact z_bast hx hb hK hH hS hP.1 hP.2 hdc (fun H1 locs1 hH1 hS1 => k H1 locs1 ls hH1 hS1 hl)
    · cases h
  | lastore =>
    have e1 := Nat.eq_of_beq_eq_true hax
    subst e1
    rw [show pc + 1 - pc = 1 by omega] at hdc
    dsimp only at h
    split at h
    · cases h
      exact z_last hx hb hK hH hS hP.1 hP.2 hdc (fun H1 locs1 hH1 hS1 => k H1 locs1 ls hH1 hS1 hl)
    · cases h
  | aastore =>
    have e1 := Nat.eq_of_beq_eq_true hax
    subst e1
    rw [show pc + 1 - pc = 1 by omega] at hdc
    dsimp only at h
    split at h
    · cases h
      exact z_aast hx hb hK hH hS hP.1 hP.2 hdc (fun H1 locs1 hH1 hS1 => k H1 locs1 ls hH1 hS1 hl)
    · cases h
  | new x =>
    obtain ⟨h1, h2⟩ := and2 hax
    have e1 := Nat.eq_of_beq_eq_true h1
    subst e1
    rw [show pc + 3 - pc = 3 by omega] at hdc
    dsimp only at h
    cases ha : Nat.beq a 0 with
    | true => rw [ha] at h; cases h
    | false =>
      rw [ha] at h h2
      have h2 := h2
      rw [Bool.false_or] at h2
      obtain ⟨h3, h4⟩ := and2 h2
      have h3 := zblt h3
      obtain ⟨h4, h5⟩ := and2 h4
      obtain ⟨h5, h6⟩ := and2 h5
      obtain ⟨h6, h7⟩ := and2 h6
      obtain ⟨w1, -⟩ := zwd_ok h4
      obtain ⟨w2, -⟩ := zwd_ok h6
      obtain ⟨w3, -⟩ := zwd_ok h7
      have ha1 := beq_f ha
      obtain ⟨ci, rfl⟩ : ∃ ci, a = ci + 1 := ⟨a - 1, by omega⟩
      rw [Nat.add_sub_cancel] at w1 w2 w3 h5
      cases h
      have r1 : zX σ + 1 - k0 ≤ R.cells := hr.1
      have r2 : zL σ + b - s0 ≤ R.slots := hr.2
      refine z_newo (xa := xa) hx hb hw hown hK hH hS (by omega) w1 w2 w3 (Nat.eq_of_beq_eq_true h5) (by omega) (by omega) hdc (fun H1 hH1 hS1 => ?_)
      have h9 := k H1 locs ls hH1 hS1 hl
      rw [show zX (znw σ (ci + 1) b 0) - k0 = zX σ - k0 + 1 from by show zX σ + 1 - k0 = _; omega, show zL (znw σ (ci + 1) b 0) - s0 = zL σ - s0 + b from by show zL σ + b - s0 = _; omega] at h9
      exact h9
  | newarray t =>
    obtain ⟨h1, h2⟩ := and2 hax
    have e1 := Nat.eq_of_beq_eq_true h1
    subst e1
    rw [show pc + 2 - pc = 2 by omega] at hdc
    dsimp only at h
    split at h
    · rename_i n _
      cases h
      have hkk : t = .int ∧ a = 20 ∨ t = .long ∧ a = 21 ∨ t = .byte ∧ a = 22 := by
        cases t <;> first | exact Or.inl ⟨rfl, Nat.eq_of_beq_eq_true h2⟩ | exact Or.inr (Or.inl ⟨rfl, Nat.eq_of_beq_eq_true h2⟩) | exact Or.inr (Or.inr ⟨rfl, Nat.eq_of_beq_eq_true h2⟩) | cases h2
      have r1 : zX σ + 1 - k0 ≤ R.cells := hr.1
      have r2 : zL σ + n.toNatClampNeg - s0 ≤ R.slots := hr.2
      refine z_newa (xa := xa) hx hb hw hK hH hS hsz hkk hP.1 hP.2 (by omega) (by omega) hdc (fun H1 hH1 hS1 => ?_)
      have h9 := k H1 locs ls hH1 hS1 hl
      rw [show zX (znw σ a n.toNatClampNeg n.toNatClampNeg) - k0 = zX σ - k0 + 1 from by show zX σ + 1 - k0 = _; omega, show zL (znw σ a n.toNatClampNeg n.toNatClampNeg) - s0 = zL σ - s0 + n.toNatClampNeg from by show zL σ + n.toNatClampNeg - s0 = _; omega] at h9
      exact h9
    · cases h
  | anewarray x =>
    obtain ⟨h1, h2⟩ := and2 hax
    have e1 := Nat.eq_of_beq_eq_true h1
    subst e1
    rw [show pc + 3 - pc = 3 by omega] at hdc
    dsimp only at h
    split at h
    · rename_i n _
      cases h
      have r1 : zX σ + 1 - k0 ≤ R.cells := hr.1
      have r2 : zL σ + n.toNatClampNeg - s0 ≤ R.slots := hr.2
      rw [Bool.or_eq_true] at h2
      obtain ⟨⟨hv1, hv2⟩, -⟩ := hXT
      rcases h2 with h2 | h2
      · obtain ⟨h3, h4⟩ := and2 h2
        refine z_newq (xa := xa) (C := "ConjurerDesk$Step") hx hb hw hown hK hH hS hv1 (zwd_ok h4).1 (Or.inl ⟨rfl, Nat.eq_of_beq_eq_true h3⟩) hP.1 hP.2 (by omega) (by omega) hdc (fun H1 hH1 hS1 => ?_)
        have h9 := k H1 locs ls hH1 hS1 hl
        rw [show zX (znw σ a n.toNatClampNeg n.toNatClampNeg) - k0 = zX σ - k0 + 1 from by show zX σ + 1 - k0 = _; omega, show zL (znw σ a n.toNatClampNeg n.toNatClampNeg) - s0 = zL σ - s0 + n.toNatClampNeg from by show zL σ + n.toNatClampNeg - s0 = _; omega] at h9
        exact h9
      · obtain ⟨h3, h4⟩ := and2 h2
        refine z_newq (xa := xa) (C := "ConjurerDesk$Ways") hx hb hw hown hK hH hS hv2 (zwd_ok h4).1 (Or.inr ⟨rfl, Nat.eq_of_beq_eq_true h3⟩) hP.1 hP.2 (by omega) (by omega) hdc (fun H1 hH1 hS1 => ?_)
        have h9 := k H1 locs ls hH1 hS1 hl
        rw [show zX (znw σ a n.toNatClampNeg n.toNatClampNeg) - k0 = zX σ - k0 + 1 from by show zX σ + 1 - k0 = _; omega, show zL (znw σ a n.toNatClampNeg n.toNatClampNeg) - s0 = zL σ - s0 + n.toNatClampNeg from by show zL σ + n.toNatClampNeg - s0 = _; omega] at h9
        exact h9
    · cases h
  | invokestatic x =>
    obtain ⟨h1, h2⟩ := and2 hax
    have e1 := Nat.eq_of_beq_eq_true h1
    subst e1
    rw [show pc + 3 - pc = 3 by omega] at hdc
    dsimp only at h
    split at h
    · split at h
      · obtain ⟨h3, h4⟩ := zcond h
        cases h4
      · cases h
    · skip
      split at h
      · obtain ⟨h3, h4⟩ := zcond h
        obtain ⟨h5, h6⟩ := and2 h3
        have h5 := Nat.le_of_ble_eq_true h5
        have h6 := Nat.le_of_ble_eq_true h6
        cases h4
        exact va_mmax hx hb (hml.trans hl.1.symm) hown (hw _ (zwd_ok h2).1 rfl) (hw _ zmx1 rfl) (hw _ zmi rfl) (hw _ zmx2 rfl) (by omega) (by rw [zwt_map]; omega) (by omega) (by omega) hdc (k H locs ls hH hS hl)
      · cases h
    · skip
      split at h
      · obtain ⟨h3, h4⟩ := zcond h
        obtain ⟨h5, h6⟩ := and2 h3
        have h5 := Nat.le_of_ble_eq_true h5
        have h6 := Nat.le_of_ble_eq_true h6
        cases h4
        exact va_mmin hx hb (hml.trans hl.1.symm) hown (hw _ (zwd_ok h2).1 rfl) (hw _ zmn1 rfl) (hw _ zmi rfl) (hw _ zmn2 rfl) (by omega) (by rw [zwt_map]; omega) (by omega) (by omega) hdc (k H locs ls hH hS hl)
      · cases h
    · skip
      split at h
      · obtain ⟨h3, h4⟩ := zcond h
        obtain ⟨h5, h6⟩ := and2 h3
        have h5 := Nat.le_of_ble_eq_true h5
        have h6 := Nat.le_of_ble_eq_true h6
        cases h4
        exact va_mmin_long hx hb (hml.trans hl.1.symm) hown (hw _ (zwd_ok h2).1 rfl) (hw _ zml1 rfl) (hw _ zmi rfl) (hw _ zml2 rfl) (by omega) (by rw [zwt_map]; omega) (by omega) (by omega) hdc (k H locs ls hH hS hl)
      · cases h
    · cases h
  | invokevirtual x =>
    obtain ⟨h1, h2⟩ := and2 hax
    have e1 := Nat.eq_of_beq_eq_true h1
    subst e1
    rw [show pc + 3 - pc = 3 by omega] at hdc
    dsimp only at h
    split at h
    · split at h
      · obtain ⟨h3, h4⟩ := zcond h
        cases h4
      · cases h
    · split at h
      · obtain ⟨h3, h4⟩ := zcond h
        obtain ⟨h5, h6⟩ := and2 h3
        have h5 := Nat.le_of_ble_eq_true h5
        have h6 := Nat.le_of_ble_eq_true h6
        cases h4
        obtain ⟨h7, h8⟩ := and2 h2
        have e7 := Nat.eq_of_beq_eq_true h7
        have e8 := Nat.eq_of_beq_eq_true h8
        subst e7
        subst e8
        exact z_charAt hx hb hml hl.1 hw hown hXT hS ⟨by omega, by omega⟩ (by omega) hP (by rw [zwt_map]; omega) hdc (k H locs ls hH hS hl)
      · cases h
    · cases h
  | invokespecial x =>
    obtain ⟨h1, h2⟩ := and2 hax
    have e1 := Nat.eq_of_beq_eq_true h1
    subst e1
    rw [show pc + 3 - pc = 3 by omega] at hdc
    dsimp only at h
    split at h
    · split at h
      · obtain ⟨h3, h4⟩ := zcond h
        cases h4
      · cases h
    · split at h
      · obtain ⟨h3, h4⟩ := zcond h
        cases h4
      · cases h
    · split at h
      · obtain ⟨h3, h4⟩ := zcond h
        obtain ⟨h5, h6⟩ := and2 h3
        have h5 := Nat.le_of_ble_eq_true h5
        have h6 := Nat.le_of_ble_eq_true h6
        cases h4
        obtain ⟨g1, -, -⟩ := hH.2 _ hP
        rw [List.map_cons, zV_pos B0 xa g1]
        exact W.eq rfl (W.objInit hx hb hown (hw _ (zwd_ok h2).1 rfl) (hw _ zoi1 rfl) (hw _ zoi2 rfl) rfl (hl.1.trans hml.symm) rfl hdc (by omega) (by show 2 * 0 + _ + 12 ≤ _; rw [zwt_map]; omega) (k H locs ls hH hS hl))
      · cases h
    · cases h
  | ireturn =>
    dsimp only at h
    split at h <;> cases h
  | lreturn =>
    dsimp only at h
    split at h <;> cases h
  | return_ =>
    dsimp only at h
    split at h <;> cases h
  | _ =>
    cases h
