theorem lg_len : ∀ vs : List Value, (lg_sl vs).length = (vs.map fun v => v.category).sum
  | [] => rfl
  | v :: vs => by
    have ih := lg_len vs
    rw [List.map_cons, List.sum_cons, ← ih]
    show ((if v.category = 2 then [Slot.val v, Slot.second] else [Slot.val v]) ++ lg_sl vs).length = _
    rw [List.length_append]
    rcases lv_cat v with h | h
    · rw [h, if_neg (by decide)]; rfl
    · rw [h, if_pos rfl]; rfl
theorem lv_args_map {B0 : Nat} {xa : Nat → Nat} : ∀ (i : Nat) (vs : List Value), lv_args i (vs.map (zV B0 xa)) = (lv_args i vs).map (zvp B0 xa)
  | _, [] => rfl
  | i, v :: vs => by
    rw [List.map_cons]
    unfold lv_args
    rw [zV_cat, lv_args_map _ vs, List.map_cons]

set_option maxHeartbeats 4000000 in
/-- runs of the abstract machine are runs of the machine -/
theorem zsim : ∀ (n : Nat) {d M pc : Nat} {lc : zC} {st : List Value} {σ : zH} {r : Option Value} {σ' : zH}, zrun n d M pc lc st σ r σ' → ∀ {p : Program} {l : Launch} {e : Env} {R : Room} {s : State} {m : MethodId} {args : Array Value} {below : List Frame} {meth : Method} {c : Code} {B0 : Nat} {D : va_G} {cs : Nat → ClassId} {xa : Nat → Nat} {k0 s0 : Nat}, zCx B0 D cs xa p s m args meth c M → d ≤ R.frames ∧ 40 * d ≤ R.locals → k0 ≤ zX σ ∧ s0 ≤ zL σ → zX σ' - k0 ≤ R.cells ∧ zL σ' - s0 ≤ R.slots → zwW p l e R s m args below meth c (MQ below (zQc B0 D cs xa r σ') args s (zX σ' - k0) (zL σ' - s0) (zAA B0)) B0 D cs xa k0 s0 M pc lc st σ := by
  intro n
  induction n with
  | zero => intro d M pc lc st σ r σ' h; exact h.elim
  | succ n ih =>
    intro d M pc lc st σ r σ' h p l e R s m args below meth c B0 D cs xa k0 s0 C hd hk hr
    rcases h with ⟨lc', h1, h2⟩ | ⟨P, o, h1, h2, h3⟩
    · intro H locs ls hH hS hl
      exact ih h2 C hd hk hr H locs ls hH hS (lv_sub2 hl (fun q hq => by
        obtain ⟨x, hx, rfl⟩ := List.mem_map.mp hq
        exact List.mem_map.mpr ⟨x, h1 x hx, rfl⟩))
    · match o, h1, h3 with
      | .inl (pc', lc', st', σ1), h1, h3 =>
        have a1 := zst_mono h1
        have a2 := zrun_mono n h3
        exact zstep C h1 h2 hd hk ⟨by omega, by omega⟩ (ih h3 C hd ⟨by omega, by omega⟩ hr)
      | .inr (.inl (M', as, pc', st')), h1, h3 =>
        obtain ⟨d', r1, σ1, rfl, g1, g2⟩ := h3
        have a1 := zrun_mono n g1
        have a2 := zrun_mono n g2
        refine zcallst C h1 h2 hd hk a1 ⟨by omega, by omega⟩ (fun hM1 hwt => ?_) (ih g2 C hd ⟨by omega, by omega⟩ hr)
        refine Met.ofW (cc := zby M') (maxL := zml M') (ret := zrt M') (zm_small hM1).1 rfl ?_
        intro p e s m args below meth c s₁ B hml hv
        obtain ⟨rfl, v1, v2, v3⟩ := hv
        have hw := zwsY_hw (atoms_spec (ws := zwsY (zyM M') (zby M') (zml M') (zrt M')) B.pre)
        have hown : s.vm.findClass (zcs (zcn M')) = some m.cls := by
          have := findClass_of_methodNamed B.named
          rw [(zm_name hM1).1] at this
          exact this
        have hnm : (zyM M').name = "<init>" → meth.name = "<init>" := fun h => (name_of_methodNamed B.named B.method).1.trans h
        have C1 : zCx B0 D cs xa p s m (as.map (zV B0 xa)).toArray meth c M' := ⟨B.exec, B.bytes, hml, hown, hw, B.returns, B.notSynchronized, hnm, v2, v3, by rw [v1.1]; omega⟩
        have hls : (lg_sl (as.map (zV B0 xa))).length = zwt as := by
          rw [← zwt_map B0 xa]
          exact lg_len _
        have hl := lv_entry (as.map (zV B0 xa)) (n := zml M') (by rw [hls]; exact hwt)
        rw [lg_entry_eq]
        have h9 := ih g1 (p := p) (l := l) (e := e) (R := (headSpec (zwsY (zyM M') (zby M') (zml M') (zrt M')) (zrm d' (zX σ1 - zX σ) (zL σ1 - zL σ))).room) (s := s) (m := m) (below := below) (meth := meth) (c := c) (k0 := zX σ) (s0 := zL σ) C1 ⟨Nat.le_refl _, Nat.le_refl _⟩ ⟨Nat.le_refl _, Nat.le_refl _⟩ ⟨Nat.le_refl _, Nat.le_refl _⟩ s.heap [] _ v1 va_S.rf (by rw [← lv_args_map]; exact hl)
        rw [Nat.sub_self, Nat.sub_self] at h9
        exact h9
      | .inr (.inr v), h1, h3 =>
        obtain ⟨rfl, rfl⟩ := h3
        exact zret C h1 h2
