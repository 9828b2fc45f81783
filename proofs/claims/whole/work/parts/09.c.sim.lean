set_option maxHeartbeats 4000000 in
theorem zret {p : Program} {l : Launch} {e : Env} {R : Room} {s : State} {m : MethodId} {args : Array Value} {below : List Frame} {meth : Method} {c : Code} {B0 : Nat} {D : va_G} {cs : Nat → ClassId} {xa : Nat → Nat} {k0 s0 M : Nat} (C : zCx B0 D cs xa p s m args meth c M) {d pc : Nat} {lc : zC} {st : List Value} {σ : zH} {P : Prop} {r : Option Value} (h : zst d M pc lc st σ = some (P, .inr (.inr r))) (hP : P) : zwW p l e R s m args below meth c (MQ below (zQc B0 D cs xa r σ) args s (zX σ - k0) (zL σ - s0) (zAA B0)) B0 D cs xa k0 s0 M pc lc st σ := by
  unfold zst at h
  cases hz : zc M pc with
  | none => rw [hz] at h; cases h
  | some q =>
  obtain ⟨i, nx, a, b, cd, kd, v, sw⟩ := q
  rw [hz] at h
  obtain ⟨hM, ho⟩ := zc_ok hz
  obtain ⟨hdc0, hax⟩ := and2 ho
  have hdc : decode (zby M) pc = .ok (i, nx - pc) := of_decide_eq_true hdc0
  clear hdc0 ho
  obtain ⟨hx, hb, hml, hown, hw, hrt, hlk, hnm, hK, hXT, hsz⟩ := id C
  intro H locs ls hH hS hl
  have hq : ∀ (o : Outcome) (t : State), o = .returned (r.map (zV B0 xa)) → t.heap = H → zQc B0 D cs xa r σ args s o t := fun o t h1 ht => ⟨h1, by rw [ht]; exact hH, by rw [ht]; exact hS.1, fun q h1 h2 => by rw [ht]; exact hS.2.1 q h1 h2⟩
  cases i with
  | ireturn =>
    obtain ⟨h1, h2⟩ := and2 hax
    have e1 := Nat.eq_of_beq_eq_true h1
    subst e1
    rw [show pc + 1 - pc = 1 by omega] at hdc
    dsimp only at h
    split at h
    · cases h
      exact W.iret hx hb (hrt.trans (of_decide_eq_true h2)) (fun t ht _ => hq _ t rfl ht) hS.2.2 hdc hlk
    · cases h
      exact W.zret hx hb (hrt.trans (of_decide_eq_true h2)) (by rcases hP with rfl | rfl <;> rfl) (fun t ht _ => hq _ t rfl ht) hS.2.2 hdc hlk
    · cases h
  | lreturn =>
    obtain ⟨h1, h2⟩ := and2 hax
    have e1 := Nat.eq_of_beq_eq_true h1
    subst e1
    rw [show pc + 1 - pc = 1 by omega] at hdc
    dsimp only at h
    split at h
    · cases h
      exact W.lret hx hb (hrt.trans (of_decide_eq_true h2)) (fun t ht _ => hq _ t rfl ht) hS.2.2 hdc hlk
    · cases h
  | return_ =>
    obtain ⟨h1, h2⟩ := and2 hax
    have e1 := Nat.eq_of_beq_eq_true h1
    subst e1
    rw [show pc + 1 - pc = 1 by omega] at hdc
    dsimp only at h
    split at h
    · cases h
      exact W.vret hx hb (hrt.trans (of_decide_eq_true h2)) (fun t ht _ => hq _ t rfl ht) hS.2.2 hdc hlk
    · cases h
  | if_icmp cnd o => cases cnd <;> (dsimp only at h; split at h <;> cases h)
  | ifCond cnd o => cases cnd <;> (dsimp only at h; split at h <;> cases h)
  | _ =>
    exfalso
    dsimp only at h
    repeat' (split at h)
    all_goals first
      | (cases h; done)
      | (obtain ⟨_, h4⟩ := zcond h; cases h4; done)
      | skip
    all_goals first
      | (cases hb : Nat.beq cd 0 with
          | true => (rw [hb] at h; cases h; done)
          | false =>
            cases hb1 : Nat.beq cd 1 with
            | true => (rw [hb, hb1] at h; cases h; done)
            | false => (rw [hb, hb1] at h; cases h; done))
      | (cases hb : Nat.beq a 0 with
          | true => (rw [hb] at h; cases h; done)
          | false => (rw [hb] at h; cases h; done))
theorem toList_map {r : Option Value} (f : Value → Value) (st : List Value) : (r.toList ++ st).map f = (r.map f).toList ++ st.map f := by cases r <;> simp
set_option maxHeartbeats 8000000 in
theorem zcallst {p : Program} {l : Launch} {e : Env} {R : Room} {s : State} {m : MethodId} {args : Array Value} {below : List Frame} {meth : Method} {c : Code} {Q : State → Prop} {B0 : Nat} {D : va_G} {cs : Nat → ClassId} {xa : Nat → Nat} {k0 s0 M : Nat} (C : zCx B0 D cs xa p s m args meth c M) {d M1 pc pc1 : Nat} {lc : zC} {st st1 as : List Value} {σ σ1 : zH} {P : Prop} {r1 : Option Value} (h : zst (d + 1) M pc lc st σ = some (P, .inr (.inl (M1, as, pc1, st1)))) (hP : P) (hd : d + 1 ≤ R.frames ∧ 40 * (d + 1) ≤ R.locals) (hk : k0 ≤ zX σ ∧ s0 ≤ zL σ) (hmo : zX σ ≤ zX σ1 ∧ zL σ ≤ zL σ1) (hr : zX σ1 - k0 ≤ R.cells ∧ zL σ1 - s0 ≤ R.slots) (hmet : M1 < 205 → zwt as ≤ zml M1 → zmet l B0 D cs xa d M1 as σ r1 σ1) (k : zwW p l e R s m args below meth c Q B0 D cs xa k0 s0 M pc1 lc (r1.toList ++ st1) σ1) : zwW p l e R s m args below meth c Q B0 D cs xa k0 s0 M pc lc st σ := by
  unfold zst at h
  cases hz : zc M pc with
  | none => rw [hz] at h; cases h
  | some q =>
  obtain ⟨i, nx, a, b, cd, kd, v, sw⟩ := q
  rw [hz] at h
  obtain ⟨hM, ho⟩ := zc_ok hz
  obtain ⟨hdc0, hax⟩ := and2 ho
  have hdc : decode (zby M) pc = .ok (i, nx - pc) := of_decide_eq_true hdc0
  clear hdc0 ho
  obtain ⟨hx, hb, hml, hown, hw, hrt, hlk, hnm, hK, hXT, hsz⟩ := id C
  intro H locs ls hH hS hl
  have hroom : zX σ - k0 + (zX σ1 - zX σ) ≤ R.cells ∧ zL σ - s0 + (zL σ1 - zL σ) ≤ R.slots := by omega
  have fin : ∀ (H1 : Heap) (locs1 : List Loc), zHM B0 D cs σ1 H1 → va_S (zAA B0) s.heap H1 locs1 → W p l e R s m args below meth c H1 locs1 (zX σ - k0 + (zX σ1 - zX σ)) (zL σ - s0 + (zL σ1 - zL σ)) Q (F0 m pc1 ls ((r1.map (zV B0 xa)).toList ++ st1.map (zV B0 xa))) := by
    intro H1 locs1 hH1 hS1
    have h9 := k H1 locs1 ls hH1 hS1 hl
    rw [toList_map, show zX σ1 - k0 = zX σ - k0 + (zX σ1 - zX σ) by omega, show zL σ1 - s0 = zL σ - s0 + (zL σ1 - zL σ) by omega] at h9
    exact h9
  have pre : ∀ U : State, U.heap = H → s.WarmedH U.vm → zPc B0 D cs xa as σ (as.map (zV B0 xa)).toArray U := fun U hU hW => ⟨rfl, by rw [hU]; exact hH, hK.moved hW.alike, hXT.mv hW (fun a h1 h2 => by rw [hU]; exact hS.2.1 a h1 h2)⟩
  have hCB : ∀ {x n : Nat} {ret : Option FieldType}, M1 < 205 → zrt M1 = ret → Cond.methodLink (zcs (zcn M)) x (zyM M1) ∈ lw_tbl → zNp.getD M1 99 = n → CallB R s args (zcs (zcn M)) x (zyM M1) (zby M1) (zml M1) ret (zwsY (zyM M1) (zby M1) (zml M1) ret) (zrm d (zX σ1 - zX σ) (zL σ1 - zL σ)) (zX σ1 - zX σ) (zL σ1 - zL σ) n := by
    intro x n ret h1 h2 h3 h4
    subst h2
    subst h4
    obtain ⟨g1, g2, g3, g4⟩ := zm_name h1
    obtain ⟨w1, w2⟩ := zm_init h1
    exact callB_of _ (zhw_ts hw) (zgood (zm_code h1).1) rfl rfl rfl (hw _ w1 w2) (hw _ h3 rfl) ⟨g2, g3, g4⟩ ⟨by show d + 1 ≤ _; omega, by have := (zm_small h1).2.2; show 8 + (zml M1 + 11) + 40 * d ≤ _; omega⟩
  have objat : ∀ {r ci : Nat}, zK σ r = ci + 1 → ci < 13 → 1 ≤ r ∧ ∃ cellB : Cell, H[B0 + r]? = some cellB ∧ cellB.vm.isStatics = false ∧ s.vm.findClass (zcs ci) = some cellB.cls := by
    intro r ci h1 h2
    obtain ⟨C1, T1, N1, ty1, i1, -⟩ := zcl_ok ci h2
    obtain ⟨g1, g2, hat⟩ := hH.2 r (by omega)
    rw [zE_o h1 h2] at hat
    have hC : zcs ci = C1 := by unfold zcs; rw [i1]
    rw [hC]
    exact ⟨g1, va_recv hK (va_P_one hat) i1 (q0 := 0) rfl⟩
  cases i with
  | invokestatic x =>
    obtain ⟨h1, h2⟩ := and2 hax
    have e1 := Nat.eq_of_beq_eq_true h1
    subst e1
    rw [show pc + 3 - pc = 3 by omega] at hdc
    dsimp only at h
    split at h
    · split at h
      · rename_i as' st' hpp
        obtain ⟨h3, h4⟩ := zcond h
        obtain ⟨h5, h6⟩ := and2 h3
        have h5 := Nat.le_of_ble_eq_true h5
        have h6 := Nat.le_of_ble_eq_true h6
        obtain ⟨h7, h8⟩ := and2 h2
        obtain ⟨h8, h10⟩ := and2 h8
        have h8 := Nat.eq_of_beq_eq_true h8
        have h10 := of_decide_eq_true h10
        cases h4
        obtain ⟨q, hq, hq2⟩ := List.any_eq_true.mp h7
        obtain ⟨g1, g2, g3⟩ := zMl_ok q hq
        obtain ⟨q1, hq2⟩ := and2 hq2
        obtain ⟨q2, hq2⟩ := and2 hq2
        obtain ⟨q3, q4⟩ := and2 hq2
        have q1 := Nat.eq_of_beq_eq_true q1
        have q2 := Nat.eq_of_beq_eq_true q2
        have q3 := Nat.eq_of_beq_eq_true q3
        have q4 := Nat.eq_of_beq_eq_true q4
        rw [q4] at g2 g3
        rw [q3] at g1 g2 g3
        rw [q1, q2] at g2
        obtain ⟨wl, -⟩ := zwd_ok g2
        obtain ⟨ws1, ws2⟩ := zm_kind1 g1 g3
        obtain ⟨vs, v1, v2, v3⟩ := zpop_spec b hpp
        have v4 : st = as.reverse ++ st1 := by rw [v2, v3]; simp
        have hm := hmet g1 (by omega)
        refine z_go (va_runS (As := as.map (zV B0 xa)) (rest := st1.map (zV B0 xa)) ⟨hx, hb, hml, hown, zhw_ts hw⟩ hm ⟨hCB g1 rfl wl h8.symm, hw _ ws1 ws2⟩ ⟨zblind, pre⟩ rfl (by rw [List.length_map, v3]; simp [v1]) hl.1 (by show st.map _ = _; rw [v4, List.map_append, List.map_reverse]) (lv_room (by rw [zwt_map]; exact h5)) hdc hroom) hS fin
      · cases h
    · exfalso
      split at h
      · obtain ⟨_, h4⟩ := zcond h; cases h4
      · cases h
    · exfalso
      split at h
      · obtain ⟨_, h4⟩ := zcond h; cases h4
      · cases h
    · exfalso
      split at h
      · obtain ⟨_, h4⟩ := zcond h; cases h4
      · cases h
    · cases h
  | invokevirtual x =>
    obtain ⟨h1, h2⟩ := and2 hax
    have e1 := Nat.eq_of_beq_eq_true h1
    subst e1
    rw [show pc + 3 - pc = 3 by omega] at hdc
    dsimp only at h
    split at h
    · split at h
      · rename_i r as' st' hpp
        obtain ⟨h3, h4⟩ := zcond h
        obtain ⟨h5, h6⟩ := and2 h3
        have h5 := Nat.le_of_ble_eq_true h5
        have h6 := Nat.le_of_ble_eq_true h6
        obtain ⟨h7, h8⟩ := and2 h2
        obtain ⟨h8, h10⟩ := and2 h8
        obtain ⟨h10, h11⟩ := and2 h10
        have h8 := Nat.eq_of_beq_eq_true h8
        have h10 := of_decide_eq_true h10
        have h11 := Nat.eq_of_beq_eq_true h11
        cases h4
        obtain ⟨q, hq, hq2⟩ := List.any_eq_true.mp h7
        obtain ⟨g1, g2, g3⟩ := zMl_ok q hq
        obtain ⟨q1, hq2⟩ := and2 hq2
        obtain ⟨q2, hq2⟩ := and2 hq2
        obtain ⟨q3, q4⟩ := and2 hq2
        have q1 := Nat.eq_of_beq_eq_true q1
        have q2 := Nat.eq_of_beq_eq_true q2
        have q3 := Nat.eq_of_beq_eq_true q3
        have q4 := Nat.eq_of_beq_eq_true q4
        rw [q4] at g2 g3
        rw [q3] at g1 g2 g3
        rw [q1, q2] at g2
        obtain ⟨wl, -⟩ := zwd_ok g2
        obtain ⟨ws1, ws2⟩ := zm_inst g1 (by rw [g3]; decide)
        obtain ⟨ws3, ws4⟩ := zm_sel g1 g3
        obtain ⟨vs, v1, v2, v3⟩ := zpop_spec b hpp
        have v4 : st = as'.reverse ++ .ref r :: st1 := by
          have h12 : vs = as'.reverse ++ [.ref r] := by rw [List.append_nil] at v3; rw [← List.reverse_reverse vs, ← v3]; simp
          rw [v2, h12]; simp
        have v5 : as'.length = zNp.getD M1 99 := by have := congrArg List.length v3; simp [v1] at this; omega
        have hw6 : zwt (.ref r :: as') ≤ zml M1 := by
          have : zwt (.ref r :: as') = 1 + zwt as' := by simp [zwt, Value.category]
          omega
        have hm := hmet g1 hw6
        obtain ⟨hr1, hcell⟩ := objat (hP.trans h11) (zm_small g1).2.1
        have epos : zV B0 xa (.ref r) = .ref (B0 + r) := zV_pos B0 xa hr1
        have pre' : ∀ U : State, U.heap = H → s.WarmedH U.vm → zPc B0 D cs xa (.ref r :: as') σ (Value.ref (B0 + r) :: as'.map (zV B0 xa)).toArray U := by
          intro U hU hW
          have := pre U hU hW
          rw [List.map_cons, epos] at this
          exact this
        refine z_go (va_runV (C := zcs (zcn M1)) (b := B0 + r) (As := as'.map (zV B0 xa)) (rest := st1.map (zV B0 xa)) ⟨hx, hb, hml, hown, zhw_ts hw⟩ hm ⟨hCB g1 rfl wl rfl, hw _ ws1 ws2, hw _ ws3 ws4⟩ ⟨zblind, hcell, pre'⟩ rfl (by rw [List.length_map]; exact v5) hl.1 (by show st.map _ = _; rw [v4, List.map_append, List.map_reverse, List.map_cons, epos]) (lv_room (by rw [zwt_map]; exact h5)) hdc hroom) hS fin
      · cases h
    · exfalso
      split at h
      · obtain ⟨_, h4⟩ := zcond h; cases h4
      · cases h
    · cases h
  | invokespecial x =>
    obtain ⟨h1, h2⟩ := and2 hax
    have e1 := Nat.eq_of_beq_eq_true h1
    subst e1
    rw [show pc + 3 - pc = 3 by omega] at hdc
    dsimp only at h
    split at h
    · split at h
      · rename_i r as' st' hpp
        obtain ⟨h3, h4⟩ := zcond h
        obtain ⟨h5, h6⟩ := and2 h3
        have h5 := Nat.le_of_ble_eq_true h5
        have h6 := Nat.le_of_ble_eq_true h6
        obtain ⟨h7, h8⟩ := and2 h2
        obtain ⟨h8, h10⟩ := and2 h8
        obtain ⟨h10, h11⟩ := and2 h10
        have h8 := Nat.eq_of_beq_eq_true h8
        have h10 := of_decide_eq_true h10
        have h11 := Nat.eq_of_beq_eq_true h11
        cases h4
        obtain ⟨q, hq, hq2⟩ := List.any_eq_true.mp h7
        obtain ⟨g1, g2, g3⟩ := zMl_ok q hq
        obtain ⟨q1, hq2⟩ := and2 hq2
        obtain ⟨q2, hq2⟩ := and2 hq2
        obtain ⟨q3, q4⟩ := and2 hq2
        have q1 := Nat.eq_of_beq_eq_true q1
        have q2 := Nat.eq_of_beq_eq_true q2
        have q3 := Nat.eq_of_beq_eq_true q3
        have q4 := Nat.eq_of_beq_eq_true q4
        rw [q4] at g2 g3
        rw [q3] at g1 g2 g3
        rw [q1, q2] at g2
        obtain ⟨wl, -⟩ := zwd_ok g2
        obtain ⟨ws1, ws2⟩ := zm_inst g1 (by rw [g3]; decide)
        obtain ⟨cn1, cn2⟩ := zm_ctor g1 g3
        obtain ⟨vs, v1, v2, v3⟩ := zpop_spec b hpp
        have v4 : st = as'.reverse ++ .ref r :: st1 := by
          have h12 : vs = as'.reverse ++ [.ref r] := by rw [List.append_nil] at v3; rw [← List.reverse_reverse vs, ← v3]; simp
          rw [v2, h12]; simp
        have v5 : as'.length = zNp.getD M1 99 := by have := congrArg List.length v3; simp [v1] at this; omega
        have hw6 : zwt (.ref r :: as') ≤ zml M1 := by
          have : zwt (.ref r :: as') = 1 + zwt as' := by simp [zwt, Value.category]
          omega
        have hm := hmet g1 hw6
        unfold zmet at hm
        rw [cn2] at hm
        obtain ⟨hr1, -⟩ := objat (hP.trans h11) (zm_small g1).2.1
        have epos : zV B0 xa (.ref r) = .ref (B0 + r) := zV_pos B0 xa hr1
        have pre' : ∀ U : State, U.heap = H → s.WarmedH U.vm → zPc B0 D cs xa (.ref r :: as') σ (Value.ref (B0 + r) :: as'.map (zV B0 xa)).toArray U := by
          intro U hU hW
          have := pre U hU hW
          rw [List.map_cons, epos] at this
          exact this
        refine z_go (va_runI (b := B0 + r) (As := as'.map (zV B0 xa)) (rest := st1.map (zV B0 xa)) ⟨hx, hb, hml, hown, zhw_ts hw⟩ hm ⟨hCB g1 cn2 wl rfl, cn1, hw _ ws1 ws2⟩ ⟨zblind, pre'⟩ rfl (by rw [List.length_map]; exact v5) hl.1 (by show st.map _ = _; rw [v4, List.map_append, List.map_reverse, List.map_cons, epos]) (lv_room (by rw [zwt_map]; exact h5)) hdc hroom) hS fin
      · cases h
    · split at h
      · rename_i r as' st' hpp
        obtain ⟨h3, h4⟩ := zcond h
        obtain ⟨h5, h6⟩ := and2 h3
        have h5 := Nat.le_of_ble_eq_true h5
        have h6 := Nat.le_of_ble_eq_true h6
        obtain ⟨h7, h8⟩ := and2 h2
        obtain ⟨h8, h10⟩ := and2 h8
        obtain ⟨h10, h11⟩ := and2 h10
        have h8 := Nat.eq_of_beq_eq_true h8
        have h10 := of_decide_eq_true h10
        have h11 := Nat.eq_of_beq_eq_true h11
        cases h4
        obtain ⟨q, hq, hq2⟩ := List.any_eq_true.mp h7
        obtain ⟨g1, g2, g3⟩ := zMl_ok q hq
        obtain ⟨q1, hq2⟩ := and2 hq2
        obtain ⟨q2, hq2⟩ := and2 hq2
        obtain ⟨q3, q4⟩ := and2 hq2
        have q1 := Nat.eq_of_beq_eq_true q1
        have q2 := Nat.eq_of_beq_eq_true q2
        have q3 := Nat.eq_of_beq_eq_true q3
        have q4 := Nat.eq_of_beq_eq_true q4
        have hnest := hXT.2.1 q hq q4
        rw [q4] at g2 g3
        rw [q3] at g1 g2 g3 hnest
        rw [q1, q2] at hnest
        obtain ⟨ws1, ws2⟩ := zm_inst g1 (by rw [g3]; decide)
        obtain ⟨cn1, cn2⟩ := zm_ctor g1 g3
        obtain ⟨vs, v1, v2, v3⟩ := zpop_spec b hpp
        have v4 : st = as'.reverse ++ .ref r :: st1 := by
          have h12 : vs = as'.reverse ++ [.ref r] := by rw [List.append_nil] at v3; rw [← List.reverse_reverse vs, ← v3]; simp
          rw [v2, h12]; simp
        have v5 : as'.length = zNp.getD M1 99 := by have := congrArg List.length v3; simp [v1] at this; omega
        have hw6 : zwt (.ref r :: as') ≤ zml M1 := by
          have : zwt (.ref r :: as') = 1 + zwt as' := by simp [zwt, Value.category]
          omega
        have hm := hmet g1 hw6
        unfold zmet at hm
        rw [cn2] at hm
        obtain ⟨hr1, -⟩ := objat (hP.trans h11) (zm_small g1).2.1
        have epos : zV B0 xa (.ref r) = .ref (B0 + r) := zV_pos B0 xa hr1
        have pre' : ∀ U : State, U.heap = H → s.WarmedH U.vm → zPc B0 D cs xa (.ref r :: as') σ (Value.ref (B0 + r) :: as'.map (zV B0 xa)).toArray U := by
          intro U hU hW
          have := pre U hU hW
          rw [List.map_cons, epos] at this
          exact this
        obtain ⟨n1, n2, n3, n4⟩ := zm_name g1
        obtain ⟨wi1, wi2⟩ := zm_init g1
        have hcode := (zm_code g1).1
        rw [cn2] at hcode
        have hCN := va_cnB (R := R) (own := zcs (zcn M)) (index := x) (y := zyM M1) (ret := none) (maxL := zml M1) (rm := zrm d (zX σ1 - zX σ) (zL σ1 - zL σ)) (mc := zX σ1 - zX σ) (ms := zL σ1 - zL σ) _ (zhw_ts hw) (zgood hcode) rfl rfl rfl hnest (hw _ wi1 wi2) ⟨n2, n3, n4⟩ ⟨by show d + 1 ≤ _; omega, by have := (zm_small g1).2.2; show 8 + (zml M1 + 11) + 40 * d ≤ _; omega⟩
        refine z_go (va_runIN (b := B0 + r) (As := as'.map (zV B0 xa)) (rest := st1.map (zV B0 xa)) ⟨hx, hb, hml, hown, zhw_ts hw⟩ hm ⟨hCN, cn1, hw _ ws1 ws2⟩ ⟨zblind, pre'⟩ rfl (by rw [List.length_map]; exact v5) hl.1 (by show st.map _ = _; rw [v4, List.map_append, List.map_reverse, List.map_cons, epos]) (lv_room (by rw [zwt_map]; exact h5)) hdc hroom) hS fin
      · cases h
    · exfalso
      split at h
      · obtain ⟨_, h4⟩ := zcond h; cases h4
      · cases h
    · cases h
  | if_icmp cnd o => cases cnd <;> (dsimp only at h; split at h <;> cases h)
  | ifCond cnd o => cases cnd <;> (dsimp only at h; split at h <;> cases h)
  | _ =>
    exfalso
    dsimp only at h
    repeat' (split at h)
    all_goals first
      | (cases h; done)
      | (obtain ⟨_, h4⟩ := zcond h; cases h4; done)
      | skip
    all_goals first
      | (cases hb : Nat.beq cd 0 with
          | true => (rw [hb] at h; cases h; done)
          | false =>
            cases hb1 : Nat.beq cd 1 with
            | true => (rw [hb, hb1] at h; cases h; done)
            | false => (rw [hb, hb1] at h; cases h; done))
      | (cases hb : Nat.beq a 0 with
          | true => (rw [hb] at h; cases h; done)
          | false => (rw [hb] at h; cases h; done))
