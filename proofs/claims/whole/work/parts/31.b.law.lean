/-! calls out of a method that is no method of the abstract machine -/
theorem zmet_run {l : Launch} {B0 : Nat} {D : va_G} {cs : Nat → ClassId} {xa : Nat → Nat} {n d M : Nat} {as : List Value} {σ σ1 : zH} {r1 : Option Value} (hM1 : M < 205) (hwt : zwt as ≤ zml M) (g1 : zrun n d M 0 (lv_args 0 as) [] σ r1 σ1) : zmet l B0 D cs xa d M as σ r1 σ1 := by
  refine Met.ofW (cc := zby M) (maxL := zml M) (ret := zrt M) (zm_small hM1).1 rfl ?_
  intro p e s m args below meth c s₁ B hml hv
  obtain ⟨rfl, v1, v2, v3⟩ := hv
  have hw := zwsY_hw (atoms_spec (ws := zwsY (zyM M) (zby M) (zml M) (zrt M)) B.pre)
  have hown : s.vm.findClass (zcs (zcn M)) = some m.cls := by
    have := findClass_of_methodNamed B.named
    rw [(zm_name hM1).1] at this
    exact this
  have hnm : (zyM M).name = "<init>" → meth.name = "<init>" := fun h => (name_of_methodNamed B.named B.method).1.trans h
  have C1 : zCx B0 D cs xa p s m (as.map (zV B0 xa)).toArray meth c M := ⟨B.exec, B.bytes, hml, hown, hw, B.returns, B.notSynchronized, hnm, v2, v3, by rw [v1.1]; omega⟩
  have hls : (lg_sl (as.map (zV B0 xa))).length = zwt as := by
    rw [← zwt_map B0 xa]
    exact lg_len _
  have hl := lv_entry (as.map (zV B0 xa)) (n := zml M) (by rw [hls]; exact hwt)
  rw [lg_entry_eq]
  have h9 := zsim n g1 (p := p) (l := l) (e := e) (R := (headSpec (zwsY (zyM M) (zby M) (zml M) (zrt M)) (zrm d (zX σ1 - zX σ) (zL σ1 - zL σ))).room) (s := s) (m := m) (below := below) (meth := meth) (c := c) (k0 := zX σ) (s0 := zL σ) C1 ⟨Nat.le_refl _, Nat.le_refl _⟩ ⟨Nat.le_refl _, Nat.le_refl _⟩ ⟨Nat.le_refl _, Nat.le_refl _⟩ s.heap [] _ v1 va_S.rf (by rw [← lv_args_map]; exact hl)
  rw [Nat.sub_self, Nat.sub_self] at h9
  exact h9
/-- what a caller outside has -/
def zOC (B0 : Nat) (D : va_G) (cs : Nat → ClassId) (xa : Nat → Nat) (p : Program) (s : State) (m : MethodId) (args : Array Value) (c : Code) (own : String) (cc : ByteArray) (nL : Nat) : Prop :=
  p.tables.exec = Jvm.exec ∧ c.code = cc ∧ c.maxLocals = nL ∧ s.vm.findClass own = some m.cls ∧ (∀ w ∈ lw_tbl, goodWord w = true → w.before args s = true) ∧ va_K D zCl (zAt cs) s ∧ zXT B0 xa s
theorem zobjat {B0 : Nat} {D : va_G} {cs : Nat → ClassId} {σ : zH} {H : Heap} {s : State} (hH : zHM B0 D cs σ H) (hK : va_K D zCl (zAt cs) s) {r ci : Nat} (h1 : zK σ r = ci + 1) (h2 : ci < 13) : 1 ≤ r ∧ ∃ cellB : Cell, H[B0 + r]? = some cellB ∧ cellB.vm.isStatics = false ∧ s.vm.findClass (zcs ci) = some cellB.cls := by
  obtain ⟨C1, T1, N1, ty1, i1, -⟩ := zcl_ok ci h2
  obtain ⟨g1, g2, hat⟩ := hH.2 r (by omega)
  rw [zE_o h1 h2] at hat
  have hC : zcs ci = C1 := by unfold zcs; rw [i1]
  rw [hC]
  exact ⟨g1, va_recv hK (va_P_one hat) i1 (q0 := 0) rfl⟩
section ZLV
variable {p : Program} {l : Launch} {e : Env} {R : Room} {s : State} {m : MethodId} {args : Array Value} {below : List Frame} {meth : Method} {c : Code} {H : Heap} {locs : List Loc} {cells slots : Nat} {Q : State → Prop}
variable {cc : ByteArray} {pc nL : Nat} {ls : Array Slot} {rest st0 : List Value} {B0 : Nat} {D : va_G} {cs : Nat → ClassId} {xa : Nat → Nat} {σ : zH} {own : String}
theorem zl_pre (C : zOC B0 D cs xa p s m args c own cc nL) (hH : zHM B0 D cs σ H) (hS : va_S (zAA B0) s.heap H locs) {r : Nat} {as : List Value} (hr : 1 ≤ r) : ∀ U : State, U.heap = H → s.WarmedH U.vm → zPc B0 D cs xa (.ref r :: as) σ (Value.ref (B0 + r) :: as.map (zV B0 xa)).toArray U := by
  obtain ⟨hx, hb, hml, hown, hw, hK, hXT⟩ := id C
  intro U hU hW
  refine ⟨?_, by rw [hU]; exact hH, hK.moved hW.alike, hXT.mv hW (fun a h1 h2 => by rw [hU]; exact hS.2.1 a h1 h2)⟩
  rw [List.map_cons, zV_pos B0 xa hr]
theorem zl_V (C : zOC B0 D cs xa p s m args c own cc nL) (hH : zHM B0 D cs σ H) (hS : va_S (zAA B0) s.heap H locs) (hls : ls.size = nL) {M1 x r : Nat} {as : List Value} {Q0 : Option Value → zH → Prop} (g1 : M1 < 205) (hk : zkd M1 = 0) (hlink : Cond.methodLink own x (zyM M1) ∈ lw_tbl) (hn : as.length = zNp.getD M1 99) (hkk : zK σ r = zcn M1 + 1) (hw6 : zwt (.ref r :: as) ≤ zml M1) (h8 : (rest.map fun v => v.category).sum ≤ 8) (hst : st0 = (as.map (zV B0 xa)).reverse ++ .ref (B0 + r) :: rest) (hdc : decode cc pc = .ok (.invokevirtual x, 3)) {d : Nat} (hd : d + 1 ≤ R.frames ∧ 40 * (d + 1) ≤ R.locals) (hroom : cells ≤ R.cells ∧ slots ≤ R.slots) (hz : zM d M1 (.ref r :: as) σ (fun r1 σ1 => (zX σ1 = zX σ ∧ zL σ1 = zL σ) ∧ Q0 r1 σ1))
    (kk : ∀ (r1 : Option Value) (σ1 : zH) (H1 : Heap) (locs1 : List Loc), Q0 r1 σ1 → zHM B0 D cs σ1 H1 → va_S (zAA B0) s.heap H1 locs1 → W p l e R s m args below meth c H1 locs1 cells slots Q (F0 m (pc + 3) ls ((r1.map (zV B0 xa)).toList ++ rest))) : W p l e R s m args below meth c H locs cells slots Q (F0 m pc ls st0) := by
  obtain ⟨hx, hb, hml, hown, hw, hK, hXT⟩ := id C
  obtain ⟨n, r1, σ1, hrun, ⟨hX1, hL1⟩, hq⟩ := hz
  have hm := zmet_run (l := l) (B0 := B0) (D := D) (cs := cs) (xa := xa) g1 hw6 hrun
  obtain ⟨n2, n3, n4, n5⟩ := zm_name g1
  obtain ⟨w1, w2⟩ := zm_init g1
  obtain ⟨ws1, ws2⟩ := zm_inst g1 (by rw [hk]; decide)
  obtain ⟨ws3, ws4⟩ := zm_sel g1 hk
  have hCB : CallB R s args own x (zyM M1) (zby M1) (zml M1) (zrt M1) (zwsY (zyM M1) (zby M1) (zml M1) (zrt M1)) (zrm d (zX σ1 - zX σ) (zL σ1 - zL σ)) (zX σ1 - zX σ) (zL σ1 - zL σ) (zNp.getD M1 99) := callB_of _ (zhw_ts hw) (zgood (zm_code g1).1) rfl rfl rfl (hw _ w1 w2) (hw _ hlink rfl) ⟨n3, n4, n5⟩ ⟨by show d + 1 ≤ _; omega, by have := (zm_small g1).2.2; show 8 + (zml M1 + 11) + 40 * d ≤ _; omega⟩
  obtain ⟨hr1, hcell⟩ := zobjat hH hK hkk (zm_small g1).2.1
  refine z_go (va_runV (C := zcs (zcn M1)) (b := B0 + r) (As := as.map (zV B0 xa)) (rest := rest) ⟨hx, hb, hml, hown, zhw_ts hw⟩ hm ⟨hCB, hw _ ws1 ws2, hw _ ws3 ws4⟩ ⟨zblind, hcell, zl_pre C hH hS hr1⟩ rfl (by rw [List.length_map]; exact hn) hls hst (lv_room h8) hdc (by omega)) hS ?_
  intro H1 locs1 hH1 hS1
  rw [show zX σ1 - zX σ = 0 by omega, show zL σ1 - zL σ = 0 by omega]
  exact kk r1 σ1 H1 locs1 hq hH1 hS1
theorem zl_I (C : zOC B0 D cs xa p s m args c own cc nL) (hH : zHM B0 D cs σ H) (hS : va_S (zAA B0) s.heap H locs) (hls : ls.size = nL) {M1 x r k n : Nat} {as : List Value} {Q0 : Option Value → zH → Prop} (g1 : M1 < 205) (hk : zkd M1 = 2) (hlink : Cond.methodLink own x (zyM M1) ∈ lw_tbl) (hn : as.length = zNp.getD M1 99) (hkk : zK σ r = zcn M1 + 1) (hw6 : zwt (.ref r :: as) ≤ zml M1) (h8 : (rest.map fun v => v.category).sum ≤ 8) (hst : st0 = (as.map (zV B0 xa)).reverse ++ .ref (B0 + r) :: rest) (hdc : decode cc pc = .ok (.invokespecial x, 3)) {d : Nat} (hd : d + 1 ≤ R.frames ∧ 40 * (d + 1) ≤ R.locals) (hroom : cells + k ≤ R.cells ∧ slots + n ≤ R.slots) (hz : zM d M1 (.ref r :: as) σ (fun r1 σ1 => (zX σ1 = zX σ + k ∧ zL σ1 = zL σ + n) ∧ Q0 r1 σ1))
    (kk : ∀ (r1 : Option Value) (σ1 : zH) (H1 : Heap) (locs1 : List Loc), Q0 r1 σ1 → zHM B0 D cs σ1 H1 → va_S (zAA B0) s.heap H1 locs1 → W p l e R s m args below meth c H1 locs1 (cells + k) (slots + n) Q (F0 m (pc + 3) ls ((r1.map (zV B0 xa)).toList ++ rest))) : W p l e R s m args below meth c H locs cells slots Q (F0 m pc ls st0) := by
  obtain ⟨hx, hb, hml, hown, hw, hK, hXT⟩ := id C
  obtain ⟨n', r1, σ1, hrun, ⟨hX1, hL1⟩, hq⟩ := hz
  have hm := zmet_run (l := l) (B0 := B0) (D := D) (cs := cs) (xa := xa) g1 hw6 hrun
  obtain ⟨n2, n3, n4, n5⟩ := zm_name g1
  obtain ⟨w1, w2⟩ := zm_init g1
  obtain ⟨ws1, ws2⟩ := zm_inst g1 (by rw [hk]; decide)
  obtain ⟨cn1, cn2⟩ := zm_ctor g1 hk
  unfold zmet at hm
  rw [cn2] at hm
  have hcode := (zm_code g1).1
  rw [cn2] at hcode
  have hCB : CallB R s args own x (zyM M1) (zby M1) (zml M1) none (zwsY (zyM M1) (zby M1) (zml M1) none) (zrm d (zX σ1 - zX σ) (zL σ1 - zL σ)) (zX σ1 - zX σ) (zL σ1 - zL σ) (zNp.getD M1 99) := callB_of _ (zhw_ts hw) (zgood hcode) rfl rfl rfl (hw _ w1 w2) (hw _ hlink rfl) ⟨n3, n4, n5⟩ ⟨by show d + 1 ≤ _; omega, by have := (zm_small g1).2.2; show 8 + (zml M1 + 11) + 40 * d ≤ _; omega⟩
  obtain ⟨hr1, -⟩ := zobjat hH hK hkk (zm_small g1).2.1
  refine z_go (va_runI (b := B0 + r) (As := as.map (zV B0 xa)) (rest := rest) ⟨hx, hb, hml, hown, zhw_ts hw⟩ hm ⟨hCB, cn1, hw _ ws1 ws2⟩ ⟨zblind, zl_pre C hH hS hr1⟩ rfl (by rw [List.length_map]; exact hn) hls hst (lv_room h8) hdc (by omega)) hS ?_
  intro H1 locs1 hH1 hS1
  rw [show zX σ1 - zX σ = k by omega, show zL σ1 - zL σ = n by omega]
  exact kk r1 σ1 H1 locs1 hq hH1 hS1
end ZLV
/-! more cells behind the abstract heap's -/
def zbp (σ : zH) (k : Nat) : zH := (zK σ, zN σ, zI σ, zJ σ, zQ σ, zA σ, zB σ, zS σ, zX σ + k, zL σ)
theorem zHM_bp {B0 : Nat} {D : va_G} {cs : Nat → ClassId} {σ : zH} {H H1 : Heap} (h : zHM B0 D cs σ H) (hz : H.size ≤ H1.size) (ho : ∀ q : Nat, q < H.size → H1[q]? = H[q]?) : zHM B0 D cs (zbp σ (H1.size - H.size)) H1 := by
  have hs := h.1
  refine ⟨by show H1.size = B0 + 1 + (zX σ + (H1.size - H.size)); omega, fun a ha => ?_⟩
  obtain ⟨h1, h2, h3⟩ := h.2 a ha
  refine ⟨h1, by show a ≤ zX σ + _; omega, ?_⟩
  exact va_at.kept (q := (B0 + a, zE B0 cs σ a)) h3 (ho _ (by show B0 + a < H.size; omega))
theorem zEo_bp {b k : Nat} {σ : zH} : zEo b σ (zbp σ k) := ⟨rfl, rfl, rfl, rfl, rfl, rfl, rfl, rfl⟩
theorem zCls_bp {σ : zH} {o n : Nat} : ∀ (i : Nat) (cs : List zCd), zCls σ o i cs → zCls (zbp σ n) o i cs
  | _, [], _ => trivial
  | i, _ :: cs, h => ⟨h.1, zCls_bp (i + 1) cs h.2⟩
theorem zCS_bp {σ : zH} {T k n : Nat} {s : zStp} (h : zCS σ T k s) : zCS (zbp σ n) T k s := by
  obtain ⟨a1, a2, a3, a4, a5, a6, a7, a8⟩ := h
  refine ⟨a1, a2, a3, a4, a5, a6, a7, fun q => ?_⟩
  obtain ⟨b1, i, b2, b3, b4, b5, b6⟩ := a8 q
  exact ⟨b1, i, b2, b3, b4, zCls_bp _ _ b5, b6⟩
theorem zIC_bp {n : Nat} {σ : zH} {m : zMS} (h : zIC σ m) : zIC (zbp σ n) m := by
  obtain ⟨T, T', o, o', a1, a2, a3, a4, a5, a6, a7, a8, ⟨⟨b1, b2, b3, b4⟩, b5⟩, ⟨⟨c1, c2, c3, c4, c5⟩, c6⟩⟩ := h
  have k1 : zc1 (zbp σ n) T T' o o' (zmR m) := a1
  have k2 : zTp (zbp σ n) (zmB m) := a2
  have k3 : zc4 (zbp σ n) (zmN m) (zmD m) (zmr m) := a3
  have k4 : zc9 (zbp σ n) (zmf m) := a4
  have k5 : zTb (zbp σ n) 14 := a5
  have k6 : zc18 (zbp σ n) := a6
  have k7 : zc54 (zbp σ n) (zmP m) (zmT m) := a7
  have k8 : zc59 (zbp σ n) := a8
  exact ⟨T, T', o, o', k1, k2, k3, k4, k5, k6, k7, k8, ⟨⟨b1, b2, b3, fun k hk => zCS_bp (b4 k hk)⟩, b5⟩, ⟨⟨c1, c2, c3, zCls_bp _ _ c4, c5⟩, c6⟩⟩
/-- the reference's objects as they were -/
theorem zIR_e {σ τ : zH} (f : ∀ b, 160 ≤ b → b < 187 → zEo b σ τ) {m : zMS} (hc : zIR σ m) : zIR τ m := by
  obtain ⟨bk, cb, a1, a2, a3, a4, a5, a6, a7, a8⟩ := hc
  have f0 := f 160 (by omega) (by omega)
  refine ⟨bk, cb, ?_, ?_, ?_, ?_, ?_, by rw [f0.2.2.1]; exact a6, ?_, ?_⟩
  · unfold zMb at *
    rw [(f 160 (by omega) (by omega)).1, (f 161 (by omega) (by omega)).1, (f 161 (by omega) (by omega)).2.1, (f 162 (by omega) (by omega)).1, (f 162 (by omega) (by omega)).2.1, (f 163 (by omega) (by omega)).1, (f 163 (by omega) (by omega)).2.1, (f 164 (by omega) (by omega)).1, (f 164 (by omega) (by omega)).2.1, (f 165 (by omega) (by omega)).1, (f 165 (by omega) (by omega)).2.1, (f 166 (by omega) (by omega)).1, (f 166 (by omega) (by omega)).2.1, (f 167 (by omega) (by omega)).1, (f 167 (by omega) (by omega)).2.1, (f 168 (by omega) (by omega)).1, (f 168 (by omega) (by omega)).2.1, (f 169 (by omega) (by omega)).1, (f 169 (by omega) (by omega)).2.1, (f 170 (by omega) (by omega)).1, (f 170 (by omega) (by omega)).2.1, (f 171 (by omega) (by omega)).1, (f 171 (by omega) (by omega)).2.1, (f 172 (by omega) (by omega)).1, (f 172 (by omega) (by omega)).2.1, (f 173 (by omega) (by omega)).1, (f 173 (by omega) (by omega)).2.1, (f 174 (by omega) (by omega)).1, (f 174 (by omega) (by omega)).2.1, (f 175 (by omega) (by omega)).1, (f 175 (by omega) (by omega)).2.1, (f 176 (by omega) (by omega)).1, (f 176 (by omega) (by omega)).2.1, (f 177 (by omega) (by omega)).1, (f 177 (by omega) (by omega)).2.1, (f 178 (by omega) (by omega)).1, (f 178 (by omega) (by omega)).2.1, (f 179 (by omega) (by omega)).1, (f 179 (by omega) (by omega)).2.1, (f 180 (by omega) (by omega)).1, (f 180 (by omega) (by omega)).2.1, (f 181 (by omega) (by omega)).1, (f 181 (by omega) (by omega)).2.1, (f 182 (by omega) (by omega)).1, (f 182 (by omega) (by omega)).2.1, (f 183 (by omega) (by omega)).1, (f 183 (by omega) (by omega)).2.1, (f 184 (by omega) (by omega)).1, (f 184 (by omega) (by omega)).2.1, (f 185 (by omega) (by omega)).1, (f 185 (by omega) (by omega)).2.1, (f 186 (by omega) (by omega)).1, (f 186 (by omega) (by omega)).2.1, (f 160 (by omega) (by omega)).2.2.2.2.1]
    exact a1
  · unfold zrT zRtp at *
    rw [f0.2.2.1, (f 161 (by omega) (by omega)).2.2.2.2.2.1]
    exact a2
  · unfold zrD zDR at *
    rw [f0.2.2.1, (f 162 (by omega) (by omega)).2.2.2.2.2.1, (f 163 (by omega) (by omega)).2.2.2.2.2.1, (f 164 (by omega) (by omega)).2.2.2.2.2.1, (f 165 (by omega) (by omega)).2.2.2.2.2.1]
    exact a3
  · exact zRkb_m (by rw [f0.2.2.1]) (by rw [f0.2.2.1]) (fun a l1 l2 i _ _ => by rw [(f a (by omega) (by omega)).2.2.2.2.2.1, (f a (by omega) (by omega)).2.2.2.2.2.2.1]; exact ⟨rfl, rfl⟩) (fun a l1 l2 i _ _ => by rw [(f a (by omega) (by omega)).2.2.2.2.2.1]) a4
  · exact zRcb_k (by rw [f0.2.2.1]) (by rw [f0.2.2.1]) (fun a l1 l2 i _ _ => by rw [(f a (by omega) (by omega)).2.2.2.2.2.1]) a5
  · unfold zrP at *
    rw [f0.2.2.1, f0.2.2.2.1]
    exact a7
  · unfold zrRn at *
    rw [f0.2.2.1, f0.2.2.2.1]
    exact a8
