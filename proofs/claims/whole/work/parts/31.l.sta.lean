/-! THE CLAIM OUT OF ONE WALK OF THE LAW'S BODY. Your part is whole_start (and what it stands on); all else here is the same for every law, but numbers. -/
def R_law : String := "ConjurerDeskLaw"
def lw_P (b : Addr) (xs : List Int32) (args : Array Value) (s : State) : Prop := args = #[.ref b] ∧ s.IntsAt b xs ∧ xs.length ≤ 3072 ∧ (Jvm.Cond.and given_1 narrow_1).before args s = true
def lw_Q (_ : Array Value) (s : State) (o : Outcome) (t : State) : Prop := o = .returned (some (.int 1)) ∧ Framed s o t [] 601024 7293034
def lw_Z (below : List Frame) (a : Array Value) (s : State) : State → Prop := fun t => ∃ o, t.status = .running ∧ Ended t below o ∧ lw_Q a s o t
/-- the law's own end, with 1 on the stack, nothing written that was there before, its room as the claim has it -/
theorem lw_ret {p : Program} {l : Launch} {e : Env} {s : State} {m : MethodId} {below : List Frame} {meth : Method} {c : Code} {b : Nat} (hx : p.tables.exec = Jvm.exec) (hb : c.code = code) (hr : meth.sig.returnType = ret) (hlocks : meth.locks = false) {pc : Nat} {H : Heap} {ls : Array Slot} (hdg : decode code pc = .ok (.ireturn, 1)) : W p l e room_1 s m #[Value.ref b] below meth c H [] 601024 7293034 (lw_Z below #[Value.ref b] s) (F0 m pc ls [.int 1]) := by
  intro T hT X
  obtain ⟨fs, hret, hrun, hended, hW, hframe⟩ := X.leave (v := some (.int 1)) (hlocks := hlocks) (fun h => by rw [hr] at h; cases h)
  have hmeth' : T.vm.method? m = some meth := X.method'
  refine ⟨T.setFrames fs, ?_, .returned (some (.int 1)), hrun, hended, rfl, ⟨_, rfl⟩, hW, hframe⟩
  jvm_step X.here [X.here.top, hx, hb, hdg, hmeth', hr, ret, narrow_b1]
  (try refine ⟨rfl, ?_⟩); (try refine ⟨rfl, ?_⟩)
  first | (intro acts; rw [hret _ acts rfl rfl rfl]) | rw [hret _ _ rfl rfl rfl]
  exact Steps.refl _
/-- what holds at the law's entry: the machine, the code, the tables' words (any of lw_tbl by 'hts w (by decide +kernel)'), the script of L ints xs at the cell b, what the Statement gives of the start (any of its parts by flat_of_before) -/
def lw_At (p : Program) (s : State) (m : MethodId) (meth : Method) (c : Code) (b L : Nat) (xs : Nat → Int32) : Prop :=
  p.tables.exec = Jvm.exec ∧ c.code = code ∧ meth.sig.returnType = ret ∧ c.maxLocals = 7 ∧ s.vm.findClass R_law = some m.cls ∧ (∀ w ∈ lw_tbl, w.before #[Value.ref b] s = true) ∧ va_X b L xs s s.heap ∧ b < s.heap.size ∧ meth.locks = false ∧ (Jvm.Cond.and given_1 narrow_1).before #[Value.ref b] s = true
/-! the walk of the law's body -/
def zh0 : zH := (fun _ => 0, fun _ => 0, fun _ _ => 0, fun _ _ => 0, fun _ _ => 0, fun _ _ => 0, fun _ _ => 0, fun _ _ => 0, 0, 0)
theorem zw_new : Cond.classLink "ConjurerDeskLaw" 8 (zcs 11) ∈ lw_tbl ∧ Cond.instantiable (zcs 11) 15 ∈ lw_tbl ∧ Cond.initialized (zcs 11) ∈ lw_tbl ∧ Cond.classLink "ConjurerDeskLaw" 21 (zcs 12) ∈ lw_tbl ∧ Cond.instantiable (zcs 12) 63 ∈ lw_tbl ∧ Cond.initialized (zcs 12) ∈ lw_tbl ∧ Cond.methodLink "ConjurerDeskLaw" 20 (zyM 105) ∈ lw_tbl ∧ Cond.methodLink "ConjurerDeskLaw" 23 (zyM 131) ∈ lw_tbl := by decide +kernel
theorem z105 {σ : zH} (h : zNo σ 1 12) : zM 60 105 [.ref 1] σ (fun r1 σ1 => (zX σ1 = zX σ + 158 ∧ zL σ1 = zL σ + 88801) ∧ r1 = none ∧ zX σ1 = 159 ∧ zIC σ1 zm0) := by
  have hx := h.1
  refine g105 (d := 56) h (fun τ h1 h2 h3 => ⟨⟨?_, h2⟩, rfl, h1, h3⟩)
  rw [h1, hx]
theorem z131 {σ : zH} (h : zNo σ 160 13) : zM 60 131 [.ref 160] σ (fun r1 σ1 => (zX σ1 = zX σ + 26 ∧ zL σ1 = zL σ + 94808) ∧ r1 = none ∧ zX σ1 = 186 ∧ zIR σ1 zm0 ∧ ∀ b, b < 160 → zEo b σ σ1) := by
  have hx := h.1
  refine g131 (d := 59) h (fun τ h1 h2 h3 h4 => ⟨⟨?_, h2⟩, rfl, h1, h4, h3⟩)
  rw [h1, hx]
set_option maxHeartbeats 2000000 in
theorem whole_start {p : Program} {e : Env} {s : State} {m : MethodId} {below : List Frame} {meth : Method} {c : Code} (l : Launch) (hlt : l.stackTraces = false) {b L : Nat} {xs : Nat → Int32} (hL : L ≤ 3072) (C0 : lw_At p s m meth c b L xs) : W p l e room_1 s m #[Value.ref b] below meth c s.heap [] 0 0 (lw_Z below #[Value.ref b] s) (entryFrame m ([Value.ref b] : List Value).toArray 7) := by
  obtain ⟨hx, hb, hr, hml, hown, hts, hX, hbl, hlocks, hgv⟩ := id C0
  obtain ⟨B0, hB⟩ : ∃ B0 : Nat, s.heap.size = B0 + 1 := ⟨s.heap.size - 1, by omega⟩
  obtain ⟨D, cs, hK⟩ := zK_start hts
  obtain ⟨xa, hXT, hXS⟩ := zXT_start hB hts hgv
  have hw : ∀ w ∈ lw_tbl, goodWord w = true → w.before #[Value.ref b] s = true := fun w h _ => hts w h
  have hown : s.vm.findClass "ConjurerDeskLaw" = some m.cls := hown
  have C : zOC B0 D cs xa p s m #[Value.ref b] c "ConjurerDeskLaw" code 7 := ⟨hx, hb, hml, hown, hw, hK, hXT⟩
  have K : zLK p s m #[Value.ref b] c room_1 B0 D cs xa b L xs := ⟨C, ⟨hX, hbl, hB, hL⟩, ⟨by decide, by decide⟩, hXS⟩
  obtain ⟨n1, n2, n3, n4, n5, n6, n7, n8⟩ := zw_new
  have go : ∀ ls : Array Slot, lv_has ls 7 [(0, .ref b)] → W p l e room_1 s m #[Value.ref b] below meth c s.heap [] 0 0 (lw_Z below #[Value.ref b] s) (F0 m 0 ls []) := by
    intro ls hl
    have hH0 : zHM B0 D cs zh0 s.heap := ⟨hB, fun a ha => absurd rfl ha⟩
    refine z_newo (xa := xa) hx hb hw hown hK hH0 va_S.rf (ci := 11) (n := 15) (by omega) n1 n2 n3 rfl (by decide) (by decide) d_law_0 (fun H1 hH1 hS1 => ?_)
    obtain ⟨σ1, e1⟩ : ∃ σ1, σ1 = znw zh0 12 15 0 := ⟨_, rfl⟩
    have hn1 : zNo σ1 1 12 := by rw [e1, znw_b (y := 1) 12 15 0 rfl]; exact zNo_na
    have hH1 : zHM B0 D cs σ1 H1 := by rw [e1]; exact hH1
    clear e1
    show W p l e room_1 s m #[Value.ref b] below meth c H1 [] 1 15 (lw_Z below #[Value.ref b] s) (F0 m 3 ls [.ref (B0 + 1)])
    refine lv_dup hx hb d_law_3 rfl ?_
    refine zl_I C hH1 hS1 hl.1 (M1 := 105) (r := 1) (k := 158) (n := 88801) (as := []) (rest := [.ref (B0 + 1)]) (by omega) rfl n7 rfl hn1.2.1 (show 1 ≤ zml 105 by decide) (show 1 ≤ 8 by omega) rfl d_law_4 (d := 60) ⟨by decide, by decide⟩ ⟨by decide, by decide⟩ (z105 hn1) ?_
    intro r1 τ1 H2 locs2 hq hH2 hS2
    obtain ⟨rfl, x1, hI1⟩ := hq
    show W p l e room_1 s m #[Value.ref b] below meth c H2 locs2 (1 + 158) (15 + 88801) (lw_Z below #[Value.ref b] s) (F0 m 7 ls [.ref (B0 + 1)])
    refine lv_astore_n hx hb d_law_7 (i := 1) rfl (lv' := [(1, .ref (B0 + 1)), (0, .ref b)]) hl (by omega) rfl (fun ls1 hl1 => ?_)
    refine z_newo (xa := xa) hx hb hw hown hK hH2 hS2 (ci := 12) (n := 63) (by omega) n4 n5 n6 rfl (by decide) (by decide) d_law_8 (fun H3 hH3 hS3 => ?_)
    rw [x1, zV_pos B0 xa (by omega)]
    obtain ⟨σ2, e2⟩ : ∃ σ2, σ2 = znw τ1 13 63 0 := ⟨_, rfl⟩
    have ez : znw τ1 13 63 0 = zna τ1 160 13 63 0 := znw_b (y := 160) 13 63 0 (by rw [x1])
    have hn2 : zNo σ2 160 13 := by rw [e2, ez]; exact zNo_na
    have hE2 : ∀ b, b < 160 → zEo b τ1 σ2 := fun b hb => by rw [e2, ez]; exact zEo_na (by omega)
    have hH3 : zHM B0 D cs σ2 H3 := by rw [e2]; exact hH3
    clear e2 ez
    show W p l e room_1 s m #[Value.ref b] below meth c H3 locs2 (1 + 158 + 1) (15 + 88801 + 63) (lw_Z below #[Value.ref b] s) (F0 m 11 ls1 [.ref (B0 + 160)])
    refine lv_dup hx hb d_law_11 rfl ?_
    refine zl_I C hH3 hS3 hl1.1 (M1 := 131) (r := 160) (k := 26) (n := 94808) (as := []) (rest := [.ref (B0 + 160)]) (by omega) rfl n8 rfl hn2.2.1 (show 1 ≤ zml 131 by decide) (show 1 ≤ 8 by omega) rfl d_law_12 (d := 60) ⟨by decide, by decide⟩ ⟨by decide, by decide⟩ (z131 hn2) ?_
    intro r2 τ2 H4 locs4 hq hH4 hS4
    obtain ⟨rfl, x2, hR2, hE3⟩ := hq
    have hI2 : zIC τ2 zm0 := zIC_e0 (fun b hb => zEo_t (hE2 b hb) (hE3 b hb)) hI1
    show W p l e room_1 s m #[Value.ref b] below meth c H4 locs4 (1 + 158 + 1 + 26) (15 + 88801 + 63 + 94808) (lw_Z below #[Value.ref b] s) (F0 m 15 ls1 [.ref (B0 + 160)])
    refine lv_astore_n hx hb d_law_15 (i := 2) rfl (lv' := [(2, .ref (B0 + 160)), (1, .ref (B0 + 1)), (0, .ref b)]) hl1 (by omega) rfl (fun ls2 hl2 => ?_)
    refine lv_iconst hx hb d_law_16 (v := nI 1) rfl ?_
    refine z_newa (xa := xa) hx hb hw hK hH4 hS4 (by omega) (n := nI 1) (k := 21) (Or.inr (Or.inl ⟨rfl, rfl⟩)) (by decide) (by decide) (by decide) (by decide) d_law_17 (fun H5 hH5 hS5 => ?_)
    rw [x2, zV_pos B0 xa (by omega)]
    have c1 : (nI 1).toNatClampNeg = 1 := rfl
    rw [c1] at hH5 ⊢
    obtain ⟨σ3, e3⟩ : ∃ σ3, σ3 = znw τ2 21 1 1 := ⟨_, rfl⟩
    have ez : znw τ2 21 1 1 = zna τ2 187 21 1 1 := znw_b (y := 187) 21 1 1 (by rw [x2])
    have hE4 : ∀ b, b < 187 → zEo b τ2 σ3 := fun b hb => by rw [e3, ez]; exact zEo_na (by omega)
    have k7 : zK σ3 187 = 21 := by rw [e3, ez]; exact zK_ne
    have n7' : zN σ3 187 = 1 := by rw [e3, ez]; exact zN_ne
    have hH5 : zHM B0 D cs σ3 H5 := by rw [e3]; exact hH5
    clear e3 ez
    have hv : zLv σ3 := ⟨zm0, zIC_e0 (fun b hb => hE4 b (by omega)) hI2, zIR_e (fun b _ h2 => hE4 b h2) hR2, zMok_0, k7, n7'⟩
    show W p l e room_1 s m #[Value.ref b] below meth c H5 locs4 (1 + 158 + 1 + 26 + 1) (15 + 88801 + 63 + 94808 + 1) (lw_Z below #[Value.ref b] s) (F0 m 19 ls2 [.ref (B0 + 187)])
    refine lv_astore_n hx hb d_law_19 (i := 3) rfl (lv' := [(3, .ref (B0 + 187)), (2, .ref (B0 + 160)), (1, .ref (B0 + 1)), (0, .ref b)]) hl2 (by omega) rfl (fun ls3 hl3 => ?_)
    refine lv_iconst hx hb d_law_20 (v := nI 0) rfl ?_
    refine lv_istore hx hb d_law_21 (lv' := zll B0 b 0) hl3 (by omega) rfl (fun ls4 hl4 => ?_)
    have q1 : room_1.cells = 601024 := rfl
    have q2 : room_1.slots = 7293034 := rfl
    refine zl_loop K hlt (fun H locs ls cells slots h1 h2 hS => ?_) 512 0 _ _ σ3 H5 locs4 ls4 (by omega) (Nat.zero_le _) (by rw [q1]; decide) (by rw [q2]; decide) hl4 hv hH5 hS5
    refine lv_iconst hx hb d_law_629 (v := 1) rfl ?_
    refine va_forget (fun q hq => by have h9 : B0 + 1 ≤ q.base := hS.2.2 q hq; omega) ?_
    refine W.widen (k := 601024) (n := 7293034) (by rw [← q1]; exact h1) (by rw [← q2]; exact h2) ?_
    exact lw_ret hx hb hr hlocks d_law_630
  rw [lg_entry_eq]
  exact go _ (lv_entry [.ref b] (n := 7) (by show 1 ≤ 7; omega))
