/-! the class's own throws -/
def zXS (B0 : Nat) (xa : Nat → Nat) (U : State) : Prop :=
  vx_Zq Bundle.tN "UNASSIGNED_STACK" Bundle.steD (zAA B0) U U.heap ∧ vx_Zq Bundle.tN "SUPPRESSED_SENTINEL" Bundle.listD (zAA B0) U U.heap ∧ vk_R "ConjurerDesk" 212 "looks are 1 to 50" (xa 4) U ∧ vk_R "ConjurerDesk" 225 "no card of the start is there" (xa 5) U ∧ va_Nw (.castable "java/lang/IllegalArgumentException" "java/lang/IllegalArgumentException") U ∧ va_Nw (.castable "java/util/NoSuchElementException" "java/util/NoSuchElementException") U ∧ va_Nw (.declares (Bundle.initS "java/lang/RuntimeException")) U ∧ va_Nw (.declares (Bundle.initS "java/lang/Exception")) U ∧ va_Nw (.declares (Bundle.initS Bundle.tN)) U
theorem zXS.mv {B0 : Nat} {xa : Nat → Nat} {s U : State} (hW : s.WarmedH U.vm) (hq : ∀ a : Nat, a < s.heap.size → ¬ zAA B0 a → U.heap[a]? = s.heap[a]?) (h : zXS B0 xa s) : zXS B0 xa U := by
  obtain ⟨a1, a2, a3, a4, a5, a6, a7, a8, a9⟩ := h
  exact ⟨(a1.moved hW.alike).kept hq, (a2.moved hW.alike).kept hq, a3.warm hW, a4.warm hW, a5.warmC hW, a6.warmC hW, a7.warmD hW, a8.warmD hW, a9.warmD hW⟩
theorem zXS.call {B0 : Nat} {xa : Nat → Nat} {U : State} {g : JFrame} {mk : MethodId} {a : Array Value} (h : zXS B0 xa U) : zXS B0 xa (U.calling g mk a) := by
  obtain ⟨a1, a2, a3, a4, a5, a6, a7, a8, a9⟩ := h
  have hv : U.vm.Alike (U.calling g mk a).vm := Vm.Alike.refl U.vm
  exact ⟨a1.moved hv, a2.moved hv, a3.same rfl, a4.same rfl, a5.same rfl rfl, a6.same rfl rfl, a7.same rfl rfl, a8.same rfl rfl, a9.same rfl rfl⟩
/-- the words of a throw that are no good ones -/
def zbw (E : String) : List Cond := [Cond.castable E E, Cond.declares (Bundle.initS "java/lang/RuntimeException"), Cond.declares (Bundle.initS "java/lang/Exception"), Cond.declares (Bundle.initS Bundle.tN)]
def zPxe (B0 : Nat) (D : va_G) (cs : Nat → ClassId) (xa : Nat → Nat) (as : List Value) (σ : zH) : Array Value → State → Prop := fun a U => zPc B0 D cs xa as σ a U ∧ zXS B0 xa U
theorem zPxe_b {B0 : Nat} {D : va_G} {cs : Nat → ClassId} {xa : Nat → Nat} {as : List Value} {σ : zH} : FrameBlind (zPxe B0 D cs xa as σ) := fun a U g mk q => ⟨zblind a U g mk q.1, q.2.call⟩
/-- what is left behind by a throw -/
def zXC (B0 : Nat) (D : va_G) (cs : Nat → ClassId) (σ : zH) (E0 : String) : String → State → State → Prop := fun E st t => E = E0 ∧ (∃ k, zHM B0 D cs (zbp σ k) t.heap) ∧ st.heap.size ≤ t.heap.size ∧ ∀ q : Nat, q < st.heap.size → ¬ zAA B0 q → t.heap[q]? = st.heap[q]?
/-- the bytes of NoSuchElementException's constructor; the words of its throw -/
def znse : ByteArray := ⟨#[0x2a, 0x2b, 0xb7, 0x00, 0x0d, 0xb1]⟩
def zatX (own : String) (ic : Nat) (X : String) (ix : Nat) (rx : ByteArray) (names : List String) : List Cond := (Bundle.ownAtomsX own ic X ix rx names).filter vx_no
theorem zbw_b {B0 : Nat} {xa : Nat → Nat} {args : Array Value} {s : State} {E : String} (hX : zXS B0 xa s) (hc : va_Nw (.castable E E) s) : ∀ w ∈ zbw E, w.before args s = true := vx_c (va_Nw.use rfl hc) (vx_c (va_Nw.use rfl hX.2.2.2.2.2.2.1) (vx_c (va_Nw.use rfl hX.2.2.2.2.2.2.2.1) (vx_c (va_Nw.use rfl hX.2.2.2.2.2.2.2.2) vx_n)))
theorem zw1_g : ∀ w ∈ (vx_atS "ConjurerDesk" 214 "java/lang/IllegalArgumentException" ["java/lang/RuntimeException", "java/lang/Exception"]).filter goodWord, w ∈ lw_tbl := by decide +kernel
theorem zw2_g : ∀ w ∈ (zatX "ConjurerDesk" 227 "java/util/NoSuchElementException" 13 znse ["java/lang/RuntimeException", "java/lang/Exception"]).filter goodWord, w ∈ lw_tbl := by decide +kernel
theorem zw1_b : ∀ w ∈ (vx_atS "ConjurerDesk" 214 "java/lang/IllegalArgumentException" ["java/lang/RuntimeException", "java/lang/Exception"]).filter (fun w => !goodWord w), w ∈ zbw "java/lang/IllegalArgumentException" := by decide +kernel
theorem zw2_b : ∀ w ∈ (zatX "ConjurerDesk" 227 "java/util/NoSuchElementException" 13 znse ["java/lang/RuntimeException", "java/lang/Exception"]).filter (fun w => !goodWord w), w ∈ zbw "java/util/NoSuchElementException" := by decide +kernel
theorem zw1_o : ∀ w ∈ Cond.classLink "ConjurerDesk" 210 "java/lang/IllegalArgumentException" :: Cond.initialized "java/lang/IllegalArgumentException" :: vx_atS "ConjurerDesk" 214 "java/lang/IllegalArgumentException" ["java/lang/RuntimeException", "java/lang/Exception"], vx_ot w = true := by decide +kernel
theorem zw2_o : ∀ w ∈ Cond.classLink "ConjurerDesk" 223 "java/util/NoSuchElementException" :: Cond.initialized "java/util/NoSuchElementException" :: zatX "ConjurerDesk" 227 "java/util/NoSuchElementException" 13 znse ["java/lang/RuntimeException", "java/lang/Exception"], vx_ot w = true := by decide +kernel
theorem zw1_l : Cond.classLink "ConjurerDesk" 210 "java/lang/IllegalArgumentException" ∈ lw_tbl ∧ Cond.initialized "java/lang/IllegalArgumentException" ∈ lw_tbl := by decide +kernel
theorem zw2_l : Cond.classLink "ConjurerDesk" 223 "java/util/NoSuchElementException" ∈ lw_tbl ∧ Cond.initialized "java/util/NoSuchElementException" ∈ lw_tbl := by decide +kernel
section ZXT
variable {p : Program} {l : Launch} {e : Env} {R : Room} {s : State} {m : MethodId} {args : Array Value} {below : List Frame} {meth : Method} {c : Code} {Q : State → Prop}
variable {B0 : Nat} {D : va_G} {cs : Nat → ClassId} {xa : Nat → Nat} {σ : zH} {M pc pc1 : Nat} {lc lc1 : zC} {st st1 : List Value}
theorem zx_thr (C : zCx B0 D cs xa p s m args meth c M) (hcd : zcs (zcn M) = "ConjurerDesk") (hl : l.stackTraces = false) (hX : zXS B0 xa s) {ik is ic sa : Nat} {E text : String} (hfit : Bundle.fit E = true)
    (hg : ∀ w ∈ (vx_atS "ConjurerDesk" ic E ["java/lang/RuntimeException", "java/lang/Exception"]).filter goodWord, w ∈ lw_tbl) (hbad : ∀ w ∈ (vx_atS "ConjurerDesk" ic E ["java/lang/RuntimeException", "java/lang/Exception"]).filter (fun w => !goodWord w), w ∈ zbw E)
    (ho : ∀ w ∈ Cond.classLink "ConjurerDesk" ik E :: Cond.initialized E :: vx_atS "ConjurerDesk" ic E ["java/lang/RuntimeException", "java/lang/Exception"], vx_ot w = true) (hk : Cond.classLink "ConjurerDesk" ik E ∈ lw_tbl ∧ Cond.initialized E ∈ lw_tbl) (hstr : vk_R "ConjurerDesk" is text sa s) (hcast : va_Nw (.castable E E) s)
    (d0 : decode (zby M) pc = .ok (.new ik, 3)) (d3 : decode (zby M) (pc + 3) = .ok (.dup, 1)) (d4 : decode (zby M) (pc + 4) = .ok (.ldc is, 2)) (d6 : decode (zby M) (pc + 6) = .ok (.invokespecial ic, 3)) (d9 : decode (zby M) (pc + 9) = .ok (.athrow, 1))
    (htab : ∀ x ∈ c.exceptionTable.toList, False) (hR : 8 ≤ R.frames ∧ 320 ≤ R.locals ∧ 1 ≤ R.cells ∧ 6 ≤ R.slots) :
    zwW p l e R s m args below meth c (vx_MQ below (fun _ _ _ _ => False) (zXC B0 D cs σ E) args s 1 6 (zAA B0)) B0 D cs xa (zX σ) (zL σ) M pc lc [] σ := by
  intro H locs ls hH hS hlv
  obtain ⟨hx, hb, hml, hown, hw, hrt, hlk, hnm, hK, hXT, hsz⟩ := id C
  rw [hcd] at hown
  rw [Nat.sub_self, Nat.sub_self]
  refine vx_throwS (A := zAA B0) (rest := []) (names := ["java/lang/RuntimeException", "java/lang/Exception"]) hx hb hl hown hfit (by decide) (hw _ hk.1 rfl) (hw _ hk.2 rfl) hstr (vx_hat (fun w h => hw w (hg w h) (List.mem_filter.mp h).2) hbad (zbw_b hX hcast)) ho hX.1 hX.2.1 hS (hlv.1.trans hml.symm) d0 d3 d4 d6 d9 (fun x hx => (htab x hx).elim) (by show 2 + 3 < _; omega) (by show 0 + (13 * (2 + 1) + 43) ≤ _; omega) (by omega) (by omega) hlk ?_ hS.2.2 (by omega) (by omega)
  intro t _ h1 h2
  exact ⟨rfl, ⟨_, zHM_bp hH h1 h2⟩, Nat.le_trans hS.1 h1, fun q h3 h4 => (h2 q (Nat.lt_of_lt_of_le h3 hS.1)).trans (hS.2.1 q h3 h4)⟩
theorem zx_thrX (C : zCx B0 D cs xa p s m args meth c M) (hcd : zcs (zcn M) = "ConjurerDesk") (hl : l.stackTraces = false) (hX : zXS B0 xa s) {ik is ic ix sa : Nat} {rx : ByteArray} {E text : String} (hfit : Bundle.fit E = true)
    (hg : ∀ w ∈ (zatX "ConjurerDesk" ic E ix rx ["java/lang/RuntimeException", "java/lang/Exception"]).filter goodWord, w ∈ lw_tbl) (hbad : ∀ w ∈ (zatX "ConjurerDesk" ic E ix rx ["java/lang/RuntimeException", "java/lang/Exception"]).filter (fun w => !goodWord w), w ∈ zbw E)
    (ho : ∀ w ∈ Cond.classLink "ConjurerDesk" ik E :: Cond.initialized E :: zatX "ConjurerDesk" ic E ix rx ["java/lang/RuntimeException", "java/lang/Exception"], vx_ot w = true) (hk : Cond.classLink "ConjurerDesk" ik E ∈ lw_tbl ∧ Cond.initialized E ∈ lw_tbl) (hstr : vk_R "ConjurerDesk" is text sa s) (hcast : va_Nw (.castable E E) s)
    (x0 : decode rx 0 = .ok (.aload_n 0, 1)) (x1 : decode rx 1 = .ok (.aload_n 1, 1)) (x2 : decode rx 2 = .ok (.invokespecial ix, 3)) (x5 : decode rx 5 = .ok (.return_, 1)) (d0 : decode (zby M) pc = .ok (.new ik, 3)) (d3 : decode (zby M) (pc + 3) = .ok (.dup, 1)) (d4 : decode (zby M) (pc + 4) = .ok (.ldc is, 2)) (d6 : decode (zby M) (pc + 6) = .ok (.invokespecial ic, 3)) (d9 : decode (zby M) (pc + 9) = .ok (.athrow, 1))
    (htab : ∀ x ∈ c.exceptionTable.toList, False) (hR : 8 ≤ R.frames ∧ 320 ≤ R.locals ∧ 1 ≤ R.cells ∧ 6 ≤ R.slots) :
    zwW p l e R s m args below meth c (vx_MQ below (fun _ _ _ _ => False) (zXC B0 D cs σ E) args s 1 6 (zAA B0)) B0 D cs xa (zX σ) (zL σ) M pc lc [] σ := by
  intro H locs ls hH hS hlv
  obtain ⟨hx, hb, hml, hown, hw, hrt, hlk, hnm, hK, hXT, hsz⟩ := id C
  rw [hcd] at hown
  rw [Nat.sub_self, Nat.sub_self]
  refine zthrX x0 x1 x2 x5 (A := zAA B0) (rest := []) (names := ["java/lang/RuntimeException", "java/lang/Exception"]) hx hb hl hown hfit (by decide) (hw _ hk.1 rfl) (hw _ hk.2 rfl) hstr (vx_hat (fun w h => hw w (hg w h) (List.mem_filter.mp h).2) hbad (zbw_b hX hcast)) ho hX.1 hX.2.1 hS (hlv.1.trans hml.symm) d0 d3 d4 d6 d9 (fun x hx => (htab x hx).elim) (by show 2 + 3 < _; omega) (by show 0 + (13 * (2 + 1) + 43) ≤ _; omega) (by omega) (by omega) hlk ?_ hS.2.2 (by omega) (by omega)
  intro t _ h1 h2
  exact ⟨rfl, ⟨_, zHM_bp hH h1 h2⟩, Nat.le_trans hS.1 h1, fun q h3 h4 => (h2 q (Nat.lt_of_lt_of_le h3 hS.1)).trans (hS.2.1 q h3 h4)⟩
theorem zx_s (C : zCx B0 D cs xa p s m args meth c M) {P : Prop} (h : zst 0 M pc lc st σ = some (P, .inl (pc1, lc1, st1, σ))) (hP : P) (k : zwW p l e R s m args below meth c Q B0 D cs xa (zX σ) (zL σ) M pc1 lc1 st1 σ) : zwW p l e R s m args below meth c Q B0 D cs xa (zX σ) (zL σ) M pc lc st σ :=
  zstep (d := 0) C h hP ⟨Nat.zero_le _, Nat.zero_le _⟩ ⟨Nat.le_refl _, Nat.le_refl _⟩ ⟨by rw [Nat.sub_self]; exact Nat.zero_le _, by rw [Nat.sub_self]; exact Nat.zero_le _⟩ k
theorem zx_if {k : Prop} [Decidable k] {a b : Nat} (h1 : k → zwW p l e R s m args below meth c Q B0 D cs xa (zX σ) (zL σ) M a lc st σ) (h2 : ¬ k → zwW p l e R s m args below meth c Q B0 D cs xa (zX σ) (zL σ) M b lc st σ) : zwW p l e R s m args below meth c Q B0 D cs xa (zX σ) (zL σ) M (if k then a else b) lc st σ := by
  by_cases h : k
  · rw [if_pos h]; exact h1 h
  · rw [if_neg h]; exact h2 h
end ZXT
theorem zx_met {l : Launch} {B0 : Nat} {D : va_G} {cs : Nat → ClassId} {xa : Nat → Nat} {M : Nat} {as : List Value} {σ : zH} {E : String} (hM1 : M < 205) (hwt : zwt as ≤ zml M)
    (body : ∀ {p : Program} {e : Env} {R : Room} {s : State} {m : MethodId} {args : Array Value} {below : List Frame} {meth : Method} {c : Code}, zCx B0 D cs xa p s m args meth c M → zXS B0 xa s → (∀ x ∈ c.exceptionTable.toList, False) → (8 ≤ R.frames ∧ 320 ≤ R.locals ∧ 1 ≤ R.cells ∧ 6 ≤ R.slots) → zwW p l e R s m args below meth c (vx_MQ below (fun _ _ _ _ => False) (zXC B0 D cs σ E) args s 1 6 (zAA B0)) B0 D cs xa (zX σ) (zL σ) M 0 (lv_args 0 as) [] σ) :
    vx_Met l (zyM M) (zwsY (zyM M) (zby M) (zml M) (zrt M)) (zrm 8 1 6) (zPxe B0 D cs xa as σ) (fun _ _ _ _ => False) (zXC B0 D cs σ E) 1 6 (zAA B0) := by
  refine vx_ofW (cc := zby M) (maxL := zml M) (ret := zrt M) (zm_small hM1).1 rfl ?_
  intro p e s m args below meth c s₁ B hml htab hv
  obtain ⟨⟨rfl, v1, v2, v3⟩, v4⟩ := hv
  have hw := zwsY_hw (atoms_spec (ws := zwsY (zyM M) (zby M) (zml M) (zrt M)) B.pre)
  have hown : s.vm.findClass (zcs (zcn M)) = some m.cls := by
    have := findClass_of_methodNamed B.named
    rw [(zm_name hM1).1] at this
    exact this
  have hnm : (zyM M).name = "<init>" → meth.name = "<init>" := fun h => (name_of_methodNamed B.named B.method).1.trans h
  have C1 : zCx B0 D cs xa p s m (as.map (zV B0 xa)).toArray meth c M := ⟨B.exec, B.bytes, hml, hown, hw, B.returns, B.notSynchronized, hnm, v2, v3, by rw [v1.1]; omega⟩
  have hls : (lg_sl (as.map (zV B0 xa))).length = zwt as := by
    rw [← zwt_map B0 xa]
    exact lg_len _
  have hl := lv_entry (as.map (zV B0 xa)) (n := zml M) (by rw [hls]; exact hwt)
  rw [lg_entry_eq]
  have h9 := body (e := e) (R := (headSpec (zwsY (zyM M) (zby M) (zml M) (zrt M)) (zrm 8 1 6)).room) (below := below) C1 v4 htab ⟨Nat.le_refl _, Nat.le_refl _, Nat.le_refl _, Nat.le_refl _⟩ s.heap [] _ v1 va_S.rf (by rw [← lv_args_map]; exact hl)
  rw [Nat.sub_self, Nat.sub_self] at h9
  exact h9
theorem zx_stack {l : Launch} {B0 : Nat} {D : va_G} {cs : Nat → ClassId} {xa : Nat → Nat} {σ : zH} {x : Int32} (hl : l.stackTraces = false) (hv : ¬ zskv x) : vx_Met l (zyM 120) (zwsY (zyM 120) (zby 120) (zml 120) (zrt 120)) (zrm 8 1 6) (zPxe B0 D cs xa [.ref 1, .int x] σ) (fun _ _ _ _ => False) (zXC B0 D cs σ "java/lang/IllegalArgumentException") 1 6 (zAA B0) := by
  refine zx_met (by omega) (show 2 ≤ zml 120 by decide) ?_
  intro p e R s m args below meth c C hX htab hR
  have ht : ∀ lc, zwW p l e R s m args below meth c (vx_MQ below (fun _ _ _ _ => False) (zXC B0 D cs σ "java/lang/IllegalArgumentException") args s 1 6 (zAA B0)) B0 D cs xa (zX σ) (zL σ) 120 11 lc [] σ := fun lc => zx_thr C rfl hl hX (ik := 210) (is := 212) (ic := 214) (by decide) zw1_g zw1_b zw1_o zw1_l hX.2.2.1 hX.2.2.2.2.1 (by decide +kernel) (by decide +kernel) (by decide +kernel) (by decide +kernel) (by decide +kernel) htab hR
  refine zx_s C rfl trivial ?_
  refine zx_s C rfl trivial ?_
  refine zx_s C rfl trivial ?_
  refine zx_if (fun _ => ht _) (fun h1 => ?_)
  refine zx_s C rfl trivial ?_
  refine zx_s C rfl trivial ?_
  refine zx_s C rfl trivial ?_
  refine zx_if (fun h2 => absurd ⟨h1, h2⟩ hv) (fun _ => ht _)
theorem zx_at {l : Launch} {B0 : Nat} {D : va_G} {cs : Nat → ClassId} {xa : Nat → Nat} {σ : zH} {x : Int32} {ms : zMS} (hl : l.stackTraces = false) (hI : zIC σ ms) (hv : ¬ zatv ms x) : vx_Met l (zyM 121) (zwsY (zyM 121) (zby 121) (zml 121) (zrt 121)) (zrm 8 1 6) (zPxe B0 D cs xa [.ref 1, .int x] σ) (fun _ _ _ _ => False) (zXC B0 D cs σ "java/util/NoSuchElementException") 1 6 (zAA B0) := by
  refine zx_met (by omega) (show 2 ≤ zml 121 by decide) ?_
  intro p e R s m args below meth c C hX htab hR
  have ht : ∀ lc, zwW p l e R s m args below meth c (vx_MQ below (fun _ _ _ _ => False) (zXC B0 D cs σ "java/util/NoSuchElementException") args s 1 6 (zAA B0)) B0 D cs xa (zX σ) (zL σ) 121 16 lc [] σ := fun lc => zx_thrX C rfl hl hX (ik := 223) (is := 225) (ic := 227) (by decide) zw2_g zw2_b zw2_o zw2_l hX.2.2.2.1 hX.2.2.2.2.2.1 (rx := znse) (ix := 13) (by decide +kernel) (by decide +kernel) (by decide +kernel) (by decide +kernel) (by decide +kernel) (by decide +kernel) (by decide +kernel) (by decide +kernel) (by decide +kernel) htab hR
  obtain ⟨T, T', o, o', a1, a2, a3, -⟩ := hI
  obtain ⟨⟨u0, u1, u2, -⟩, -⟩ := a1
  have e4 : zI σ 4 4 = nI (zmN ms) := a3.1.2.2.2.2.2.2.2.2.2.2.2.2.2.1
  refine zx_s C rfl trivial ?_
  refine zx_s C rfl trivial ?_
  refine zx_s C rfl trivial ?_
  refine zx_if (fun _ => ht _) (fun h1 => ?_)
  refine zx_s C rfl trivial ?_
  refine zx_s C rfl trivial ?_
  refine zx_s C rfl u0 ?_
  refine zx_s C rfl (by rw [u2]; exact a3.1.1) ?_
  refine zx_s C rfl trivial ?_
  refine zx_if (fun h2 => ?_) (fun _ => ht _)
  rw [u2, e4] at h2
  exact absurd ⟨h1, h2⟩ hv
