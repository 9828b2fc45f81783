/-! the law's two helpers -/
def zwsL (y : MethodName) (b : ByteArray) (ct : Nat) : List Cond := .codeWith y b 4 (some .int) [(0, 9, 12, ct)] :: lw_tbl.filter goodWord
def zQh (B0 : Nat) (D : va_G) (cs : Nat → ClassId) (POST : Int32 → zH → Prop) : Array Value → State → Outcome → State → Prop := fun _ st o t => ∃ (v : Int32) (τ : zH), o = .returned (some (.int v)) ∧ zHM B0 D cs τ t.heap ∧ st.heap.size ≤ t.heap.size ∧ (∀ q : Nat, q < st.heap.size → ¬ zAA B0 q → t.heap[q]? = st.heap[q]?) ∧ POST v τ
def zPh (B0 : Nat) (D : va_G) (cs : Nat → ClassId) (xa : Nat → Nat) (x : Int32) (σ : zH) : Array Value → State → Prop := fun a U => a = ([.ref (B0 + 1), .int x, .ref (B0 + 187)] : List Value).toArray ∧ zHM B0 D cs σ U.heap ∧ va_K D zCl (zAt cs) U ∧ zXT B0 xa U ∧ zXS B0 xa U
theorem zPh_b {B0 : Nat} {D : va_G} {cs : Nat → ClassId} {xa : Nat → Nat} {x : Int32} {σ : zH} : FrameBlind (zPh B0 D cs xa x σ) := fun a U g mk q => ⟨q.1, q.2.1, va_K.moved (u := U) (U := U.calling g mk a) (Vm.Alike.refl U.vm) q.2.2.1, q.2.2.2.1.call, q.2.2.2.2.call⟩
section ZGX
variable {p : Program} {l : Launch} {e : Env} {R : Room} {s : State} {m : MethodId} {args : Array Value} {below : List Frame} {meth : Method} {c : Code} {H : Heap} {locs : List Loc} {cells slots : Nat} {Q : State → Prop}
variable {pc mc ms : Nat} {ls : Array Slot} {rest st0 : List Value} {B0 : Nat} {D : va_G} {cs : Nat → ClassId} {σ : zH}
theorem z_gox {E0 : String} (hr : vx_Run p l e R s m args below meth c H locs cells slots mc ms (F0 m pc ls st0) rest (fun _ _ _ => False) (zXC B0 D cs σ E0) (zAA B0)) (hS : va_S (zAA B0) s.heap H locs)
    (kx : ∀ (q : Addr) (ce : Cell) (k : Nat) (H1 : Heap) (locs1 : List Loc), zHM B0 D cs (zbp σ k) H1 → va_S (zAA B0) s.heap H1 locs1 → H1[q]? = some ce → ce.vm = .none → s.vm.findClass E0 = some ce.cls → vx_W p l e R s m args below meth c H1 locs1 (cells + mc) (slots + ms) Q (F0 m pc ls rest) q) : W p l e R s m args below meth c H locs cells slots Q (F0 m pc ls st0) := by
  intro T hT X
  rcases hr T hT X with ⟨v, st₀, t, T', L, h0, X', hL, e1, e2, hF, st⟩ | ⟨q, st₀, t, T', L, E, ce, h0, X', hL, e1, e2, ⟨rfl, ⟨k, hm⟩, hz, hk⟩, hce, hcv, hcl, st⟩
  · exact hF.elim
  · rw [h0] at hz hk
    obtain ⟨t2, a1, b1⟩ := kx q ce k T'.heap (locs ++ L) (by rw [e1]; exact hm) ⟨Nat.le_trans hS.1 (by rw [e1]; exact hz), fun q h1 h2 => by rw [e1, hk q (Nat.lt_of_lt_of_le h1 hS.1) h2]; exact hS.2.1 q h1 h2, fun q hq => by
      rcases List.mem_append.mp hq with h | h
      · exact hS.2.2 q h
      · exact hL q h⟩ (by rw [e1]; exact hce) hcv hcl T' rfl X'
    exact ⟨t2, st.trans a1, b1⟩
end ZGX
set_option maxHeartbeats 2000000 in
theorem zh_met {l : Launch} {B0 : Nat} {D : va_G} {cs : Nat → ClassId} {xa : Nat → Nat} {y : MethodName} {cc : ByteArray} {ct xi M : Nat} {E : String} (hy : plainName y.cls = true) (hyc : y.cls = "ConjurerDeskLaw")
    (d0 : decode cc 0 = .ok (.aload_n 2, 1)) (d1 : decode cc 1 = .ok (.iconst 0, 1)) (d2 : decode cc 2 = .ok (.aload_n 0, 1)) (d3 : decode cc 3 = .ok (.iload_n 1, 1)) (d4 : decode cc 4 = .ok (.invokevirtual xi, 3)) (d7 : decode cc 7 = .ok (.i2l, 1)) (d8 : decode cc 8 = .ok (.lastore, 1)) (d9 : decode cc 9 = .ok (.goto 6, 3)) (d12 : decode cc 12 = .ok (.astore_n 3, 1)) (d13 : decode cc 13 = .ok (.iconst 1, 1)) (d14 : decode cc 14 = .ok (.ireturn, 1)) (d15 : decode cc 15 = .ok (.iconst 0, 1)) (d16 : decode cc 16 = .ok (.ireturn, 1))
    (hM : M < 205) (hkd : zkd M = 0) (hcn : zcn M = 11) (hnp : zNp.getD M 99 = 1) (hml : 2 ≤ zml M) (hlink : Cond.methodLink "ConjurerDeskLaw" xi (zyM M) ∈ lw_tbl) (hct : Cond.classLink "ConjurerDeskLaw" ct E ∈ lw_tbl) (hct0 : ct ≠ 0) (hcast : ∀ U, zXS B0 xa U → va_Nw (.castable E E) U)
    {σ : zH} {x : Int32} {POST : Int32 → zH → Prop} {V : Prop} [Decidable V] (h1 : zK σ 1 = 12) (hval : V → zM 60 M [.ref 1, .int x] σ (fun r1 σ1 => (zX σ1 = zX σ ∧ zL σ1 = zL σ) ∧ ∃ w : Int32, r1 = some (.int w) ∧ zK σ1 187 = 21 ∧ zN σ1 187 = 1 ∧ POST 0 (zsB σ1 187 0 w.toInt64)))
    (hinv : ¬ V → vx_Met l (zyM M) (zwsY (zyM M) (zby M) (zml M) (zrt M)) (zrm 8 1 6) (zPxe B0 D cs xa [.ref 1, .int x] σ) (fun _ _ _ _ => False) (zXC B0 D cs σ E) 1 6 (zAA B0)) (hno : ¬ V → ∀ k, POST 1 (zbp σ k)) :
    Met l y (zwsL y cc ct) (zrm 62 1 6) (zPh B0 D cs xa x σ) (zQh B0 D cs POST) 1 6 (zAA B0) := by
  refine va_MetW (cc := cc) (maxL := 4) (ret := some .int) (hh := [(0, 9, 12, ct)]) hy rfl ?_
  intro p e s m args below meth c s₁ B hmx hv
  obtain ⟨rfl, v1, v2, v3, v4⟩ := hv
  have hall := atoms_spec (ws := zwsL y cc ct) B.pre
  have hw : ∀ w ∈ lw_tbl, goodWord w = true → w.before _ s = true := fun w h1 h2 => hall w (List.mem_cons_of_mem _ (List.mem_filter.mpr ⟨h1, h2⟩))
  have htb : c.exceptionTable.toList = tableOf [(0, 9, 12, ct)] := vx_table (x := y) B (hall _ List.mem_cons_self)
  have hown : s.vm.findClass "ConjurerDeskLaw" = some m.cls := by
    have := findClass_of_methodNamed B.named
    rw [hyc] at this
    exact this
  have C : zOC B0 D cs xa p s m _ c "ConjurerDeskLaw" cc 4 := ⟨B.exec, B.bytes, hmx, hown, hw, v2, v3⟩
  have hx := B.exec
  have hb := B.bytes
  have hq : ∀ (v : Int32) (τ : zH) (H : Heap) (locs : List Loc) (t : State), zHM B0 D cs τ H → va_S (zAA B0) s.heap H locs → POST v τ → t.heap = H → zQh B0 D cs POST ([.ref (B0 + 1), .int x, .ref (B0 + 187)] : List Value).toArray s (.returned (some (.int v))) t := fun v τ H locs t a1 a2 a3 ht => ⟨v, τ, rfl, by rw [ht]; exact a1, by rw [ht]; exact a2.1, fun q k1 k2 => by rw [ht]; exact a2.2.1 q k1 k2, a3⟩
  have go : ∀ ls : Array Slot, lv_has ls 4 [(0, .ref (B0 + 1)), (1, .int x), (2, .ref (B0 + 187))] → W p l e (headSpec (zwsL y cc ct) (zrm 62 1 6)).room s m ([.ref (B0 + 1), .int x, .ref (B0 + 187)] : List Value).toArray below meth c s.heap [] 0 0 (MQ below (zQh B0 D cs POST) ([.ref (B0 + 1), .int x, .ref (B0 + 187)] : List Value).toArray s 1 6 (zAA B0)) (F0 m 0 ls []) := by
    intro ls hl
    refine lv_aload_n hx hb d0 rfl (lv_at hl 2 rfl) ?_
    refine lv_iconst hx hb d1 (v := 0) rfl ?_
    refine lv_aload_n hx hb d2 rfl (lv_at hl 0 rfl) ?_
    refine lv_iload_n hx hb d3 rfl (lv_at hl 1 rfl) ?_
    by_cases hV : V
    · refine zl_V C v1 va_S.rf hl.1 (M1 := M) (x := xi) (r := 1) (as := [.int x]) (rest := [.int 0, .ref (B0 + 187)]) hM hkd hlink (by rw [hnp]; rfl) (by rw [hcn]; exact h1) hml (show 2 ≤ 8 by omega) rfl d4 (d := 60) ⟨by show 61 ≤ 62; omega, by show 40 * 61 ≤ 40 * 62; omega⟩ ⟨Nat.zero_le _, Nat.zero_le _⟩ (hval hV) ?_
      intro r1 σ1 H1 locs1 hz hH1 hS1
      obtain ⟨w, rfl, k7, n7, hp⟩ := hz
      refine lv_i2l hx hb d7 (v := w.toInt64) rfl ?_
      refine z_last (xa := xa) (r := 187) (i := 0) hx hb v2 hH1 hS1 k7 (by rw [n7]; show vp_in (nI 0) 1; exact vp_in_nI (by omega) (by omega)) d8 ?_
      intro H2 locs2 hH2 hS2
      refine lv_goto hx hb d9 (tgt := 15) rfl ?_
      refine lv_iconst hx hb d15 (v := 0) rfl ?_
      refine W.widen (k := 1) (n := 6) (by omega) (by omega) ?_
      exact W.iret hx hb B.returns (fun t ht _ => hq 0 _ H2 locs2 t hH2 hS2 hp ht) hS2.2.2 d16 B.notSynchronized
    · obtain ⟨n2, n3, n4, n5⟩ := zm_name hM
      obtain ⟨w1, w2⟩ := zm_init hM
      obtain ⟨ws1, ws2⟩ := zm_inst hM (by rw [hkd]; decide)
      obtain ⟨ws3, ws4⟩ := zm_sel hM hkd
      have hCB : CallB (headSpec (zwsL y cc ct) (zrm 62 1 6)).room s ([.ref (B0 + 1), .int x, .ref (B0 + 187)] : List Value).toArray "ConjurerDeskLaw" xi (zyM M) (zby M) (zml M) (zrt M) (zwsY (zyM M) (zby M) (zml M) (zrt M)) (zrm 8 1 6) 1 6 (zNp.getD M 99) := callB_of _ (zhw_ts hw) (zgood (zm_code hM).1) rfl rfl rfl (hw _ w1 w2) (hw _ hlink rfl) ⟨n3, n4, n5⟩ ⟨by show 8 + 1 ≤ 62; omega, by have := (zm_small hM).2.2; show 8 + (zml M + 11) + 40 * 8 ≤ 40 * 62; omega⟩
      obtain ⟨hr1, hcell⟩ := zobjat v1 v2 (r := 1) (ci := 11) h1 (by omega)
      have hpre : ∀ U : State, U.heap = s.heap → s.WarmedH U.vm → zPxe B0 D cs xa [.ref 1, .int x] σ (Value.ref (B0 + 1) :: [Value.int x].map (zV B0 xa)).toArray U := fun U hU hW => ⟨zl_pre C v1 va_S.rf hr1 U hU hW, v4.mv hW (fun a _ _ => by rw [hU])⟩
      refine z_gox (vx_runV (C := zcs (zcn M)) (b := B0 + 1) (As := [Value.int x].map (zV B0 xa)) (rest := [.int 0, .ref (B0 + 187)]) ⟨hx, hb, hmx, hown, zhw_ts hw⟩ (hinv hV) ⟨hCB, hw _ ws1 ws2, hw _ ws3 ws4⟩ ⟨zPxe_b, by rw [hcn]; exact hcell, hpre⟩ rfl (by rw [hnp]; rfl) hl.1 rfl (lv_room (show 2 ≤ 8 by omega)) d4 ⟨by show 0 + 1 ≤ 1; omega, by show 0 + 6 ≤ 6; omega⟩) va_S.rf ?_
      intro q ce k H1 locs1 hH1 hS1 hce hcv hcl
      refine vx_catch hown [] _ [] (htb.trans rfl) (fun z hz => nomatch hz) rfl hct0 (hw _ hct rfl) (va_Nw.use rfl (hcast s v4)) hce hcv hcl ?_
      show W p l e _ s m _ below meth c H1 locs1 (0 + 1) (0 + 6) _ (F0 m 12 ls [.ref q])
      refine lv_astore_n hx hb d12 rfl hl (by omega) rfl (fun ls' hl' => ?_)
      refine lv_iconst hx hb d13 (v := 1) rfl ?_
      exact W.iret hx hb B.returns (fun t ht _ => hq 1 _ H1 locs1 t hH1 hS1 (hno hV k) ht) hS1.2.2 d14 B.notSynchronized
  rw [lg_entry_eq]
  exact go _ (lv_entry [.ref (B0 + 1), .int x, .ref (B0 + 187)] (n := 4) (by show 3 ≤ 4; omega))
