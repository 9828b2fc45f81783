/-! the law's cases of the calls that may throw -/
theorem zgoodW {y : MethodName} {b : ByteArray} {ct : Nat} (h : Cond.codeWith y b 4 (some .int) [(0, 9, 12, ct)] ∈ lw_tbl) : GoodIn (lw_tbl.filter goodWord) (zwsL y b ct) := by
  intro w hw
  rcases List.mem_cons.mp hw with rfl | hw
  · exact ⟨List.mem_filter.mpr ⟨h, rfl⟩, Or.inl rfl⟩
  · exact ⟨hw, good_of_word (List.mem_filter.mp hw).2⟩
def zyS : MethodName := ⟨"ConjurerDeskLaw", "stack", "(LConjurerDesk;I[J)I"⟩
def zyA : MethodName := ⟨"ConjurerDeskLaw", "at", "(LConjurerDesk;I[J)I"⟩
theorem zyS_w : Cond.codeWith zyS method_3_code 4 (some .int) [(0, 9, 12, 13)] ∈ lw_tbl ∧ Cond.static zyS ∈ lw_tbl ∧ Cond.initialized zyS.cls ∈ lw_tbl ∧ Cond.methodLink "ConjurerDeskLaw" 86 zyS ∈ lw_tbl ∧ Cond.classLink "ConjurerDeskLaw" 13 "java/lang/IllegalArgumentException" ∈ lw_tbl := by decide +kernel
theorem zyA_w : Cond.codeWith zyA method_4_code 4 (some .int) [(0, 9, 12, 18)] ∈ lw_tbl ∧ Cond.static zyA ∈ lw_tbl ∧ Cond.initialized zyA.cls ∈ lw_tbl ∧ Cond.methodLink "ConjurerDeskLaw" 95 zyA ∈ lw_tbl ∧ Cond.classLink "ConjurerDeskLaw" 18 "java/util/NoSuchElementException" ∈ lw_tbl := by decide +kernel
theorem zh_stack {l : Launch} {B0 : Nat} {D : va_G} {cs : Nat → ClassId} {xa : Nat → Nat} {σ : zH} {x : Int32} {ms : zMS} (hlt : l.stackTraces = false) (hI : zIC σ ms) (hR : zIR σ ms) (hm : zMok ms) (h7 : zK σ 187 = 21 ∧ zN σ 187 = 1) : Met l zyS (zwsL zyS method_3_code 13) (zrm 62 1 6) (zPh B0 D cs xa x σ) (zQh B0 D cs (zTh 201 x)) 1 6 (zAA B0) := by
  haveI : Decidable (zskv x) := Classical.propDecidable _
  exact zh_met (V := zskv x) (xi := 7) (M := 120) (E := "java/lang/IllegalArgumentException") (by decide) rfl (by decide +kernel) (by decide +kernel) (by decide +kernel) (by decide +kernel) (by decide +kernel) (by decide +kernel) (by decide +kernel) (by decide +kernel) (by decide +kernel) (by decide +kernel) (by decide +kernel) (by decide +kernel) (by decide +kernel) (by omega) rfl rfl rfl (by decide) zlk_7 zyS_w.2.2.2.2 (by decide) (fun U h => h.2.2.2.2.1) (zIC_k hI) (fun hV => zth_stack1 hm hI hR h7 hV) (fun hV => zx_stack hlt hV) (fun hV k => zth_stack0 hm hI hR h7 hV)
theorem zh_at {l : Launch} {B0 : Nat} {D : va_G} {cs : Nat → ClassId} {xa : Nat → Nat} {σ : zH} {x : Int32} {ms : zMS} (hlt : l.stackTraces = false) (hI : zIC σ ms) (hR : zIR σ ms) (hm : zMok ms) (h7 : zK σ 187 = 21 ∧ zN σ 187 = 1) : Met l zyA (zwsL zyA method_4_code 18) (zrm 62 1 6) (zPh B0 D cs xa x σ) (zQh B0 D cs (zTh 203 x)) 1 6 (zAA B0) := by
  haveI : Decidable (zatv ms x) := Classical.propDecidable _
  exact zh_met (V := zatv ms x) (xi := 15) (M := 121) (E := "java/util/NoSuchElementException") (by decide) rfl (by decide +kernel) (by decide +kernel) (by decide +kernel) (by decide +kernel) (by decide +kernel) (by decide +kernel) (by decide +kernel) (by decide +kernel) (by decide +kernel) (by decide +kernel) (by decide +kernel) (by decide +kernel) (by decide +kernel) (by omega) rfl rfl rfl (by decide) zlk_15 zyA_w.2.2.2.2 (by decide) (fun U h => h.2.2.2.2.2.1) (zIC_k hI) (fun hV => zth_at1 hm hI hR h7 hV) (fun hV => zx_at hlt hI hV) (fun hV k => zth_at0 hm hI hR h7 hV)
section ZLT
variable {p : Program} {l : Launch} {e : Env} {R : Room} {s : State} {m : MethodId} {args : Array Value} {below : List Frame} {meth : Method} {c : Code} {H : Heap} {locs : List Loc} {cells slots : Nat} {Q : State → Prop}
variable {ls : Array Slot} {B0 : Nat} {D : va_G} {cs : Nat → ClassId} {xa : Nat → Nat} {b L a : Nat} {xs : Nat → Int32} {σ : zH}
variable {pc : Nat}
theorem zl_S (K : zLK p s m args c R B0 D cs xa b L xs) (hc : cells + 1 ≤ R.cells ∧ slots + 6 ≤ R.slots) (hls : ls.size = 7) (hH : zHM B0 D cs σ H) (hS : va_S (zAA B0) s.heap H locs) {y : MethodName} {cc : ByteArray} {ct ix : Nat} {x : Int32} {POST : Int32 → zH → Prop} (hM : Met l y (zwsL y cc ct) (zrm 62 1 6) (zPh B0 D cs xa x σ) (zQh B0 D cs POST) 1 6 (zAA B0))
    (hcw : Cond.codeWith y cc 4 (some .int) [(0, 9, 12, ct)] ∈ lw_tbl) (hst : Cond.static y ∈ lw_tbl) (hini : Cond.initialized y.cls ∈ lw_tbl) (hlink : Cond.methodLink "ConjurerDeskLaw" ix y ∈ lw_tbl) (hd : y.cls ≠ "java/lang/invoke/MethodHandle" ∧ y.cls ≠ "java/lang/invoke/VarHandle" ∧ (parseMethodDescriptor y.desc).map (fun d => d.parameters.length) = some 3) (hdc : decode code pc = .ok (.invokestatic ix, 3))
    (kk : ∀ (v : Int32) (τ : zH) (H1 : Heap) (locs1 : List Loc), POST v τ → zHM B0 D cs τ H1 → va_S (zAA B0) s.heap H1 locs1 → W p l e R s m args below meth c H1 locs1 (cells + 1) (slots + 6) Q (F0 m (pc + 3) ls [.int v])) : W p l e R s m args below meth c H locs cells slots Q (F0 m pc ls [.ref (B0 + 187), .int x, .ref (B0 + 1)]) := by
  obtain ⟨⟨hx, hb, hml, hown, hw, hK, hXT⟩, -, hR, hXS⟩ := id K
  have hcs : vx_CSW R s args "ConjurerDeskLaw" ix y cc 4 (some .int) [(0, 9, 12, ct)] (zwsL y cc ct) (zrm 62 1 6) 1 6 3 := ⟨⟨rfl, rfl, by show 62 + 1 ≤ _; omega, by show 8 + (4 + 11) + 40 * 62 ≤ _; omega, pay_in (zhw_ts hw) (zgoodW hcw), List.mem_cons_self⟩, hw _ hcw rfl, hw _ hini rfl, ⟨hd.1, hd.2.1⟩, fun sig h => by
    have h2 := hd.2.2
    rw [h] at h2
    exact (Option.some.inj h2).symm, hw _ hlink rfl, hw _ hst rfl⟩
  have hp : PreS s H (zPh B0 D cs xa x σ) [.ref (B0 + 1), .int x, .ref (B0 + 187)] := ⟨zPh_b, fun U hU hW => ⟨rfl, by rw [hU]; exact hH, hK.moved hW.alike, hXT.mv hW (fun a h1 h2 => by rw [hU]; exact hS.2.1 a h1 h2), hXS.mv hW (fun a h1 h2 => by rw [hU]; exact hS.2.1 a h1 h2)⟩⟩
  have hr : va_Run p l e R s m args below meth c H locs cells slots 1 6 (F0 m pc ls [.ref (B0 + 187), .int x, .ref (B0 + 1)]) [] (zQh B0 D cs POST ([.ref (B0 + 1), .int x, .ref (B0 + 187)] : List Value).toArray) (zAA B0) := vx_runSW (rest := []) ⟨hx, hb, hml, hown, zhw_ts hw⟩ hM hcs hp rfl rfl hls rfl (lv_room (show 0 ≤ 8 by omega)) hdc hc
  intro T hT X
  obtain ⟨v, st₀, t, T', L', h0, X', hL, e1, e2, ⟨k, τ, hv, hm, hz, hk, hp⟩, st⟩ := hr T hT X
  have hv : v = some (.int k) := by injection hv
  subst hv
  rw [h0] at hz hk
  obtain ⟨t2, a1, b1⟩ := kk k τ T'.heap (locs ++ L') hp (by rw [e1]; exact hm) ⟨Nat.le_trans hS.1 (by rw [e1]; exact hz), fun q h1 h2 => by rw [e1, hk q (Nat.lt_of_lt_of_le h1 hS.1) h2]; exact hS.2.1 q h1 h2, fun q hq => by
      rcases List.mem_append.mp hq with h | h
      · exact hS.2.2 q h
      · exact hL q h⟩ T' rfl X'
  exact ⟨t2, st t2 a1, b1⟩
theorem zl_c14 (K : zLK p s m args c R B0 D cs xa b L xs) (hc : cells + 1 ≤ R.cells ∧ slots + 6 ≤ R.slots) (hlt : l.stackTraces = false) (hl : lv_has ls 7 (zll B0 b a)) (ha : a + 5 < L) (hH : zHM B0 D cs σ H) (hS : va_S (zAA B0) s.heap H locs) (hv : zLv σ) (back : ∀ (σ2 : zH) (H2 : Heap) (locs2 : List Loc) (ls2 : Array Slot), lv_has ls2 7 (zll B0 b a) → zLv σ2 → zHM B0 D cs σ2 H2 → va_S (zAA B0) s.heap H2 locs2 → W p l e R s m args below meth c H2 locs2 (cells + 1) (slots + 6) Q (F0 m 623 ls2 [])) : W p l e R s m args below meth c H locs cells slots Q (F0 m 486 ls []) := by
  obtain ⟨C, ⟨hX, hbl, hsz, hL⟩, hR, hXS⟩ := id K
  obtain ⟨hx, hb, -, -, -, hK, -⟩ := id C
  obtain ⟨ms, hI, hRr, hm, h7⟩ := id hv
  refine lv_aload_n hx hb d_law_486 rfl (lv_at hl 3 rfl) ?_
  refine zl_arg K hS (k := 1) (lv_at hl 4 rfl) (lv_at hl 0 rfl) rfl (by omega) d_law_487 d_law_488 d_law_490 d_law_491 d_law_492 ?_
  refine lv_aload_n hx hb d_law_493 rfl (lv_at hl 1 rfl) ?_
  refine zl_S K hc hl.1 hH hS (zh_stack hlt hI hRr hm h7) zyS_w.1 zyS_w.2.1 zyS_w.2.2.1 zyS_w.2.2.2.1 (by decide +kernel) d_law_494 ?_
  intro k τ H1 locs1 hp hH1 hS1
  obtain ⟨k1, hz⟩ := hp
  refine lv_istore hx hb d_law_497 (lv' := (5, .int k) :: zll B0 b a) hl (by omega) rfl (fun ls1 hl1 => ?_)
  refine lv_aload_n hx hb d_law_499 rfl (lv_at hl1 3 rfl) ?_
  refine zl_arg K hS1 (k := 1) (lv_at hl1 5 rfl) (lv_at hl1 1 rfl) rfl (by omega) d_law_500 d_law_501 d_law_503 d_law_504 d_law_505 ?_
  refine zl_V C hH1 hS1 hl1.1 (M1 := 201) (r := 160) (as := [.int (xs (a + 1))]) (rest := []) (by omega) rfl zlk_91 rfl k1 (show 2 ≤ zml 201 by decide) (show 0 ≤ 8 by omega) rfl d_law_506 (d := 60) ⟨by omega, by omega⟩ hc hz ?_
  intro r2 σ2 H2 locs2 hz2 hH2 hS2
  obtain ⟨w, rfl, k2, hz3⟩ := hz2
  show W p l e R s m args below meth c H2 locs2 (cells + 1) (slots + 6) Q (F0 m 509 ls1 [.int w])
  refine lv_istore hx hb d_law_509 (lv' := (6, .int w) :: (5, .int k) :: zll B0 b a) hl1 (by omega) rfl (fun ls2 hl2 => ?_)
  refine lv_aload_n hx hb d_law_511 rfl (lv_at hl2 4 rfl) ?_
  refine zl_V C hH2 hS2 hl2.1 (M1 := 127) (r := 160) (as := []) (rest := []) (by omega) rfl zlk_92 rfl k2 (show 1 ≤ zml 127 by decide) (show 0 ≤ 8 by omega) rfl d_law_512 (d := 60) ⟨by omega, by omega⟩ hc hz3 ?_
  intro r3 σ3 H3 locs3 hz4 hH3 hS3
  obtain ⟨rfl, hv3, k7, n7, hB⟩ := hz4
  have hl3 : lv_has ls2 7 (zll B0 b a) := lv_sub2 hl2 (fun q hq => List.mem_cons_of_mem _ (List.mem_cons_of_mem _ hq))
  have fin : W p l e R s m args below meth c H3 locs3 (cells + 1) (slots + 6) Q (F0 m 539 ls2 []) := lv_goto hx hb d_law_539 (tgt := 623) rfl (back σ3 H3 locs3 ls2 hl3 hv3 hH3 hS3)
  show W p l e R s m args below meth c H3 locs3 (cells + 1) (slots + 6) Q (F0 m 515 ls2 [.int k])
  refine lv_iload hx hb d_law_515 (lv_at hl2 1 rfl) ?_
  refine lv_icmp_eq hx hb d_law_517 (tgt := 522) rfl (fun _ => ?_) (fun h => absurd rfl h)
  refine lv_iload hx hb d_law_522 (lv_at hl2 1 rfl) ?_
  refine lv_if_ne hx hb d_law_524 (tgt := 539) rfl (fun _ => fin) (fun h => ?_)
  have hk0 : k = 0 := h
  refine lv_aload_n hx hb d_law_527 rfl (lv_at hl2 3 rfl) ?_
  refine lv_iconst hx hb d_law_528 (v := 0) rfl ?_
  refine z_lald (xa := xa) (r := 187) hx hb hK hH3 k7 (by rw [n7]; show vp_in (nI 0) 1; exact vp_in_nI (by omega) (by omega)) d_law_529 ?_
  refine lv_iload hx hb d_law_530 (lv_at hl2 0 rfl) ?_
  refine lv_i2l hx hb d_law_532 (v := w.toInt64) rfl ?_
  refine W.lcmp hx hb d_law_533 ?_
  refine lv_if_eq hx hb d_law_534 (tgt := 539) rfl (fun _ => fin) (fun h => absurd ?_ h)
  show lg_cmp (zB σ3 187 0) w.toInt64 = 0
  rw [hB hk0]
  simp [lg_cmp]
theorem zl_c15 (K : zLK p s m args c R B0 D cs xa b L xs) (hc : cells + 1 ≤ R.cells ∧ slots + 6 ≤ R.slots) (hlt : l.stackTraces = false) (hl : lv_has ls 7 (zll B0 b a)) (ha : a + 5 < L) (hH : zHM B0 D cs σ H) (hS : va_S (zAA B0) s.heap H locs) (hv : zLv σ) (back : ∀ (σ2 : zH) (H2 : Heap) (locs2 : List Loc) (ls2 : Array Slot), lv_has ls2 7 (zll B0 b a) → zLv σ2 → zHM B0 D cs σ2 H2 → va_S (zAA B0) s.heap H2 locs2 → W p l e R s m args below meth c H2 locs2 (cells + 1) (slots + 6) Q (F0 m 623 ls2 [])) : W p l e R s m args below meth c H locs cells slots Q (F0 m 542 ls []) := by
  obtain ⟨C, ⟨hX, hbl, hsz, hL⟩, hR, hXS⟩ := id K
  obtain ⟨hx, hb, -, -, -, hK, -⟩ := id C
  obtain ⟨ms, hI, hRr, hm, h7⟩ := id hv
  refine lv_aload_n hx hb d_law_542 rfl (lv_at hl 3 rfl) ?_
  refine zl_arg K hS (k := 1) (lv_at hl 4 rfl) (lv_at hl 0 rfl) rfl (by omega) d_law_543 d_law_544 d_law_546 d_law_547 d_law_548 ?_
  refine lv_aload_n hx hb d_law_549 rfl (lv_at hl 1 rfl) ?_
  refine zl_S K hc hl.1 hH hS (zh_at hlt hI hRr hm h7) zyA_w.1 zyA_w.2.1 zyA_w.2.2.1 zyA_w.2.2.2.1 (by decide +kernel) d_law_550 ?_
  intro k τ H1 locs1 hp hH1 hS1
  obtain ⟨k1, hz⟩ := hp
  refine lv_istore hx hb d_law_553 (lv' := (5, .int k) :: zll B0 b a) hl (by omega) rfl (fun ls1 hl1 => ?_)
  refine lv_aload_n hx hb d_law_555 rfl (lv_at hl1 3 rfl) ?_
  refine zl_arg K hS1 (k := 1) (lv_at hl1 5 rfl) (lv_at hl1 1 rfl) rfl (by omega) d_law_556 d_law_557 d_law_559 d_law_560 d_law_561 ?_
  refine zl_V C hH1 hS1 hl1.1 (M1 := 203) (r := 160) (as := [.int (xs (a + 1))]) (rest := []) (by omega) rfl zlk_97 rfl k1 (show 2 ≤ zml 203 by decide) (show 0 ≤ 8 by omega) rfl d_law_562 (d := 60) ⟨by omega, by omega⟩ hc hz ?_
  intro r2 σ2 H2 locs2 hz2 hH2 hS2
  obtain ⟨w, rfl, k2, hz3⟩ := hz2
  show W p l e R s m args below meth c H2 locs2 (cells + 1) (slots + 6) Q (F0 m 565 ls1 [.int w])
  refine lv_istore hx hb d_law_565 (lv' := (6, .int w) :: (5, .int k) :: zll B0 b a) hl1 (by omega) rfl (fun ls2 hl2 => ?_)
  refine lv_aload_n hx hb d_law_567 rfl (lv_at hl2 4 rfl) ?_
  refine zl_V C hH2 hS2 hl2.1 (M1 := 127) (r := 160) (as := []) (rest := []) (by omega) rfl zlk_92 rfl k2 (show 1 ≤ zml 127 by decide) (show 0 ≤ 8 by omega) rfl d_law_568 (d := 60) ⟨by omega, by omega⟩ hc hz3 ?_
  intro r3 σ3 H3 locs3 hz4 hH3 hS3
  obtain ⟨rfl, hv3, k7, n7, hB⟩ := hz4
  have hl3 : lv_has ls2 7 (zll B0 b a) := lv_sub2 hl2 (fun q hq => List.mem_cons_of_mem _ (List.mem_cons_of_mem _ hq))
  have fin : W p l e R s m args below meth c H3 locs3 (cells + 1) (slots + 6) Q (F0 m 595 ls2 []) := lv_goto hx hb d_law_595 (tgt := 623) rfl (back σ3 H3 locs3 ls2 hl3 hv3 hH3 hS3)
  show W p l e R s m args below meth c H3 locs3 (cells + 1) (slots + 6) Q (F0 m 571 ls2 [.int k])
  refine lv_iload hx hb d_law_571 (lv_at hl2 1 rfl) ?_
  refine lv_icmp_eq hx hb d_law_573 (tgt := 578) rfl (fun _ => ?_) (fun h => absurd rfl h)
  refine lv_iload hx hb d_law_578 (lv_at hl2 1 rfl) ?_
  refine lv_if_ne hx hb d_law_580 (tgt := 595) rfl (fun _ => fin) (fun h => ?_)
  have hk0 : k = 0 := h
  refine lv_aload_n hx hb d_law_583 rfl (lv_at hl2 3 rfl) ?_
  refine lv_iconst hx hb d_law_584 (v := 0) rfl ?_
  refine z_lald (xa := xa) (r := 187) hx hb hK hH3 k7 (by rw [n7]; show vp_in (nI 0) 1; exact vp_in_nI (by omega) (by omega)) d_law_585 ?_
  refine lv_iload hx hb d_law_586 (lv_at hl2 0 rfl) ?_
  refine lv_i2l hx hb d_law_588 (v := w.toInt64) rfl ?_
  refine W.lcmp hx hb d_law_589 ?_
  refine lv_if_eq hx hb d_law_590 (tgt := 595) rfl (fun _ => fin) (fun h => absurd ?_ h)
  show lg_cmp (zB σ3 187 0) w.toInt64 = 0
  rw [hB hk0]
  simp [lg_cmp]
end ZLT
