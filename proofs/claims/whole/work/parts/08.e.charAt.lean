/-! String.charAt of the words' text -/
/-- the words of a method: its code, then all good ones of the tables -/
def zwsY (y : MethodName) (b : ByteArray) (L : Nat) (r : Option FieldType) : List Cond := .code y b L r :: lw_tbl.filter goodWord
theorem zgood {y : MethodName} {b : ByteArray} {L : Nat} {r : Option FieldType} (h : Cond.code y b L r ∈ lw_tbl) : GoodIn (lw_tbl.filter goodWord) (zwsY y b L r) := by
  intro w hw
  rcases List.mem_cons.mp hw with rfl | hw
  · exact ⟨List.mem_filter.mpr ⟨h, rfl⟩, Or.inl rfl⟩
  · exact ⟨hw, good_of_word (List.mem_filter.mp hw).2⟩
theorem zwsY_hw {y : MethodName} {b : ByteArray} {L : Nat} {r : Option FieldType} {args : Array Value} {s : State} (h : ∀ w ∈ zwsY y b L r, w.before args s = true) : ∀ w ∈ lw_tbl, goodWord w = true → w.before args s = true := fun w h1 h2 => h w (List.mem_cons_of_mem _ (List.mem_filter.mpr ⟨h1, h2⟩))
theorem zhw_ts {args : Array Value} {s : State} (h : ∀ w ∈ lw_tbl, goodWord w = true → w.before args s = true) : ∀ w ∈ lw_tbl.filter goodWord, w.before args s = true := fun w hw => h w (List.mem_filter.mp hw).1 (List.mem_filter.mp hw).2
abbrev bj_pci : ByteArray := prog_24_method_11_code
def yj_pci : MethodName := ⟨"jdk/internal/util/Preconditions", "checkIndex", "(IILjava/util/function/BiFunction;)I"⟩
abbrev bj_ci : ByteArray := prog_19_method_155_code
def yj_ci : MethodName := ⟨"java/lang/String", "checkIndex", "(II)V"⟩
abbrev bj_lca : ByteArray := prog_20_method_2_code
def yj_lca : MethodName := ⟨"java/lang/StringLatin1", "charAt", "([BI)C"⟩
abbrev bj_isl : ByteArray := prog_19_method_154_code
def yj_isl : MethodName := ⟨"java/lang/String", "isLatin1", "()Z"⟩
abbrev bj_ca : ByteArray := prog_19_method_56_code
def yj_ca : MethodName := ⟨"java/lang/String", "charAt", "(I)C"⟩
theorem wj_pci : Cond.code yj_pci bj_pci 3 (some .int) ∈ lw_tbl := List.mem_of_getElem? (i := 624) (by decide +kernel)
theorem wj_ci : Cond.code yj_ci bj_ci 2 none ∈ lw_tbl := List.mem_of_getElem? (i := 619) (by decide +kernel)
theorem wj_lca : Cond.code yj_lca bj_lca 2 (some .char) ∈ lw_tbl := List.mem_of_getElem? (i := 616) (by decide +kernel)
theorem wj_isl : Cond.code yj_isl bj_isl 1 (some .boolean) ∈ lw_tbl := List.mem_of_getElem? (i := 611) (by decide +kernel)
theorem wj_ca : Cond.code yj_ca bj_ca 2 (some .char) ∈ lw_tbl := List.mem_of_getElem? (i := 607) (by decide +kernel)
theorem wj1 : Cond.static yj_pci ∈ lw_tbl := List.mem_of_getElem? (i := 623) (by decide +kernel)
theorem wj2 : Cond.methodLink "java/lang/String" 1059 yj_pci ∈ lw_tbl := List.mem_of_getElem? (i := 622) (by decide +kernel)
theorem wj3 : Cond.initialized "jdk/internal/util/Preconditions" ∈ lw_tbl := List.mem_of_getElem? (i := 127) (by decide +kernel)
theorem wj4 : Cond.fieldLink "java/lang/String" 1053 "jdk/internal/util/Preconditions" "SIOOBE_FORMATTER" "Ljava/util/function/BiFunction;" ∈ lw_tbl := List.mem_of_getElem? (i := 620) (by decide +kernel)
theorem wj5 : Cond.static yj_ci ∈ lw_tbl := List.mem_of_getElem? (i := 618) (by decide +kernel)
theorem wj6 : Cond.methodLink "java/lang/StringLatin1" 9 yj_ci ∈ lw_tbl := List.mem_of_getElem? (i := 617) (by decide +kernel)
theorem wj7 : Cond.initialized "java/lang/String" ∈ lw_tbl := List.mem_of_getElem? (i := 125) (by decide +kernel)
theorem wj8 : Cond.static yj_lca ∈ lw_tbl := List.mem_of_getElem? (i := 615) (by decide +kernel)
theorem wj9 : Cond.methodLink "java/lang/String" 495 yj_lca ∈ lw_tbl := List.mem_of_getElem? (i := 614) (by decide +kernel)
theorem wj10 : Cond.initialized "java/lang/StringLatin1" ∈ lw_tbl := List.mem_of_getElem? (i := 126) (by decide +kernel)
theorem wj11 : Cond.instanceMethod yj_isl ∈ lw_tbl := List.mem_of_getElem? (i := 609) (by decide +kernel)
theorem wj12 : Cond.methodLink "java/lang/String" 492 yj_isl ∈ lw_tbl := List.mem_of_getElem? (i := 608) (by decide +kernel)
theorem wj13 : Cond.selects "java/lang/String" yj_isl yj_isl ∈ lw_tbl := List.mem_of_getElem? (i := 610) (by decide +kernel)
theorem wj14 : Cond.fieldLink "java/lang/String" 38 "java/lang/String" "COMPACT_STRINGS" "Z" ∈ lw_tbl := List.mem_of_getElem? (i := 612) (by decide +kernel)
theorem wj15 : Cond.fieldLink "java/lang/String" 15 "java/lang/String" "coder" "B" ∈ lw_tbl := List.mem_of_getElem? (i := 1685) (by decide +kernel)
theorem wj16 : Cond.fieldLink "java/lang/String" 9 "java/lang/String" "value" "[B" ∈ lw_tbl := List.mem_of_getElem? (i := 1686) (by decide +kernel)
theorem wj17 : Cond.instanceMethod yj_ca ∈ lw_tbl := List.mem_of_getElem? (i := 605) (by decide +kernel)
theorem wj18 : Cond.methodLink "ConjurerDesk$Tokens" 63 yj_ca ∈ lw_tbl := List.mem_of_getElem? (i := 604) (by decide +kernel)
theorem wj19 : Cond.selects "java/lang/String" yj_ca yj_ca ∈ lw_tbl := List.mem_of_getElem? (i := 606) (by decide +kernel)
set_option maxHeartbeats 4000000 in
theorem j_pci (l : Launch) {i n : Int32} (r : Option Nat) (h0 : ¬ i < 0) (h1 : i < n) : Met l yj_pci (zwsY yj_pci bj_pci 3 (some .int)) ({ frames := 0, cells := 0, slots := 0, locals := 0 }) (fun a _ => a = ([.int i, .int n, va_rf r] : List Value).toArray) (QcRead i) 0 0 (fun _ => False) := by
  refine Met.ofW (cc := bj_pci) (maxL := 3) (ret := some .int) (by decide) rfl ?_
  intro p e s m args below meth c s₁ B hml hv
  have hx := B.exec
  have hb := B.bytes
  have hr := B.returns
  have hlocks := B.notSynchronized
  subst hv
  have hl := lv_entry ([.int i, .int n, va_rf r]) (n := 3) (by cases r <;> exact Nat.le_of_ble_eq_true rfl)
  rw [lg_entry_eq]
  generalize (lg_sl ([.int i, .int n, va_rf r]) ++ List.replicate (3 - (lg_sl ([.int i, .int n, va_rf r])).length) Slot.unset).toArray = ls at hl ⊢
  have hl : lv_has ls 3 [(0, .int i), (1, .int n), (2, va_rf r)] := hl
  refine lv_iload_n hx hb (k := 0) (show decode bj_pci 0 = _ by decide +kernel) rfl (lv_at hl 0 rfl) ?_
  refine lv_if_lt (tgt := 9) hx hb (off := 8) (show decode bj_pci 1 = _ by decide +kernel) (by decide) (fun h => absurd h h0) (fun _ => ?_)
  refine lv_iload_n hx hb (k := 0) (show decode bj_pci 4 = _ by decide +kernel) rfl (lv_at hl 0 rfl) ?_
  refine lv_iload_n hx hb (k := 1) (show decode bj_pci 5 = _ by decide +kernel) rfl (lv_at hl 1 rfl) ?_
  refine lv_icmp_lt (tgt := 16) hx hb (off := 10) (show decode bj_pci 6 = _ by decide +kernel) (by decide) (fun _ => ?_) (fun h => absurd h1 h)
  refine lv_iload_n hx hb (k := 0) (show decode bj_pci 16 = _ by decide +kernel) rfl (lv_at hl 0 rfl) ?_
  exact W.iret (v := i) hx hb hr (fun t ht hW => ⟨rfl, ht⟩) (fun q hq => by cases hq) (show decode bj_pci 17 = _ by decide +kernel)
def QcV : Array Value → State → Outcome → State → Prop := fun _ st o t => o = .returned none ∧ t.heap = st.heap
theorem W.callV0 {p : Program} {l : Launch} {e : Env} {R : Room} {s : State} {m : MethodId} {args : Array Value} {below : List Frame} {meth : Method} {c : Code} {H : Heap} {locs : List Loc} {cells slots : Nat} {Q : State → Prop} {g : JFrame} {rest : List Value} {a : Array Value} (hr : CallRun p l e R s m args below meth c H locs cells slots 0 0 g rest (QcV a) (fun _ => False)) (kk : W p l e R s m args below meth c H locs cells slots Q { g with pc := g.pc + 3, stack := rest }) : W p l e R s m args below meth c H locs cells slots Q g := by
  intro T hT X
  obtain ⟨v, st₀, t, T', L, h0, X', hL, e1, ⟨hv, hh⟩, st⟩ := hr T hT X
  cases hv
  obtain ⟨t2, a1, b1⟩ := kk T' (by rw [e1, hh, h0]) (Stand.forget X' (fun q h => (hL q h).elim))
  exact ⟨t2, st t2 a1, b1⟩
set_option maxHeartbeats 4000000 in
theorem j_ci (l : Launch) {B0 : Nat} {i n : Int32} (h0 : ¬ i < 0) (h1 : i < n) : Met l yj_ci (zwsY yj_ci bj_ci 2 none) ({ frames := 1, cells := 0, slots := 0, locals := 22 }) (fun a U => a = ([.int i, .int n] : List Value).toArray ∧ va_Zq "jdk/internal/util/Preconditions" "SIOOBE_FORMATTER" "Ljava/util/function/BiFunction;" (zAA B0) U U.heap) QcV 0 0 (fun _ => False) := by
  refine Met.ofW (cc := bj_ci) (maxL := 2) (ret := none) (by decide) rfl ?_
  intro p e s m args below meth c s₁ B hml hv
  have hx := B.exec
  have hb := B.bytes
  have hr := B.returns
  have hlocks := B.notSynchronized
  have hw := zwsY_hw (atoms_spec (ws := zwsY yj_ci bj_ci 2 none) B.pre)
  have hown : s.vm.findClass "java/lang/String" = some m.cls := findClass_of_methodNamed B.named
  obtain ⟨rfl, hZ⟩ := hv
  have hS : va_S (zAA B0) s.heap s.heap [] := va_S.rf
  have hl := lv_entry ([.int i, .int n]) (n := 2) (Nat.le_of_ble_eq_true rfl)
  rw [lg_entry_eq]
  generalize (lg_sl ([.int i, .int n]) ++ List.replicate (2 - (lg_sl ([.int i, .int n])).length) Slot.unset).toArray = ls at hl ⊢
  have hl : lv_has ls 2 [(0, .int i), (1, .int n)] := hl
  refine lv_iload_n hx hb (k := 0) (show decode bj_ci 0 = _ by decide +kernel) rfl (lv_at hl 0 rfl) ?_
  refine lv_iload_n hx hb (k := 1) (show decode bj_ci 1 = _ by decide +kernel) rfl (lv_at hl 1 rfl) ?_
  have go : ∀ r : Option Nat, W p l e (headSpec (zwsY yj_ci bj_ci 2 none) { frames := 1, cells := 0, slots := 0, locals := 22 }).room s m #[.int i, .int n] below meth c s.heap [] 0 0 (MQ below QcV #[.int i, .int n] s 0 0 (fun _ => False)) (F0 m (2 + 3) ls (va_rf r :: [.int n, .int i])) := by
    intro r
    refine W.callR (W.runS (As := [.int i, .int n, va_rf r]) (rest := []) ⟨hx, hb, hml, hown, zhw_ts hw⟩ (j_pci l r h0 h1) ⟨callB_of 3 (zhw_ts hw) (zgood wj_pci) rfl rfl rfl (hw _ wj3 rfl) (hw _ wj2 rfl) (by decide +kernel) ⟨Nat.le_of_ble_eq_true rfl, Nat.le_of_ble_eq_true rfl⟩, hw _ wj1 rfl⟩ ⟨fun _ _ _ _ q => q, fun _ _ _ => rfl⟩ rfl rfl hl.1 rfl (lv_room (Nat.le_of_ble_eq_true rfl)) (show decode bj_ci 5 = _ by decide +kernel) ⟨Nat.zero_le _, Nat.zero_le _⟩) ?_
    refine lv_pop (pc := 8) hx hb (show decode bj_ci 8 = _ by decide +kernel) rfl ?_
    exact W.vret (pc := 9) hx hb hr (fun t ht hW => ⟨rfl, ht⟩) (fun q hq => by cases hq) (show decode bj_ci 9 = _ by decide +kernel)
  rcases hZ with hZ | ⟨t, hZ⟩
  · exact va_gets hx hb hZ hS hown (hw _ wj4 rfl) (fun _ h => h) (show decode bj_ci 2 = _ by decide +kernel) (go none)
  · exact va_gets hx hb hZ hS hown (hw _ wj4 rfl) (fun _ h => h) (show decode bj_ci 2 = _ by decide +kernel) (go (some t))
theorem zwch_c : ∀ j, j < 280 → ((zwch j &&& (Int16.ofInt 255).toInt32).toUInt32 % 65536).toInt32 = zwch j ∧ narrow .char (.int (zwch j)) = .int (zwch j) := by decide +kernel
set_option maxHeartbeats 4000000 in
theorem j_lca (l : Launch) {B0 xv : Nat} {i : Int32} (hin : vp_in i 280) : Met l yj_lca (zwsY yj_lca bj_lca 2 (some .char)) ({ frames := 2, cells := 0, slots := 0, locals := 43 }) (fun a U => a = ([.ref xv, .int i] : List Value).toArray ∧ va_Zq "jdk/internal/util/Preconditions" "SIOOBE_FORMATTER" "Ljava/util/function/BiFunction;" (zAA B0) U U.heap ∧ va_T .byte xv 280 (fun j => .int (zwch j)) (zAA B0) U U.heap) (QcRead (zwch i.toNatClampNeg)) 0 0 (fun _ => False) := by
  refine Met.ofW (cc := bj_lca) (maxL := 2) (ret := some .char) (by decide) rfl ?_
  intro p e s m args below meth c s₁ B hml hv
  have hx := B.exec
  have hb := B.bytes
  have hr := B.returns
  have hlocks := B.notSynchronized
  have hw := zwsY_hw (atoms_spec (ws := zwsY yj_lca bj_lca 2 (some .char)) B.pre)
  have hown : s.vm.findClass "java/lang/StringLatin1" = some m.cls := findClass_of_methodNamed B.named
  obtain ⟨rfl, hZ, hT⟩ := hv
  have hS : va_S (zAA B0) s.heap s.heap [] := va_S.rf
  obtain ⟨j, hj, rfl⟩ := vp_in_of hin (by omega)
  have ecl : (nI j).toNatClampNeg = j := nI_clamp (by omega)
  have hl := lv_entry ([.ref xv, .int (nI j)]) (n := 2) (Nat.le_of_ble_eq_true rfl)
  rw [lg_entry_eq]
  generalize (lg_sl ([.ref xv, .int (nI j)]) ++ List.replicate (2 - (lg_sl ([.ref xv, .int (nI j)])).length) Slot.unset).toArray = ls at hl ⊢
  have hl : lv_has ls 2 [(0, .ref xv), (1, .int (nI j))] := hl
  refine lv_iload_n hx hb (k := 1) (show decode bj_lca 0 = _ by decide +kernel) rfl (lv_at hl 1 rfl) ?_
  refine lv_aload_n hx hb (k := 0) (show decode bj_lca 1 = _ by decide +kernel) rfl (lv_at hl 0 rfl) ?_
  refine va_tlen (v := nI 280) hx hb hT hS rfl (show decode bj_lca 2 = _ by decide +kernel) ?_
  refine W.callV0 (W.runS (As := [.int (nI j), .int (nI 280)]) (rest := []) ⟨hx, hb, hml, hown, zhw_ts hw⟩ (j_ci l (B0 := B0) (nI_pos (by omega)) (nI_lt hj (by omega))) ⟨callB_of 2 (zhw_ts hw) (zgood wj_ci) rfl rfl rfl (hw _ wj7 rfl) (hw _ wj6 rfl) (by decide +kernel) ⟨Nat.le_of_ble_eq_true rfl, Nat.le_of_ble_eq_true rfl⟩, hw _ wj5 rfl⟩ ⟨fun a U g mk q => ⟨q.1, va_Zq.moved (u := U) (U := U.calling g mk a) (Vm.Alike.refl U.vm) q.2⟩, fun U hU hW => ⟨rfl, by rw [hU]; exact hZ.moved hW.alike⟩⟩ rfl rfl hl.1 rfl (lv_room (Nat.le_of_ble_eq_true rfl)) (show decode bj_lca 3 = _ by decide +kernel) ⟨Nat.zero_le _, Nat.zero_le _⟩) ?_
  refine lv_aload_n (pc := 6) hx hb (k := 0) (show decode bj_lca 6 = _ by decide +kernel) rfl (lv_at hl 0 rfl) ?_
  refine lv_iload_n hx hb (k := 1) (show decode bj_lca 7 = _ by decide +kernel) rfl (lv_at hl 1 rfl) ?_
  refine va_tb hx hb hT hS hin rfl (show decode bj_lca 8 = _ by decide +kernel) ?_
  refine lv_sipush hx hb (n := 255) (show decode bj_lca 9 = _ by decide +kernel) rfl ?_
  refine lv_iand hx hb (show decode bj_lca 12 = _ by decide +kernel) ?_
  refine lv_i2c (v := zwch j) hx hb (show decode bj_lca 13 = _ by decide +kernel) (by rw [ecl]; exact (zwch_c j hj).1) ?_
  exact W.zret hx hb hr (zwch_c j hj).2 (fun t ht hW => ⟨by rw [ecl], ht⟩) (fun q hq => by cases hq) (show decode bj_lca 14 = _ by decide +kernel)
set_option maxHeartbeats 4000000 in
theorem j_isl (l : Launch) {B0 a : Nat} : Met l yj_isl (zwsY yj_isl bj_isl 1 (some .boolean)) ({ frames := 0, cells := 0, slots := 0, locals := 0 }) (fun v U => v = ([.ref a] : List Value).toArray ∧ va_Z "java/lang/String" "COMPACT_STRINGS" "Z" (.int 1) (zAA B0) U U.heap ∧ va_OF "java/lang/String" "coder" "B" (.int 0) a (zAA B0) U U.heap) (QcRead 1) 0 0 (fun _ => False) := by
  refine Met.ofW (cc := bj_isl) (maxL := 1) (ret := some .boolean) (by decide) rfl ?_
  intro p e s m args below meth c s₁ B hml hv
  have hx := B.exec
  have hb := B.bytes
  have hr := B.returns
  have hlocks := B.notSynchronized
  have hw := zwsY_hw (atoms_spec (ws := zwsY yj_isl bj_isl 1 (some .boolean)) B.pre)
  have hown : s.vm.findClass "java/lang/String" = some m.cls := findClass_of_methodNamed B.named
  obtain ⟨rfl, hZ, hF⟩ := hv
  have hS : va_S (zAA B0) s.heap s.heap [] := va_S.rf
  have hl := lv_entry ([.ref a]) (n := 1) (Nat.le_of_ble_eq_true rfl)
  rw [lg_entry_eq]
  generalize (lg_sl ([.ref a]) ++ List.replicate (1 - (lg_sl ([.ref a])).length) Slot.unset).toArray = ls at hl ⊢
  have hl : lv_has ls 1 [(0, .ref a)] := hl
  refine va_gets hx hb hZ hS hown (hw _ wj14 rfl) (fun _ h => h) (show decode bj_isl 0 = _ by decide +kernel) ?_
  refine lv_if_eq (tgt := 17) hx hb (off := 14) (show decode bj_isl 3 = _ by decide +kernel) (by decide) (fun h => absurd h (by decide)) (fun _ => ?_)
  refine lv_aload_n hx hb (k := 0) (show decode bj_isl 6 = _ by decide +kernel) rfl (lv_at hl 0 rfl) ?_
  refine vk_getf hx hb hF hS hown (hw _ wj15 rfl) (fun _ h => h) (show decode bj_isl 7 = _ by decide +kernel) ?_
  refine lv_if_ne (tgt := 17) hx hb (off := 7) (show decode bj_isl 10 = _ by decide +kernel) (by decide) (fun h => absurd rfl h) (fun _ => ?_)
  refine lv_iconst (v := 1) (n := 1) hx hb (show decode bj_isl 13 = _ by decide +kernel) (by decide) ?_
  refine lv_goto (tgt := 18) hx hb (off := 4) (show decode bj_isl 14 = _ by decide +kernel) (by decide) ?_
  exact W.zret hx hb hr narrow_b1 (fun t ht hW => ⟨rfl, ht⟩) (fun q hq => by cases hq) (show decode bj_isl 18 = _ by decide +kernel)
set_option maxHeartbeats 4000000 in
theorem j_ca (l : Launch) {B0 : Nat} {xa : Nat → Nat} {i : Int32} (hin : vp_in i 280) : Met l yj_ca (zwsY yj_ca bj_ca 2 (some .char)) ({ frames := 3, cells := 0, slots := 0, locals := 64 }) (fun v U => v = ([.ref (xa 0), .int i] : List Value).toArray ∧ zXT B0 xa U) (QcRead (zwch i.toNatClampNeg)) 0 0 (fun _ => False) := by
  refine Met.ofW (cc := bj_ca) (maxL := 2) (ret := some .char) (by decide) rfl ?_
  intro p e s m args below meth c s₁ B hml hv
  have hx := B.exec
  have hb := B.bytes
  have hr := B.returns
  have hlocks := B.notSynchronized
  have hw := zwsY_hw (atoms_spec (ws := zwsY yj_ca bj_ca 2 (some .char)) B.pre)
  have hown : s.vm.findClass "java/lang/String" = some m.cls := findClass_of_methodNamed B.named
  obtain ⟨rfl, -, -, -, ⟨b1, b2, b3, b4, b5, b6⟩, -⟩ := hv
  have hS : va_S (zAA B0) s.heap s.heap [] := va_S.rf
  obtain ⟨j, hj, rfl⟩ := vp_in_of hin (by omega)
  have ecl : (nI j).toNatClampNeg = j := nI_clamp (by omega)
  have hl := lv_entry ([.ref (xa 0), .int (nI j)]) (n := 2) (Nat.le_of_ble_eq_true rfl)
  rw [lg_entry_eq]
  generalize (lg_sl ([.ref (xa 0), .int (nI j)]) ++ List.replicate (2 - (lg_sl ([.ref (xa 0), .int (nI j)])).length) Slot.unset).toArray = ls at hl ⊢
  have hl : lv_has ls 2 [(0, .ref (xa 0)), (1, .int (nI j))] := hl
  refine lv_aload_n hx hb (k := 0) (show decode bj_ca 0 = _ by decide +kernel) rfl (lv_at hl 0 rfl) ?_
  obtain ⟨cell, c1, c2, c3, -⟩ := id b1
  refine W.callR (W.runV (C := "java/lang/String") (As := []) (rest := []) ⟨hx, hb, hml, hown, zhw_ts hw⟩ (j_isl l (B0 := B0) (a := xa 0)) ⟨callB_of 0 (zhw_ts hw) (zgood wj_isl) rfl rfl rfl (hw _ wj7 rfl) (hw _ wj12 rfl) (by decide +kernel) ⟨Nat.le_of_ble_eq_true rfl, Nat.le_of_ble_eq_true rfl⟩, hw _ wj11 rfl, hw _ wj13 rfl⟩ ⟨fun a U g mk q => ⟨q.1, va_Z.moved (u := U) (U := U.calling g mk a) (Vm.Alike.refl U.vm) q.2.1, va_OF.moved (u := U) (U := U.calling g mk a) (Vm.Alike.refl U.vm) q.2.2⟩, ⟨cell, c1, c2, c3⟩, fun U hU hW => ⟨rfl, by rw [hU]; exact b5.moved hW.alike, by rw [hU]; exact b2.moved hW.alike⟩⟩ rfl rfl hl.1 rfl (lv_room (Nat.le_of_ble_eq_true rfl)) (show decode bj_ca 1 = _ by decide +kernel) ⟨Nat.zero_le _, Nat.zero_le _⟩) ?_
  refine lv_if_eq (pc := 4) (tgt := 16) hx hb (off := 12) (show decode bj_ca 4 = _ by decide +kernel) (by decide) (fun h => absurd h (by decide)) (fun _ => ?_)
  refine lv_aload_n hx hb (k := 0) (show decode bj_ca 7 = _ by decide +kernel) rfl (lv_at hl 0 rfl) ?_
  refine vk_getf hx hb b3 hS hown (hw _ wj16 rfl) (fun _ h => h) (show decode bj_ca 8 = _ by decide +kernel) ?_
  refine lv_iload_n hx hb (k := 1) (show decode bj_ca 11 = _ by decide +kernel) rfl (lv_at hl 1 rfl) ?_
  refine W.callR (W.runS (As := [.ref (xa 2), .int (nI j)]) (rest := []) ⟨hx, hb, hml, hown, zhw_ts hw⟩ (j_lca l (B0 := B0) (xv := xa 2) hin) ⟨callB_of 2 (zhw_ts hw) (zgood wj_lca) rfl rfl rfl (hw _ wj10 rfl) (hw _ wj9 rfl) (by decide +kernel) ⟨Nat.le_of_ble_eq_true rfl, Nat.le_of_ble_eq_true rfl⟩, hw _ wj8 rfl⟩ ⟨fun a U g mk q => ⟨q.1, va_Zq.moved (u := U) (U := U.calling g mk a) (Vm.Alike.refl U.vm) q.2.1, va_T.moved (u := U) (U := U.calling g mk a) (Vm.Alike.refl U.vm) q.2.2⟩, fun U hU hW => ⟨rfl, by rw [hU]; exact b6.moved hW.alike, by rw [hU]; exact b4.moved hW.alike⟩⟩ rfl rfl hl.1 rfl (lv_room (Nat.le_of_ble_eq_true rfl)) (show decode bj_ca 12 = _ by decide +kernel) ⟨Nat.zero_le _, Nat.zero_le _⟩) ?_
  exact W.zret (pc := 15) hx hb hr (by rw [ecl]; exact (zwch_c j hj).2) (fun t ht hW => ⟨rfl, ht⟩) (fun q hq => by cases hq) (show decode bj_ca 15 = _ by decide +kernel)
set_option maxHeartbeats 4000000 in
theorem z_charAt {p : Program} {l : Launch} {e : Env} {R : Room} {s : State} {m : MethodId} {args : Array Value} {below : List Frame} {meth : Method} {c : Code} {H : Heap} {locs : List Loc} {cells slots : Nat} {Q : State → Prop} {cc : ByteArray} {pc nL : Nat} {ls : Array Slot} {rest : List Value} {B0 : Nat} {xa : Nat → Nat} {i : Int32} (hexec : p.tables.exec = Jvm.exec) (hb : c.code = cc) (hml : c.maxLocals = nL) (hls : ls.size = nL) (hw : ∀ w ∈ lw_tbl, goodWord w = true → w.before args s = true) (hown : s.vm.findClass "ConjurerDesk$Tokens" = some m.cls) (hX : zXT B0 xa s) (hS : va_S (zAA B0) s.heap H locs) (hR : 5 ≤ R.frames ∧ 200 ≤ R.locals) (hc : cells ≤ R.cells ∧ slots ≤ R.slots) (hin : vp_in i 280) (hst : (rest.map fun v => v.category).sum ≤ 8) (hdg : decode cc pc = .ok (.invokevirtual 63, 3))
    (kk : W p l e R s m args below meth c H locs cells slots Q (F0 m (pc + 3) ls (.int (zwch i.toNatClampNeg) :: rest))) : W p l e R s m args below meth c H locs cells slots Q (F0 m pc ls (.int i :: .ref (xa 0) :: rest)) := by
  obtain ⟨cell, c1, c2, c3, -⟩ := (id hX).2.2.2.1.1.kept hS.2.1
  exact W.callR (W.runV (C := "java/lang/String") (As := [.int i]) (rest := rest) ⟨hexec, hb, hml, hown, zhw_ts hw⟩ (j_ca l (B0 := B0) (xa := xa) hin) ⟨callB_of 1 (zhw_ts hw) (zgood wj_ca) rfl rfl rfl (hw _ wj7 rfl) (hw _ wj18 rfl) (by decide +kernel) ⟨by show 3 + 1 ≤ _; omega, by show 8 + (2 + 11) + 64 ≤ _; omega⟩, hw _ wj17 rfl, hw _ wj19 rfl⟩ ⟨fun a U g mk q => ⟨q.1, q.2.call⟩, ⟨cell, c1, c2, c3⟩, fun U hU hW => ⟨rfl, hX.mv hW (fun a h1 h2 => by rw [hU]; exact hS.2.1 a h1 h2)⟩⟩ rfl rfl hls rfl (lv_room hst) hdg ⟨by omega, by omega⟩) kk
