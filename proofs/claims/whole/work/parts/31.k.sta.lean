/-! the start: classes, arrays, texts, tables -/
theorem zins13 : ∀ k, k < 13 → Cond.instantiable (zcs k) (zFt.getD k []).length ∈ lw_tbl := by decide +kernel
theorem zov_s : Cond.arrayOver (.object "ConjurerDesk$Step") ∈ lw_tbl := by decide +kernel
theorem zov_w : Cond.arrayOver (.object "ConjurerDesk$Ways") ∈ lw_tbl := by decide +kernel
def zcx (a b c d e : ClassId) : Nat → ClassId := fun k => if k = 20 then a else if k = 21 then b else if k = 22 then c else if k = 23 then d else e
theorem zarr_p {s : State} {args : Array Value} {ty : FieldType} (h : (Cond.arrayClass ty).before args s = true) (hn : ∀ C, ty ≠ .object C) : ∃ c : ClassId, ArrOfT s c ty ∧ va_RA s c ty := by
  obtain ⟨c, k, comp, h1, h2, h3⟩ := Cond.arrayClass_spec (args := args) (first := s) (o := none) (s := s) (idx := []) h
  refine ⟨c, fun n z => ⟨fun k h => (by cases h), k, h2, comp, h3⟩, ?_⟩
  cases ty with
  | object C => exact absurd rfl (hn C)
  | _ => exact h1
theorem zarr_q {s : State} {args : Array Value} {C : String} (h : (Cond.arrayOver (.object C)).before args s = true) : ∃ c : ClassId, ArrOfT s c (.object C) ∧ va_RA s c (.object C) := by
  obtain ⟨comp, c, k, h1, h2, h3, h4, h5⟩ := Cond.arrayOver_spec (args := args) (first := s) (o := none) (s := s) (idx := []) h
  exact ⟨c, fun n z => ⟨fun k h => (by cases h), k, h3, comp, h4⟩, k, comp, h3, h4, h1, h5⟩
theorem zK_start {s : State} {args : Array Value} (hts : ∀ w ∈ lw_tbl, w.before args s = true) : ∃ (D : va_G) (cs : Nat → ClassId), va_K D zCl (zAt cs) s := by
  have h13 : ∀ k : Nat, ∃ q : ClassId × (Nat → Nat), ∀ r : vw_C, zCl[k]? = some r → u_Kn s r.1 r.2.1 r.2.2 q.1 q.2 := by
    intro k
    by_cases hk : k < 13
    · obtain ⟨C, T, N, ty, h1, h2, -⟩ := zcl_ok k hk
      have hC : zcs k = C := by unfold zcs; rw [h1]
      have hi := hts _ (zins13 k hk)
      rw [hC] at hi
      obtain ⟨c, iS, h⟩ := u_known (C := C) (T := T) (N := N) hts (fun w hw => (h2 w hw).1) hi
      refine ⟨(c, iS), fun r hr => ?_⟩
      cases Option.some.inj (h1.symm.trans hr)
      exact h
    · exact ⟨(0, fun _ => 0), fun r hr => absurd (List.getElem?_eq_some_iff.mp hr).1 (by show ¬ k < 13; exact hk)⟩
  obtain ⟨f, hf⟩ := Classical.axiomOfChoice h13
  obtain ⟨c0, a0, b0⟩ := zarr_p (hts _ zac_int) (fun C => by intro q; cases q)
  obtain ⟨c1, a1, b1⟩ := zarr_p (hts _ zac_long) (fun C => by intro q; cases q)
  obtain ⟨c2, a2, b2⟩ := zarr_p (hts _ zac_byte) (fun C => by intro q; cases q)
  obtain ⟨c3, a3, b3⟩ := zarr_q (hts _ zov_s)
  obtain ⟨c4, a4, b4⟩ := zarr_q (hts _ zov_w)
  refine ⟨(fun k => (f k).1, fun k => (f k).2), zcx c0 c1 c2 c3 c4, fun k r hr => hf k r hr, fun k q hq => ?_⟩
  match k, hq with
  | 0, hq => cases hq; exact ⟨a0, b0⟩
  | 1, hq => cases hq; exact ⟨a1, b1⟩
  | 2, hq => cases hq; exact ⟨a2, b2⟩
  | 3, hq => cases hq; exact ⟨a3, b3⟩
  | 4, hq => cases hq; exact ⟨a4, b4⟩
  | k + 5, hq => simp [zAt] at hq
theorem zex {s : State} {args : Array Value} {t : Term} {C : String} (h : (Cond.exactly t C).before args s = true) : ∃ a : Nat, t.eval args s none [] s = some (.ref a) := by
  obtain ⟨a, c, cA, kA, q1, -⟩ := Cond.exactly_spec (args := args) (first := s) (o := none) (s := s) (idx := []) (t := t) (cls := C) h
  exact ⟨a, q1⟩
abbrev zgv : List Cond := flatC (Jvm.Cond.and given_1 narrow_1)
abbrev ztT : Term := .static "ConjurerDesk$Table" "WAYS_TO_CHOOSE" "[I"
abbrev ztS : Term := .string "ConjurerDesk$Tokens" 61
abbrev ztV : Term := .field (.string "ConjurerDesk$Tokens" 61) "java/lang/String" "value" "[B"
set_option maxRecDepth 100000 in
theorem zgv_t : ∀ j, j < 100 → zgv[12 + j]? = some (Cond.eq (.elem ztT (.int (Int32.ofNat j))) (.int (zwtc j))) := by decide +kernel
set_option maxRecDepth 100000 in
theorem zgv_s : ∀ j, j < 280 → zgv[146 + j]? = some (Cond.eq (.elem ztV (.int (Int32.ofNat j))) (.int (zwch j))) := by decide +kernel
theorem zgv_1 : Cond.eq (.static "java/lang/String" "COMPACT_STRINGS" "Z") (.int 1) ∈ zgv ∧ Cond.isRef (.static "jdk/internal/util/Preconditions" "SIOOBE_FORMATTER" "Ljava/util/function/BiFunction;") ∈ zgv ∧ Cond.arrayOf ztT .int ∈ zgv ∧ Cond.eq (.length ztT) (.int 100) ∈ zgv ∧ Cond.isRef (.static Bundle.tN "UNASSIGNED_STACK" Bundle.steD) ∈ zgv ∧ Cond.isRef (.static Bundle.tN "SUPPRESSED_SENTINEL" Bundle.listD) ∈ zgv := by decide +kernel
theorem zgv_2 : Cond.exactly ztS "java/lang/String" ∈ zgv ∧ Cond.eq (.field ztS "java/lang/String" "coder" "B") (.int 0) ∈ zgv ∧ Cond.arrayOf ztV .byte ∈ zgv ∧ Cond.eq (.length ztV) (.int 280) ∈ zgv ∧ Cond.exactly (.string "ConjurerDesk" 212) "java/lang/String" ∈ zgv ∧ Cond.exactly (.string "ConjurerDesk" 225) "java/lang/String" ∈ zgv := by decide +kernel
theorem zst_1 : Cond.laysStatic "java/lang/String" "COMPACT_STRINGS" "Z" ∈ lw_tbl ∧ Cond.initialized "java/lang/String" ∈ lw_tbl ∧ Cond.laysStatic "jdk/internal/util/Preconditions" "SIOOBE_FORMATTER" "Ljava/util/function/BiFunction;" ∈ lw_tbl ∧ Cond.initialized "jdk/internal/util/Preconditions" ∈ lw_tbl ∧ Cond.laysStatic "ConjurerDesk$Table" "WAYS_TO_CHOOSE" "[I" ∈ lw_tbl ∧ Cond.initialized "ConjurerDesk$Table" ∈ lw_tbl := by decide +kernel
theorem zst_2 : Cond.laysStatic Bundle.tN "UNASSIGNED_STACK" Bundle.steD ∈ lw_tbl ∧ Cond.laysStatic Bundle.tN "SUPPRESSED_SENTINEL" Bundle.listD ∈ lw_tbl ∧ Cond.initialized Bundle.tN ∈ lw_tbl ∧ Cond.stringRef "ConjurerDesk$Tokens" 61 zWt ∈ lw_tbl ∧ Cond.stringRef "ConjurerDesk" 212 "looks are 1 to 50" ∈ lw_tbl ∧ Cond.stringRef "ConjurerDesk" 225 "no card of the start is there" ∈ lw_tbl := by decide +kernel
theorem zst_3 : Cond.castable "java/lang/IllegalArgumentException" "java/lang/IllegalArgumentException" ∈ lw_tbl ∧ Cond.castable "java/util/NoSuchElementException" "java/util/NoSuchElementException" ∈ lw_tbl ∧ Cond.declares (Bundle.initS "java/lang/RuntimeException") ∈ lw_tbl ∧ Cond.declares (Bundle.initS "java/lang/Exception") ∈ lw_tbl ∧ Cond.declares (Bundle.initS Bundle.tN) ∈ lw_tbl := by decide +kernel
def zax (a b c d e : Nat) : Nat → Nat := fun k => if k = 0 then a else if k = 1 then b else if k = 2 then c else if k = 4 then d else e
theorem zXT_start {s : State} {args : Array Value} {B0 : Nat} (hB : s.heap.size = B0 + 1) (hts : ∀ w ∈ lw_tbl, w.before args s = true) (hgv : (Jvm.Cond.and given_1 narrow_1).before args s = true) : ∃ xa : Nat → Nat, zXT B0 xa s ∧ zXS B0 xa s := by
  have hs : ∀ w ∈ zgv, w.before args s = true := flat_of_before _ hgv
  have hA : ∀ a : Nat, a < s.heap.size → ¬ zAA B0 a := fun a h => by show ¬ (B0 + 1 ≤ a); omega
  obtain ⟨g1, g2, g3, g4, g5, g6⟩ := zgv_1
  obtain ⟨e1, e2, e3, e4, e5, e6⟩ := zgv_2
  obtain ⟨t1, t2, t3, t4, t5, t6⟩ := zst_1
  obtain ⟨u1, u2, u3, u4, u5, u6⟩ := zst_2
  obtain ⟨v1, v2, v3, v4, v5⟩ := zst_3
  obtain ⟨x0, hx0⟩ := zex (hs _ e1)
  obtain ⟨x4, hx4⟩ := zex (hs _ e5)
  obtain ⟨x5, hx5⟩ := zex (hs _ e6)
  obtain ⟨x1, hx1, hT1⟩ := va_Tof (tm := ztT) (N := 100) (f := fun j => .int (zwtc j)) (A := zAA B0) (by omega) (hs _ g3) (va_eqt (hs _ g4)) (fun j hj => va_eqt (hs _ (List.mem_of_getElem? (zgv_t j hj)))) hA
  obtain ⟨x2, hx2, hT2⟩ := va_Tof (tm := ztV) (N := 280) (f := fun j => .int (zwch j)) (A := zAA B0) (by omega) (hs _ e3) (va_eqt (hs _ e4)) (fun j hj => va_eqt (hs _ (List.mem_of_getElem? (zgv_s j hj)))) hA
  refine ⟨zax x0 x1 x2 x4 x5, ⟨⟨va_AO.of (hts _ zov_s), va_AO.of (hts _ zov_w)⟩, fun q hq h3 => ?_, vk_R.of (hts _ u4) hx0, ⟨va_Oof (hs _ e1) hx0 hA, vk_OFof hx0 (va_eqt (hs _ e2)) hA, vk_OFof hx0 hx2 hA, hT2, va_Zof (hts _ t1) (hts _ t2) (va_eqi (hs _ g1)) hA, va_Zqof (hts _ t3) (hts _ t4) (hs _ g2) hA⟩, va_Zref (hts _ t5) (hts _ t6) hx1 hA, hT1⟩, vx_Zqof (hts _ u1) (hts _ u3) (hs _ g5) hA, vx_Zqof (hts _ u2) (hts _ u3) (hs _ g6) hA, vk_R.of (hts _ u5) hx4, vk_R.of (hts _ u6) hx5, va_Nw.of rfl (hts _ v1), va_Nw.of rfl (hts _ v2), va_Nw.of rfl (hts _ v3), va_Nw.of rfl (hts _ v4), va_Nw.of rfl (hts _ v5)⟩
  obtain ⟨-, k2, -⟩ := zMl_ok q hq
  rw [h3] at k2
  exact va_Nw.of rfl (hts _ (zwn_ok k2))
