/-! what holds at a method's start, besides the heap; rows for locals -/
abbrev zAA (B0 : Nat) : Nat → Prop := fun q => B0 + 1 ≤ q
def zAt (cs : Nat → ClassId) : List (ClassId × FieldType) := [(cs 20, .int), (cs 21, .long), (cs 22, .byte), (cs 23, .object "ConjurerDesk$Step"), (cs 24, .object "ConjurerDesk$Ways")]
def zWt : String := "cut     deal    move    take    turn    flip    riffle  faro    down    swap    mark    times   if      else    to      all     free    a       b       c       d       or      and     not     alike   each    rising  size    up      where   card    value   suit    colour  face    "
/-- texts, tables, links that are no good words -/
def zXT (B0 : Nat) (xa : Nat → Nat) (U : State) : Prop :=
  (va_AO "ConjurerDesk$Step" U ∧ va_AO "ConjurerDesk$Ways" U) ∧ (∀ q ∈ zMl, q.2.2.2.1 = 3 → va_Nw (.methodLinkNest (zcs q.1) q.2.1 (zyM q.2.2.1) "ConjurerDesk") U) ∧ vk_R "ConjurerDesk$Tokens" 61 zWt (xa 0) U ∧
  (va_O "java/lang/String" (xa 0) (zAA B0) U U.heap ∧ va_OF "java/lang/String" "coder" "B" (.int 0) (xa 0) (zAA B0) U U.heap ∧ va_OF "java/lang/String" "value" "[B" (.ref (xa 2)) (xa 0) (zAA B0) U U.heap ∧ va_T .byte (xa 2) 280 (fun j => .int (zwch j)) (zAA B0) U U.heap ∧ va_Z "java/lang/String" "COMPACT_STRINGS" "Z" (.int 1) (zAA B0) U U.heap ∧ va_Zq "jdk/internal/util/Preconditions" "SIOOBE_FORMATTER" "Ljava/util/function/BiFunction;" (zAA B0) U U.heap) ∧
  (va_Z "ConjurerDesk$Table" "WAYS_TO_CHOOSE" "[I" (.ref (xa 1)) (zAA B0) U U.heap ∧ va_T .int (xa 1) 100 (fun j => .int (zwtc j)) (zAA B0) U U.heap)
theorem zXT.mv {B0 : Nat} {xa : Nat → Nat} {s U : State} (hW : s.WarmedH U.vm) (hq : ∀ a : Nat, a < s.heap.size → ¬ zAA B0 a → U.heap[a]? = s.heap[a]?) (h : zXT B0 xa s) : zXT B0 xa U := by
  obtain ⟨⟨a1, a2⟩, a3, a4, ⟨b1, b2, b3, b4, b5, b6⟩, c1, c2⟩ := h
  have hv := hW.alike
  exact ⟨⟨a1.moved hv, a2.moved hv⟩, fun q h1 h2 => (a3 q h1 h2).warmM hW, a4.warm hW, ⟨(b1.moved hv).kept hq, (b2.moved hv).kept hq, (b3.moved hv).kept hq, (b4.moved hv).kept hq, (b5.moved hv).kept hq, (b6.moved hv).kept hq⟩, (c1.moved hv).kept hq, (c2.moved hv).kept hq⟩
theorem zXT.call {B0 : Nat} {xa : Nat → Nat} {U : State} {g : JFrame} {mk : MethodId} {a : Array Value} (h : zXT B0 xa U) : zXT B0 xa (U.calling g mk a) := by
  obtain ⟨⟨a1, a2⟩, a3, a4, ⟨b1, b2, b3, b4, b5, b6⟩, c1, c2⟩ := h
  have hv : U.vm.Alike (U.calling g mk a).vm := Vm.Alike.refl U.vm
  exact ⟨⟨a1.moved hv, a2.moved hv⟩, fun q h1 h2 => (a3 q h1 h2).same rfl rfl, a4.same rfl, ⟨b1.moved hv, b2.moved hv, b3.moved hv, b4.moved hv, b5.moved hv, b6.moved hv⟩, c1.moved hv, c2.moved hv⟩
/-- the context of a method's body -/
def zCx (B0 : Nat) (D : va_G) (cs : Nat → ClassId) (xa : Nat → Nat) (p : Program) (s : State) (m : MethodId) (args : Array Value) (meth : Method) (c : Code) (M : Nat) : Prop :=
  p.tables.exec = Jvm.exec ∧ c.code = zby M ∧ c.maxLocals = zml M ∧ s.vm.findClass (zcs (zcn M)) = some m.cls ∧ (∀ w ∈ lw_tbl, goodWord w = true → w.before args s = true) ∧ meth.sig.returnType = zrt M ∧ meth.locks = false ∧ ((zyM M).name = "<init>" → meth.name = "<init>") ∧ va_K D zCl (zAt cs) s ∧ zXT B0 xa s ∧ B0 + 1 ≤ s.heap.size
theorem zg_mem {i : Nat} {v : Value} : ∀ {lc : zC}, zg i lc = some v → (i, v) ∈ lc
  | [], h => by cases h
  | (k, w) :: t, h => by
    unfold zg at h
    cases hb : Nat.beq k i with
    | true =>
      rw [hb] at h
      have e := Nat.eq_of_beq_eq_true hb
      have e2 : some w = some v := h
      cases e2
      subst e
      exact List.mem_cons_self
    | false =>
      rw [hb] at h
      exact List.mem_cons_of_mem _ (zg_mem h)
abbrev zvp (B0 : Nat) (xa : Nat → Nat) (q : Nat × Value) : Nat × Value := (q.1, zV B0 xa q.2)
theorem z_loc {B0 : Nat} {xa : Nat → Nat} {ls : Array Slot} {n i : Nat} {v : Value} {lc : zC} (hl : lv_has ls n (lc.map (zvp B0 xa))) (h : zg i lc = some v) : ls[i]? = some (.val (zV B0 xa v)) := hl.2.2 (i, zV B0 xa v) (List.mem_map.mpr ⟨(i, v), zg_mem h, rfl⟩)
theorem lv_sub2 {ls : Array Slot} {n : Nat} {l l' : List (Nat × Value)} (h : lv_has ls n l) (hs : ∀ q ∈ l', q ∈ l) : lv_has ls n l' := ⟨h.1, h.2.1, fun q hq => h.2.2 q (hs q hq)⟩
theorem beq_f {a b : Nat} (h : Nat.beq a b = false) : ¬ a = b := fun e => by subst e; rw [Nat.beq_refl] at h; cases h
theorem zf1_mem {i : Nat} {q : Nat × Value} : ∀ {lc : zC}, q ∈ zf1 i lc → q ∈ lc ∧ ¬ q.1 = i ∧ ¬ (q.1 + 1 = i ∧ q.2.category = 2)
  | [], h => by cases h
  | (k, w) :: t, h => by
    unfold zf1 at h
    cases hb : (Nat.beq k i || (Nat.beq (k + 1) i && Nat.beq w.category 2)) with
    | true =>
      rw [hb] at h
      obtain ⟨h1, h2⟩ := zf1_mem (lc := t) h
      exact ⟨List.mem_cons_of_mem _ h1, h2⟩
    | false =>
      rw [hb] at h
      rcases List.mem_cons.mp (show q ∈ (k, w) :: zf1 i t from h) with rfl | h
      · rw [Bool.or_eq_false_iff, Bool.and_eq_false_iff] at hb
        refine ⟨List.mem_cons_self, beq_f hb.1, fun hc => ?_⟩
        rcases hb.2 with h1 | h1
        · exact beq_f h1 hc.1
        · exact beq_f h1 hc.2
      · obtain ⟨h1, h2⟩ := zf1_mem (lc := t) h
        exact ⟨List.mem_cons_of_mem _ h1, h2⟩
theorem zp1_mem {i : Nat} {v : Value} {q : Nat × Value} : ∀ {lc : zC}, q ∈ zp1 i v lc → q = (i, v) ∨ (q ∈ lc ∧ ¬ q.1 = i ∧ ¬ (q.1 + 1 = i ∧ q.2.category = 2))
  | [], h => by
    rcases List.mem_cons.mp (show q ∈ [(i, v)] from h) with rfl | h
    · exact Or.inl rfl
    · cases h
  | (k, w) :: t, h => by
    unfold zp1 at h
    cases hb : Nat.beq k i with
    | true =>
      rw [hb] at h
      rcases List.mem_cons.mp (show q ∈ (i, v) :: zf1 i t from h) with rfl | h
      · exact Or.inl rfl
      · obtain ⟨h1, h2⟩ := zf1_mem h
        exact Or.inr ⟨List.mem_cons_of_mem _ h1, h2⟩
    | false =>
      rw [hb] at h
      cases hb2 : (Nat.beq (k + 1) i && Nat.beq w.category 2) with
      | true =>
        rw [hb2] at h
        rcases zp1_mem (lc := t) h with h | ⟨h1, h2⟩
        · exact Or.inl h
        · exact Or.inr ⟨List.mem_cons_of_mem _ h1, h2⟩
      | false =>
        rw [hb2] at h
        rcases List.mem_cons.mp (show q ∈ (k, w) :: zp1 i v t from h) with rfl | h
        · rw [Bool.and_eq_false_iff] at hb2
          refine Or.inr ⟨List.mem_cons_self, beq_f hb, fun hc => ?_⟩
          rcases hb2 with h1 | h1
          · exact beq_f h1 hc.1
          · exact beq_f h1 hc.2
        · rcases zp1_mem (lc := t) h with h | ⟨h1, h2⟩
          · exact Or.inl h
          · exact Or.inr ⟨List.mem_cons_of_mem _ h1, h2⟩
theorem zf2_mem {i : Nat} {q : Nat × Value} : ∀ {lc : zC}, q ∈ zf2 i lc → q ∈ lc ∧ ¬ q.1 = i ∧ ¬ q.1 = i + 1 ∧ ¬ (q.1 + 1 = i ∧ q.2.category = 2)
  | [], h => by cases h
  | (k, w) :: t, h => by
    unfold zf2 at h
    cases hb : (Nat.beq k i || Nat.beq k (i + 1) || (Nat.beq (k + 1) i && Nat.beq w.category 2)) with
    | true =>
      rw [hb] at h
      obtain ⟨h1, h2⟩ := zf2_mem (lc := t) h
      exact ⟨List.mem_cons_of_mem _ h1, h2⟩
    | false =>
      rw [hb] at h
      rcases List.mem_cons.mp (show q ∈ (k, w) :: zf2 i t from h) with rfl | h
      · rw [Bool.or_eq_false_iff, Bool.or_eq_false_iff, Bool.and_eq_false_iff] at hb
        refine ⟨List.mem_cons_self, beq_f hb.1.1, beq_f hb.1.2, fun hc => ?_⟩
        rcases hb.2 with h1 | h1
        · exact beq_f h1 hc.1
        · exact beq_f h1 hc.2
      · obtain ⟨h1, h2⟩ := zf2_mem (lc := t) h
        exact ⟨List.mem_cons_of_mem _ h1, h2⟩
theorem zp2_mem {i : Nat} {v : Value} {q : Nat × Value} : ∀ {lc : zC}, q ∈ zp2 i v lc → q = (i, v) ∨ (q ∈ lc ∧ ¬ q.1 = i ∧ ¬ q.1 = i + 1 ∧ ¬ (q.1 + 1 = i ∧ q.2.category = 2))
  | [], h => by
    rcases List.mem_cons.mp (show q ∈ [(i, v)] from h) with rfl | h
    · exact Or.inl rfl
    · cases h
  | (k, w) :: t, h => by
    unfold zp2 at h
    cases hb : Nat.beq k i with
    | true =>
      rw [hb] at h
      rcases List.mem_cons.mp (show q ∈ (i, v) :: zf2 i t from h) with rfl | h
      · exact Or.inl rfl
      · obtain ⟨h1, h2⟩ := zf2_mem h
        exact Or.inr ⟨List.mem_cons_of_mem _ h1, h2⟩
    | false =>
      rw [hb] at h
      cases hb2 : (Nat.beq k (i + 1) || (Nat.beq (k + 1) i && Nat.beq w.category 2)) with
      | true =>
        rw [hb2] at h
        rcases zp2_mem (lc := t) h with h | ⟨h1, h2⟩
        · exact Or.inl h
        · exact Or.inr ⟨List.mem_cons_of_mem _ h1, h2⟩
      | false =>
        rw [hb2] at h
        rcases List.mem_cons.mp (show q ∈ (k, w) :: zp2 i v t from h) with rfl | h
        · rw [Bool.or_eq_false_iff, Bool.and_eq_false_iff] at hb2
          refine Or.inr ⟨List.mem_cons_self, beq_f hb, beq_f hb2.1, fun hc => ?_⟩
          rcases hb2.2 with h1 | h1
          · exact beq_f h1 hc.1
          · exact beq_f h1 hc.2
        · rcases zp2_mem (lc := t) h with h | ⟨h1, h2⟩
          · exact Or.inl h
          · exact Or.inr ⟨List.mem_cons_of_mem _ h1, h2⟩
theorem z_st1 {B0 : Nat} {xa : Nat → Nat} {ls : Array Slot} {n i : Nat} {v : Value} {lc : zC} (hl : lv_has ls n ((i, zV B0 xa v) :: (lc.map (zvp B0 xa)).filter (fun q => !(q.1 == i) && !(q.1 + 1 == i && q.2.category == 2)))) : lv_has ls n ((zp1 i v lc).map (zvp B0 xa)) := by
  refine lv_sub2 hl fun q hq => ?_
  obtain ⟨x, hx, rfl⟩ := List.mem_map.mp hq
  rcases zp1_mem hx with rfl | ⟨h1, h2, h3⟩
  · exact List.mem_cons_self
  · refine List.mem_cons_of_mem _ (List.mem_filter.mpr ⟨List.mem_map.mpr ⟨x, h1, rfl⟩, ?_⟩)
    simp only [Bool.and_eq_true, Bool.not_eq_true', beq_eq_false_iff_ne, ne_eq, Bool.and_eq_false_iff]
    refine ⟨h2, ?_⟩
    by_cases h4 : x.1 + 1 = i
    · exact Or.inr (fun h5 => h3 ⟨h4, by rw [← zV_cat B0 xa]; exact h5⟩)
    · exact Or.inl h4
theorem z_st2 {B0 : Nat} {xa : Nat → Nat} {ls : Array Slot} {n i : Nat} {v : Value} {lc : zC} (hl : lv_has ls n ((i, zV B0 xa v) :: (lc.map (zvp B0 xa)).filter (fun q => !(q.1 == i) && (!(q.1 == i + 1) && !(q.1 + 1 == i && q.2.category == 2))))) : lv_has ls n ((zp2 i v lc).map (zvp B0 xa)) := by
  refine lv_sub2 hl fun q hq => ?_
  obtain ⟨x, hx, rfl⟩ := List.mem_map.mp hq
  rcases zp2_mem hx with rfl | ⟨h1, h2, h4, h3⟩
  · exact List.mem_cons_self
  · refine List.mem_cons_of_mem _ (List.mem_filter.mpr ⟨List.mem_map.mpr ⟨x, h1, rfl⟩, ?_⟩)
    simp only [Bool.and_eq_true, Bool.not_eq_true', beq_eq_false_iff_ne, ne_eq, Bool.and_eq_false_iff]
    refine ⟨h2, h4, ?_⟩
    by_cases h4 : x.1 + 1 = i
    · exact Or.inr (fun h5 => h3 ⟨h4, by rw [← zV_cat B0 xa]; exact h5⟩)
    · exact Or.inl h4
