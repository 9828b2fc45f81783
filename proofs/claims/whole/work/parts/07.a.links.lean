/-! links, class facts, and when a heap of the machine is an abstract one -/
theorem zwd_ok {pl : Nat} {w : Cond} (h : zwd pl w = true) : w ∈ lw_tbl ∧ goodWord w = true := by
  unfold zwd at h
  rw [Bool.and_eq_true] at h
  exact ⟨List.mem_of_getElem? (of_decide_eq_true h.1), h.2⟩
theorem zwn_ok {pl : Nat} {w : Cond} (h : zwn pl w = true) : w ∈ lw_tbl := List.mem_of_getElem? (of_decide_eq_true h)
set_option maxRecDepth 100000 in
theorem zFl_ok : ∀ q ∈ zFl, (q.2.2.1 < 13 ∧ q.2.2.2.1 < (zFt.getD q.2.2.1 []).length) ∧ zwd q.2.2.2.2 (.fieldLink (zcs q.1) q.2.1 (zfd q.2.2.1 q.2.2.2.1).1 (zfd q.2.2.1 q.2.2.2.1).2.1 (zfd q.2.2.1 q.2.2.2.1).2.2.1) = true := by decide +kernel
/-- what a method is: 1 static, 2 a constructor, 0 another -/
def zkd (M : Nat) : Nat := (zPl.getD M (0, 0, 9, 0, 0)).2.2.1
set_option maxRecDepth 100000 in
theorem zMl_ok : ∀ q ∈ zMl, q.2.2.1 < 205 ∧ (bif Nat.beq q.2.2.2.1 3 then zwn q.2.2.2.2 (.methodLinkNest (zcs q.1) q.2.1 (zyM q.2.2.1) "ConjurerDesk") else zwd q.2.2.2.2 (.methodLink (zcs q.1) q.2.1 (zyM q.2.2.1))) = true ∧ zkd q.2.2.1 = (bif Nat.beq q.2.2.2.1 0 then 1 else bif Nat.beq q.2.2.2.1 1 then 0 else 2) := by decide +kernel
def zmok (M : Nat) : Bool := match zPl.getD M (0, 0, 9, 0, 0) with
  | (_, p2, k, p3, p4) => (zwd p4 (.initialized (zyM M).cls) && ((bif Nat.beq k 1 then zwd p2 (.static (zyM M)) else zwd p2 (.instanceMethod (zyM M))) && ((bif Nat.beq k 0 then zwd p3 (.selects (zcs (zcn M)) (zyM M) (zyM M)) else true) && ((bif Nat.beq k 2 then decide ((zyM M).name = "<init>" ∧ zrt M = none) else true) && (decide ((zyM M).cls = zcs (zcn M) ∧ (zyM M).cls ≠ "java/lang/invoke/MethodHandle" ∧ (zyM M).cls ≠ "java/lang/invoke/VarHandle" ∧ (parseMethodDescriptor (zyM M).desc).map (fun d => d.parameters.length) = some (zNp.getD M 99)) && (plainName (zyM M).cls && decide (zcn M < 13 ∧ zml M ≤ 20)))))))
set_option maxRecDepth 100000 in
theorem zm_ok : ∀ M, M < 205 → zmok M = true := by decide +kernel
set_option maxRecDepth 100000 in
theorem zm_cw : zPl.map (fun q => lw_tbl[q.1]?) = zMs.map (fun q => some (Cond.code q.2.1 q.2.2.1 q.2.2.2.1 q.2.2.2.2)) := by rfl
theorem zm_code {M : Nat} (h : M < 205) : Cond.code (zyM M) (zby M) (zml M) (zrt M) ∈ lw_tbl ∧ goodWord (.code (zyM M) (zby M) (zml M) (zrt M)) = true := by
  refine ⟨?_, rfl⟩
  have h1 := congrArg (fun l => l[M]?) zm_cw
  have hl1 : zPl.length = 205 := by rfl
  have hl2 : zMs.length = 205 := by rfl
  simp only [List.getElem?_map] at h1
  rw [List.getElem?_eq_getElem (by omega), List.getElem?_eq_getElem (by omega)] at h1
  simp only [Option.map_some, Option.some.injEq] at h1
  have e : zMs.getD M zMd = zMs[M]'(by omega) := by rw [List.getD_eq_getElem?_getD, List.getElem?_eq_getElem (by omega)]; rfl
  unfold zyM zby zml zrt
  rw [e]
  exact List.mem_of_getElem? h1
theorem zm_init {M : Nat} (h : M < 205) : Cond.initialized (zyM M).cls ∈ lw_tbl ∧ goodWord (.initialized (zyM M).cls) = true := by
  have h1 := zm_ok M h
  unfold zmok at h1
  exact zwd_ok (by simp only [Bool.and_eq_true] at h1; exact h1.1)
theorem zm_kind1 {M : Nat} (h : M < 205) (hk : zkd M = 1) : Cond.static (zyM M) ∈ lw_tbl ∧ goodWord (.static (zyM M)) = true := by
  have h1 := zm_ok M h
  unfold zmok at h1
  simp only [Bool.and_eq_true] at h1
  have h2 := h1.2.1
  unfold zkd at hk
  rw [hk] at h2
  exact zwd_ok h2
theorem zm_inst {M : Nat} (h : M < 205) (hk : zkd M ≠ 1) : Cond.instanceMethod (zyM M) ∈ lw_tbl ∧ goodWord (.instanceMethod (zyM M)) = true := by
  have h1 := zm_ok M h
  unfold zmok at h1
  simp only [Bool.and_eq_true] at h1
  have h2 := h1.2.1
  unfold zkd at hk
  rw [show Nat.beq (zPl.getD M (0, 0, 9, 0, 0)).2.2.1 1 = false from by
    cases hb : Nat.beq (zPl.getD M (0, 0, 9, 0, 0)).2.2.1 1 with
    | false => rfl
    | true => exact absurd (Nat.eq_of_beq_eq_true hb) hk] at h2
  exact zwd_ok h2
theorem zm_sel {M : Nat} (h : M < 205) (hk : zkd M = 0) : Cond.selects (zcs (zcn M)) (zyM M) (zyM M) ∈ lw_tbl ∧ goodWord (.selects (zcs (zcn M)) (zyM M) (zyM M)) = true := by
  have h1 := zm_ok M h
  unfold zmok at h1
  simp only [Bool.and_eq_true] at h1
  have h2 := h1.2.2.1
  unfold zkd at hk
  rw [hk] at h2
  exact zwd_ok h2
theorem zm_ctor {M : Nat} (h : M < 205) (hk : zkd M = 2) : (zyM M).name = "<init>" ∧ zrt M = none := by
  have h1 := zm_ok M h
  unfold zmok at h1
  simp only [Bool.and_eq_true] at h1
  have h2 := h1.2.2.2.1
  unfold zkd at hk
  rw [hk] at h2
  exact of_decide_eq_true h2
theorem zm_name {M : Nat} (h : M < 205) : (zyM M).cls = zcs (zcn M) ∧ (zyM M).cls ≠ "java/lang/invoke/MethodHandle" ∧ (zyM M).cls ≠ "java/lang/invoke/VarHandle" ∧ (parseMethodDescriptor (zyM M).desc).map (fun d => d.parameters.length) = some (zNp.getD M 99) := by
  have h1 := zm_ok M h
  unfold zmok at h1
  simp only [Bool.and_eq_true] at h1
  exact of_decide_eq_true h1.2.2.2.2.1
theorem zm_small {M : Nat} (h : M < 205) : plainName (zyM M).cls = true ∧ zcn M < 13 ∧ zml M ≤ 20 := by
  have h1 := zm_ok M h
  unfold zmok at h1
  simp only [Bool.and_eq_true] at h1
  exact ⟨h1.2.2.2.2.2.1, of_decide_eq_true h1.2.2.2.2.2.2⟩
/-- a field type's number -/
def zfk : FieldType → Nat
  | .int => 0
  | .long => 1
  | .object _ => 2
  | .array _ => 2
  | .boolean => 3
  | _ => 9
def zclP (ci : Nat) : Prop := ∃ (C : String) (T : u_T) (N : Nat) (ty : Nat → FieldType), zCl[ci]? = some (C, T, N) ∧ GoodIn lw_tbl (u_ws C T N) ∧ (∀ k, k < N → parseFieldDescriptor (T k).2.2.1 = some (ty k)) ∧ (∀ a, a < N → ∀ b, b < N → a ≠ b → (T a).2.1 ≠ (T b).2.1) ∧ N = (zFt.getD ci []).length ∧ ∀ j, j < N → zfk (ty j) = zft ci j
theorem zcl_ok : ∀ ci, ci < 13 → zclP ci :=
  lt_s (p := zclP) (lt_s (p := zclP) (lt_s (p := zclP) (lt_s (p := zclP) (lt_s (p := zclP) (lt_s (p := zclP) (lt_s (p := zclP) (lt_s (p := zclP) (lt_s (p := zclP) (lt_s (p := zclP) (lt_s (p := zclP) (lt_s (p := zclP) (lt_s (p := zclP) lt_0
    ⟨zR0, zT0, _, zty0, rfl, zlay0, ztyok0, znm0, rfl, by decide⟩) ⟨zR1, zT1, _, zty1, rfl, zlay1, ztyok1, znm1, rfl, by decide⟩) ⟨zR2, zT2, _, zty2, rfl, zlay2, ztyok2, znm2, rfl, by decide⟩) ⟨zR3, zT3, _, zty3, rfl, zlay3, ztyok3, znm3, rfl, by decide⟩)
    ⟨zR4, zT4, _, zty4, rfl, zlay4, ztyok4, znm4, rfl, by decide⟩) ⟨zR5, zT5, _, zty5, rfl, zlay5, ztyok5, znm5, rfl, by decide⟩) ⟨zR6, zT6, _, zty6, rfl, zlay6, ztyok6, znm6, rfl, by decide⟩) ⟨zR7, zT7, _, zty7, rfl, zlay7, ztyok7, znm7, rfl, by decide⟩)
    ⟨zR8, zT8, _, zty8, rfl, zlay8, ztyok8, znm8, rfl, by decide⟩) ⟨zR9, zT9, _, zty9, rfl, zlay9, ztyok9, znm9, rfl, by decide⟩) ⟨zR10, zT10, _, zty10, rfl, zlay10, ztyok10, znm10, rfl, by decide⟩) ⟨zR11, zT11, _, zty11, rfl, zlay11, ztyok11, znm11, rfl, by decide⟩)
    ⟨zR12, zT12, _, zty12, rfl, zlay12, ztyok12, znm12, rfl, by decide⟩
