/-! the law's cases -/
def zLK (p : Program) (s : State) (m : MethodId) (args : Array Value) (c : Code) (R : Room) (B0 : Nat) (D : va_G) (cs : Nat → ClassId) (xa : Nat → Nat) (b L : Nat) (xs : Nat → Int32) : Prop :=
  zOC B0 D cs xa p s m args c "ConjurerDeskLaw" code 7 ∧ (va_X b L xs s s.heap ∧ b < s.heap.size ∧ s.heap.size = B0 + 1 ∧ L ≤ 3072) ∧ (100 ≤ R.frames ∧ 8000 ≤ R.locals) ∧ zXS B0 xa s
def zll (B0 b a : Nat) : List (Nat × Value) := [(4, .int (nI a)), (3, .ref (B0 + 187)), (2, .ref (B0 + 160)), (1, .ref (B0 + 1)), (0, .ref b)]
theorem zLv_1 {σ : zH} (h : zLv σ) : zK σ 1 = 12 := by
  obtain ⟨m, h1, -⟩ := h
  exact zIC_k h1
section ZLA
variable {p : Program} {l : Launch} {e : Env} {R : Room} {s : State} {m : MethodId} {args : Array Value} {below : List Frame} {meth : Method} {c : Code} {H : Heap} {locs : List Loc} {cells slots : Nat} {Q : State → Prop}
variable {pc : Nat} {ls : Array Slot} {rest : List Value} {B0 : Nat} {D : va_G} {cs : Nat → ClassId} {xa : Nat → Nat} {b L : Nat} {xs : Nat → Int32}
theorem zl_arg (K : zLK p s m args c R B0 D cs xa b L xs) (hS : va_S (zAA B0) s.heap H locs) {a k : Nat} (h0 : ls[0]? = some (.val (.ref b))) (h4 : ls[4]? = some (.val (.int (nI a)))) {v : Int} (hv : Int32.ofInt v = nI k) (hk : a + k < L) (d0 : decode code pc = .ok (.aload_n 0, 1)) (d1 : decode code (pc + 1) = .ok (.iload 4, 2)) (d2 : decode code (pc + 3) = .ok (.iconst v, 1)) (d3 : decode code (pc + 4) = .ok (.iadd, 1)) (d4 : decode code (pc + 5) = .ok (.iaload, 1))
    (kk : W p l e R s m args below meth c H locs cells slots Q (F0 m (pc + 6) ls (.int (xs (a + k)) :: rest))) : W p l e R s m args below meth c H locs cells slots Q (F0 m pc ls rest) := by
  obtain ⟨⟨hx, hb, -⟩, ⟨hX, hbl, hsz, hL⟩, -⟩ := id K
  have hbA : ¬ zAA B0 b := by show ¬ (B0 + 1 ≤ b); omega
  refine lv_aload_n hx hb d0 rfl h0 ?_
  refine lv_iload hx hb d1 h4 ?_
  refine lv_iconst hx hb d2 hv ?_
  refine lv_iadd hx hb d3 ?_
  rw [nI_add]
  refine va_sld hx hb hX hbl hbA hS (vp_in_nI hk (by omega)) d4 ?_
  rw [zcl (a + k) (by omega)]
  exact kk
end ZLA
theorem zlk_24 : Cond.methodLink "ConjurerDeskLaw" 24 (zyM 106) ∈ lw_tbl := by decide +kernel
theorem zlk_28 : Cond.methodLink "ConjurerDeskLaw" 28 (zyM 128) ∈ lw_tbl := by decide +kernel
theorem zlk_29 : Cond.methodLink "ConjurerDeskLaw" 29 (zyM 107) ∈ lw_tbl := by decide +kernel
theorem zlk_33 : Cond.methodLink "ConjurerDeskLaw" 33 (zyM 130) ∈ lw_tbl := by decide +kernel
theorem zlk_34 : Cond.methodLink "ConjurerDeskLaw" 34 (zyM 108) ∈ lw_tbl := by decide +kernel
theorem zlk_37 : Cond.methodLink "ConjurerDeskLaw" 37 (zyM 133) ∈ lw_tbl := by decide +kernel
theorem zlk_38 : Cond.methodLink "ConjurerDeskLaw" 38 (zyM 109) ∈ lw_tbl := by decide +kernel
theorem zlk_42 : Cond.methodLink "ConjurerDeskLaw" 42 (zyM 134) ∈ lw_tbl := by decide +kernel
theorem zlk_43 : Cond.methodLink "ConjurerDeskLaw" 43 (zyM 110) ∈ lw_tbl := by decide +kernel
theorem zlk_47 : Cond.methodLink "ConjurerDeskLaw" 47 (zyM 135) ∈ lw_tbl := by decide +kernel
theorem zlk_48 : Cond.methodLink "ConjurerDeskLaw" 48 (zyM 111) ∈ lw_tbl := by decide +kernel
theorem zlk_52 : Cond.methodLink "ConjurerDeskLaw" 52 (zyM 152) ∈ lw_tbl := by decide +kernel
theorem zlk_53 : Cond.methodLink "ConjurerDeskLaw" 53 (zyM 112) ∈ lw_tbl := by decide +kernel
theorem zlk_56 : Cond.methodLink "ConjurerDeskLaw" 56 (zyM 167) ∈ lw_tbl := by decide +kernel
theorem zlk_57 : Cond.methodLink "ConjurerDeskLaw" 57 (zyM 113) ∈ lw_tbl := by decide +kernel
theorem zlk_60 : Cond.methodLink "ConjurerDeskLaw" 60 (zyM 168) ∈ lw_tbl := by decide +kernel
theorem zlk_61 : Cond.methodLink "ConjurerDeskLaw" 61 (zyM 114) ∈ lw_tbl := by decide +kernel
theorem zlk_64 : Cond.methodLink "ConjurerDeskLaw" 64 (zyM 193) ∈ lw_tbl := by decide +kernel
theorem zlk_65 : Cond.methodLink "ConjurerDeskLaw" 65 (zyM 115) ∈ lw_tbl := by decide +kernel
theorem zlk_68 : Cond.methodLink "ConjurerDeskLaw" 68 (zyM 195) ∈ lw_tbl := by decide +kernel
theorem zlk_69 : Cond.methodLink "ConjurerDeskLaw" 69 (zyM 116) ∈ lw_tbl := by decide +kernel
theorem zlk_72 : Cond.methodLink "ConjurerDeskLaw" 72 (zyM 196) ∈ lw_tbl := by decide +kernel
theorem zlk_73 : Cond.methodLink "ConjurerDeskLaw" 73 (zyM 117) ∈ lw_tbl := by decide +kernel
theorem zlk_76 : Cond.methodLink "ConjurerDeskLaw" 76 (zyM 197) ∈ lw_tbl := by decide +kernel
theorem zlk_77 : Cond.methodLink "ConjurerDeskLaw" 77 (zyM 118) ∈ lw_tbl := by decide +kernel
theorem zlk_81 : Cond.methodLink "ConjurerDeskLaw" 81 (zyM 199) ∈ lw_tbl := by decide +kernel
theorem zlk_82 : Cond.methodLink "ConjurerDeskLaw" 82 (zyM 119) ∈ lw_tbl := by decide +kernel
theorem zlk_85 : Cond.methodLink "ConjurerDeskLaw" 85 (zyM 200) ∈ lw_tbl := by decide +kernel
theorem zlk_98 : Cond.methodLink "ConjurerDeskLaw" 98 (zyM 122) ∈ lw_tbl := by decide +kernel
theorem zlk_101 : Cond.methodLink "ConjurerDeskLaw" 101 (zyM 204) ∈ lw_tbl := by decide +kernel
theorem zlk_91 : Cond.methodLink "ConjurerDeskLaw" 91 (zyM 201) ∈ lw_tbl := by decide +kernel
theorem zlk_92 : Cond.methodLink "ConjurerDeskLaw" 92 (zyM 127) ∈ lw_tbl := by decide +kernel
theorem zlk_97 : Cond.methodLink "ConjurerDeskLaw" 97 (zyM 203) ∈ lw_tbl := by decide +kernel
theorem zlk_7 : Cond.methodLink "ConjurerDeskLaw" 7 (zyM 120) ∈ lw_tbl := by decide +kernel
theorem zlk_15 : Cond.methodLink "ConjurerDeskLaw" 15 (zyM 121) ∈ lw_tbl := by decide +kernel
