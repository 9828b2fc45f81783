/-! the law's loop -/
theorem zl_cmp {L a : Nat} (hL : L ≤ 3072) (ha : a ≤ 4000) (h : ¬ nI L - nI 6 < nI a) : a + 6 ≤ L := by
  rw [Int32.lt_iff_toInt_lt, pk_sub_toInt (by omega) (by omega), nI_toInt (by omega)] at h
  omega
section ZLL
variable {p : Program} {l : Launch} {e : Env} {R : Room} {s : State} {m : MethodId} {args : Array Value} {below : List Frame} {meth : Method} {c : Code} {H : Heap} {locs : List Loc} {cells slots : Nat} {Q : State → Prop}
variable {ls : Array Slot} {B0 : Nat} {D : va_G} {cs : Nat → ClassId} {xa : Nat → Nat} {b L a : Nat} {xs : Nat → Int32} {σ : zH}
theorem zl_top (K : zLK p s m args c R B0 D cs xa b L xs) (hS : va_S (zAA B0) s.heap H locs) (hl : lv_has ls 7 (zll B0 b a)) (ha : a ≤ 4000) (kt : W p l e R s m args below meth c H locs cells slots Q (F0 m 629 ls [])) (kf : a + 6 ≤ L → W p l e R s m args below meth c H locs cells slots Q (F0 m 33 ls [])) : W p l e R s m args below meth c H locs cells slots Q (F0 m 23 ls []) := by
  obtain ⟨C, ⟨hX, hbl, hsz, hL⟩, hR, hXS⟩ := id K
  obtain ⟨hx, hb, -⟩ := id C
  have hbA : ¬ zAA B0 b := by show ¬ (B0 + 1 ≤ b); omega
  refine lv_iload hx hb d_law_23 (lv_at hl 0 rfl) ?_
  refine lv_aload_n hx hb d_law_25 rfl (lv_at hl 4 rfl) ?_
  refine va_slen hx hb hX hbl hbA hS d_law_26 ?_
  refine lv_bipush hx hb d_law_27 (v := nI 6) rfl ?_
  refine lv_isub hx hb d_law_29 ?_
  exact lv_icmp_gt hx hb d_law_30 (tgt := 629) rfl (fun _ => kt) (fun h => kf (zl_cmp hL ha h))
theorem zl_sw (K : zLK p s m args c R B0 D cs xa b L xs) (hS : va_S (zAA B0) s.heap H locs) (hl : lv_has ls 7 (zll B0 b a)) (ha : a + 6 ≤ L) (k0 : W p l e R s m args below meth c H locs cells slots Q (F0 m 124 ls [])) (k1 : W p l e R s m args below meth c H locs cells slots Q (F0 m 197 ls [])) (k2 : W p l e R s m args below meth c H locs cells slots Q (F0 m 222 ls [])) (k3 : W p l e R s m args below meth c H locs cells slots Q (F0 m 247 ls [])) (k4 : W p l e R s m args below meth c H locs cells slots Q (F0 m 308 ls [])) (k5 : W p l e R s m args below meth c H locs cells slots Q (F0 m 321 ls [])) (k6 : W p l e R s m args below meth c H locs cells slots Q (F0 m 334 ls [])) (k7 : W p l e R s m args below meth c H locs cells slots Q (F0 m 347 ls [])) (k8 : W p l e R s m args below meth c H locs cells slots Q (F0 m 360 ls [])) (k9 : W p l e R s m args below meth c H locs cells slots Q (F0 m 373 ls [])) (k10 : W p l e R s m args below meth c H locs cells slots Q (F0 m 398 ls [])) (k11 : W p l e R s m args below meth c H locs cells slots Q (F0 m 423 ls [])) (k12 : W p l e R s m args below meth c H locs cells slots Q (F0 m 436 ls [])) (k13 : W p l e R s m args below meth c H locs cells slots Q (F0 m 473 ls [])) (k14 : W p l e R s m args below meth c H locs cells slots Q (F0 m 486 ls [])) (k15 : W p l e R s m args below meth c H locs cells slots Q (F0 m 542 ls [])) (k16 : W p l e R s m args below meth c H locs cells slots Q (F0 m 598 ls [])) (kd : W p l e R s m args below meth c H locs cells slots Q (F0 m 623 ls [])) : W p l e R s m args below meth c H locs cells slots Q (F0 m 33 ls []) := by
  obtain ⟨C, ⟨hX, hbl, hsz, hL⟩, hR, hXS⟩ := id K
  obtain ⟨hx, hb, -⟩ := id C
  have hbA : ¬ zAA B0 b := by show ¬ (B0 + 1 ≤ b); omega
  refine lv_aload_n hx hb d_law_33 rfl (lv_at hl 4 rfl) ?_
  refine lv_iload hx hb d_law_34 (lv_at hl 0 rfl) ?_
  refine va_sld hx hb hX hbl hbA hS (vp_in_nI (by omega) (by omega)) d_law_36 ?_
  refine lv_bipush hx hb d_law_37 (v := nI 31) rfl ?_
  refine lv_iand hx hb d_law_39 ?_
  obtain ⟨j, hj, ej⟩ := pk_andE (xs (nI a).toNatClampNeg) (m := nI 31) 5 (by decide)
  rw [ej]
  have tj : (nI j).toInt = (j : Int) := nI_toInt (by omega)
  by_cases h16 : 16 < j
  · exact lv_tableOut hx hb d_law_40 (Or.inr (by rw [tj]; omega)) (tgt := 623) rfl kd
  · have h17 : j = 0 ∨ j = 1 ∨ j = 2 ∨ j = 3 ∨ j = 4 ∨ j = 5 ∨ j = 6 ∨ j = 7 ∨ j = 8 ∨ j = 9 ∨ j = 10 ∨ j = 11 ∨ j = 12 ∨ j = 13 ∨ j = 14 ∨ j = 15 ∨ j = 16 := by omega
    rcases h17 with rfl | rfl | rfl | rfl | rfl | rfl | rfl | rfl | rfl | rfl | rfl | rfl | rfl | rfl | rfl | rfl | rfl
    · exact lv_tableIn hx hb d_law_40 (off := 84) (tgt := 124) (by rw [tj]; decide) (by rw [tj]; decide) (by rw [tj]; rfl) rfl k0
    · exact lv_tableIn hx hb d_law_40 (off := 157) (tgt := 197) (by rw [tj]; decide) (by rw [tj]; decide) (by rw [tj]; rfl) rfl k1
    · exact lv_tableIn hx hb d_law_40 (off := 182) (tgt := 222) (by rw [tj]; decide) (by rw [tj]; decide) (by rw [tj]; rfl) rfl k2
    · exact lv_tableIn hx hb d_law_40 (off := 207) (tgt := 247) (by rw [tj]; decide) (by rw [tj]; decide) (by rw [tj]; rfl) rfl k3
    · exact lv_tableIn hx hb d_law_40 (off := 268) (tgt := 308) (by rw [tj]; decide) (by rw [tj]; decide) (by rw [tj]; rfl) rfl k4
    · exact lv_tableIn hx hb d_law_40 (off := 281) (tgt := 321) (by rw [tj]; decide) (by rw [tj]; decide) (by rw [tj]; rfl) rfl k5
    · exact lv_tableIn hx hb d_law_40 (off := 294) (tgt := 334) (by rw [tj]; decide) (by rw [tj]; decide) (by rw [tj]; rfl) rfl k6
    · exact lv_tableIn hx hb d_law_40 (off := 307) (tgt := 347) (by rw [tj]; decide) (by rw [tj]; decide) (by rw [tj]; rfl) rfl k7
    · exact lv_tableIn hx hb d_law_40 (off := 320) (tgt := 360) (by rw [tj]; decide) (by rw [tj]; decide) (by rw [tj]; rfl) rfl k8
    · exact lv_tableIn hx hb d_law_40 (off := 333) (tgt := 373) (by rw [tj]; decide) (by rw [tj]; decide) (by rw [tj]; rfl) rfl k9
    · exact lv_tableIn hx hb d_law_40 (off := 358) (tgt := 398) (by rw [tj]; decide) (by rw [tj]; decide) (by rw [tj]; rfl) rfl k10
    · exact lv_tableIn hx hb d_law_40 (off := 383) (tgt := 423) (by rw [tj]; decide) (by rw [tj]; decide) (by rw [tj]; rfl) rfl k11
    · exact lv_tableIn hx hb d_law_40 (off := 396) (tgt := 436) (by rw [tj]; decide) (by rw [tj]; decide) (by rw [tj]; rfl) rfl k12
    · exact lv_tableIn hx hb d_law_40 (off := 433) (tgt := 473) (by rw [tj]; decide) (by rw [tj]; decide) (by rw [tj]; rfl) rfl k13
    · exact lv_tableIn hx hb d_law_40 (off := 446) (tgt := 486) (by rw [tj]; decide) (by rw [tj]; decide) (by rw [tj]; rfl) rfl k14
    · exact lv_tableIn hx hb d_law_40 (off := 502) (tgt := 542) (by rw [tj]; decide) (by rw [tj]; decide) (by rw [tj]; rfl) rfl k15
    · exact lv_tableIn hx hb d_law_40 (off := 558) (tgt := 598) (by rw [tj]; decide) (by rw [tj]; decide) (by rw [tj]; rfl) rfl k16
theorem zl_loop (K : zLK p s m args c R B0 D cs xa b L xs) (hlt : l.stackTraces = false) (fin : ∀ (H : Heap) (locs : List Loc) (ls : Array Slot) (cells slots : Nat), cells ≤ R.cells → slots ≤ R.slots → va_S (zAA B0) s.heap H locs → W p l e R s m args below meth c H locs cells slots Q (F0 m 629 ls [])) :
    ∀ (f a cells slots : Nat) (σ : zH) (H : Heap) (locs : List Loc) (ls : Array Slot), L < a + 6 * f + 6 → a ≤ L → cells + f ≤ R.cells → slots + 6 * f ≤ R.slots → lv_has ls 7 (zll B0 b a) → zLv σ → zHM B0 D cs σ H → va_S (zAA B0) s.heap H locs → W p l e R s m args below meth c H locs cells slots Q (F0 m 23 ls []) := by
  intro f
  induction f with
  | zero =>
    intro a cells slots σ H locs ls h1 h2 h3 h4 hl hv hH hS
    have hL := K.2.1.2.2.2
    exact zl_top K hS hl (by omega) (fin H locs ls cells slots (by omega) (by omega) hS) (fun h => absurd h (by omega))
  | succ f ih =>
    intro a cells slots σ H locs ls h1 h2 h3 h4 hl hv hH hS
    have hL := K.2.1.2.2.2
    obtain ⟨hx, hb, -⟩ := id K.1
    refine zl_top K hS hl (by omega) (fin H locs ls cells slots (by omega) (by omega) hS) (fun h6 => ?_)
    have nxt : ∀ (cells slots : Nat) (σ : zH) (H : Heap) (locs : List Loc) (ls : Array Slot), cells + f ≤ R.cells → slots + 6 * f ≤ R.slots → lv_has ls 7 (zll B0 b a) → zLv σ → zHM B0 D cs σ H → va_S (zAA B0) s.heap H locs → W p l e R s m args below meth c H locs cells slots Q (F0 m 623 ls []) := by
      intro cells slots σ H locs ls g3 g4 gl gv gH gS
      refine lv_iinc hx hb d_law_623 (k := 0) (v := nI (a + 6)) (lv' := zll B0 b (a + 6)) gl rfl (nI_add a 6) (by omega) rfl (fun ls1 gl1 => ?_)
      refine lv_goto hx hb d_law_626 (tgt := 23) rfl ?_
      exact ih (a + 6) cells slots σ H locs ls1 (by omega) (by omega) g3 g4 gl1 gv gH gS
    have hc : cells ≤ R.cells ∧ slots ≤ R.slots := ⟨by omega, by omega⟩
    have hc1 : cells + 1 ≤ R.cells ∧ slots + 6 ≤ R.slots := ⟨by omega, by omega⟩
    have bk : ∀ (σ2 : zH) (H2 : Heap) (locs2 : List Loc), zLv σ2 → zHM B0 D cs σ2 H2 → va_S (zAA B0) s.heap H2 locs2 → W p l e R s m args below meth c H2 locs2 cells slots Q (F0 m 623 ls []) := fun σ2 H2 locs2 g1 g2 g3 => nxt cells slots σ2 H2 locs2 ls (by omega) (by omega) hl g1 g2 g3
    have bk1 : ∀ (σ2 : zH) (H2 : Heap) (locs2 : List Loc) (ls2 : Array Slot), lv_has ls2 7 (zll B0 b a) → zLv σ2 → zHM B0 D cs σ2 H2 → va_S (zAA B0) s.heap H2 locs2 → W p l e R s m args below meth c H2 locs2 (cells + 1) (slots + 6) Q (F0 m 623 ls2 []) := fun σ2 H2 locs2 ls2 g0 g1 g2 g3 => nxt (cells + 1) (slots + 6) σ2 H2 locs2 ls2 (by omega) (by omega) g0 g1 g2 g3
    have ha : a + 5 < L := by omega
    exact zl_sw K hS hl h6 (zl_c0 K hc hl ha hH hS hv bk) (zl_c1 K hc hl ha hH hS hv bk) (zl_c2 K hc hl ha hH hS hv bk) (zl_c3 K hc hl ha hH hS hv bk) (zl_c4 K hc hl ha hH hS hv bk) (zl_c5 K hc hl ha hH hS hv bk) (zl_c6 K hc hl ha hH hS hv bk) (zl_c7 K hc hl ha hH hS hv bk) (zl_c8 K hc hl ha hH hS hv bk) (zl_c9 K hc hl ha hH hS hv bk) (zl_c10 K hc hl ha hH hS hv bk) (zl_c11 K hc hl ha hH hS hv bk) (zl_c12 K hc hl ha hH hS hv bk) (zl_c13 K hc hl ha hH hS hv bk) (zl_c14 K hc1 hlt hl ha hH hS hv bk1) (zl_c15 K hc1 hlt hl ha hH hS hv bk1) (zl_c16 K hc hl ha hH hS hv bk) (bk σ H locs hv hH hS)
end ZLL
