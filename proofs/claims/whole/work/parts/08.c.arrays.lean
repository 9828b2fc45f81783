theorem zac_int : Cond.arrayClass .int ∈ lw_tbl := List.mem_of_getElem? (i := 162) (by decide +kernel)
theorem zac_long : Cond.arrayClass .long ∈ lw_tbl := List.mem_of_getElem? (i := 306) (by decide +kernel)
theorem zac_byte : Cond.arrayClass .byte ∈ lw_tbl := List.mem_of_getElem? (i := 760) (by decide +kernel)
theorem zft_le : ∀ ci, ci < 13 → ∀ j, j < (zFt.getD ci []).length → zft ci j ≤ 3 := by decide +kernel
theorem zHM_A {B0 : Nat} {D : va_G} {cs : Nat → ClassId} {σ : zH} {H H1 : Heap} {r j k : Nat} {x : Int32} (h : zHM B0 D cs σ H) (hk : zK σ r = k) (hk2 : k = 20 ∨ k = 22) (ho : ∀ q : Nat, q ≠ B0 + r → H1[q]? = H[q]?) (hz : H1.size = H.size) (hat : va_at D zCl (B0 + r, .inl (cs k, zN σ r, .inl (upd (zA σ r) j x))) H1) : zHM B0 D cs (zsA σ r j x) H1 := by
  have e0 : zA (zsA σ r j x) r = upd (zA σ r) j x := by funext i; show z2 (zA σ) r j x r i = _; simp [z2, upd]
  refine h.upd (r := r) rfl rfl hz ho ?_ (fun a ha => ?_)
  · rcases hk2 with rfl | rfl
    · rw [zE_20 (σ := zsA σ r j x) hk, e0]; exact hat
    · rw [zE_22 (σ := zsA σ r j x) hk, e0]; exact hat
  · have e : zA (zsA σ r j x) a = zA σ a := by funext i; show z2 (zA σ) r j x a i = _; simp [z2, ha]
    unfold zE
    rw [e]
    rfl
theorem zHM_B {B0 : Nat} {D : va_G} {cs : Nat → ClassId} {σ : zH} {H H1 : Heap} {r j : Nat} {x : Int64} (h : zHM B0 D cs σ H) (hk : zK σ r = 21) (ho : ∀ q : Nat, q ≠ B0 + r → H1[q]? = H[q]?) (hz : H1.size = H.size) (hat : va_at D zCl (B0 + r, .inl (cs 21, zN σ r, .inr (.inl (vp_updL (zB σ r) j x)))) H1) : zHM B0 D cs (zsB σ r j x) H1 := by
  have e0 : zB (zsB σ r j x) r = vp_updL (zB σ r) j x := by funext i; show z2 (zB σ) r j x r i = _; simp [z2, vp_updL]
  refine h.upd (r := r) rfl rfl hz ho ?_ (fun a ha => ?_)
  · rw [zE_21 (σ := zsB σ r j x) hk, e0]; exact hat
  · have e : zB (zsB σ r j x) a = zB σ a := by funext i; show z2 (zB σ) r j x a i = _; simp [z2, ha]
    unfold zE
    rw [e]
    rfl
theorem zHM_S {B0 : Nat} {D : va_G} {cs : Nat → ClassId} {σ : zH} {H H1 : Heap} {r j k x : Nat} (h : zHM B0 D cs σ H) (hk : zK σ r = k) (hk2 : k = 23 ∨ k = 24) (ho : ∀ q : Nat, q ≠ B0 + r → H1[q]? = H[q]?) (hz : H1.size = H.size) (hat : va_at D zCl (B0 + r, .inl (cs k, zN σ r, .inr (.inr (.inr (.inr (va_up (fun i => zro B0 (zS σ r i)) j (zro B0 x))))))) H1) : zHM B0 D cs (zsS σ r j x) H1 := by
  have e0 : (fun i => zro B0 (zS (zsS σ r j x) r i)) = va_up (fun i => zro B0 (zS σ r i)) j (zro B0 x) := by
    funext i
    show zro B0 (z2 (zS σ) r j x r i) = _
    by_cases hi : i = j
    · simp [z2, va_up, hi]
    · simp [z2, va_up, hi]
  refine h.upd (r := r) rfl rfl hz ho ?_ (fun a ha => ?_)
  · rcases hk2 with rfl | rfl
    · rw [zE_23 (σ := zsS σ r j x) hk, e0]; exact hat
    · rw [zE_24 (σ := zsS σ r j x) hk, e0]; exact hat
  · have e : zS (zsS σ r j x) a = zS σ a := by funext i; show z2 (zS σ) r j x a i = _; simp [z2, ha]
    unfold zE
    rw [e]
    rfl
section ZAR
variable {p : Program} {l : Launch} {e : Env} {R : Room} {s : State} {m : MethodId} {args : Array Value} {below : List Frame} {meth : Method} {c : Code} {H : Heap} {locs : List Loc} {cells slots : Nat} {Q : State → Prop}
variable {cc : ByteArray} {pc : Nat} {ls : Array Slot} {rest : List Value} {B0 : Nat} {D : va_G} {cs : Nat → ClassId} {xa : Nat → Nat} {σ : zH} {own : String} {r index : Nat} {i : Int32}
theorem z_iald (hexec : p.tables.exec = Jvm.exec) (hb : c.code = cc) (hK : va_K D zCl (zAt cs) s) (hH : zHM B0 D cs σ H) (hk : zK σ r = 20) (hin : vp_in i (zN σ r)) (hdg : decode cc pc = .ok (.iaload, 1)) (kk : W p l e R s m args below meth c H locs cells slots Q (F0 m (pc + 1) ls (.int (zA σ r i.toNatClampNeg) :: rest))) : W p l e R s m args below meth c H locs cells slots Q (F0 m pc ls (.int i :: zV B0 xa (.ref r) :: rest)) := by
  obtain ⟨hr1, hr2, hat⟩ := hH.2 r (by omega)
  rw [zE_20 hk] at hat
  rw [zV_pos B0 xa hr1]
  exact va_iald (D := D) hexec hb hK (va_P_one hat) 0 0 rfl rfl hin hdg kk
theorem z_bald (hexec : p.tables.exec = Jvm.exec) (hb : c.code = cc) (hK : va_K D zCl (zAt cs) s) (hH : zHM B0 D cs σ H) (hk : zK σ r = 22) (hin : vp_in i (zN σ r)) (hdg : decode cc pc = .ok (.baload, 1)) (kk : W p l e R s m args below meth c H locs cells slots Q (F0 m (pc + 1) ls (.int (zA σ r i.toNatClampNeg) :: rest))) : W p l e R s m args below meth c H locs cells slots Q (F0 m pc ls (.int i :: zV B0 xa (.ref r) :: rest)) := by
  obtain ⟨hr1, hr2, hat⟩ := hH.2 r (by omega)
  rw [zE_22 hk] at hat
  rw [zV_pos B0 xa hr1]
  exact va_bald (D := D) hexec hb hK (va_P_one hat) 0 2 rfl rfl hin hdg kk
theorem z_lald (hexec : p.tables.exec = Jvm.exec) (hb : c.code = cc) (hK : va_K D zCl (zAt cs) s) (hH : zHM B0 D cs σ H) (hk : zK σ r = 21) (hin : vp_in i (zN σ r)) (hdg : decode cc pc = .ok (.laload, 1)) (kk : W p l e R s m args below meth c H locs cells slots Q (F0 m (pc + 1) ls (.long (zB σ r i.toNatClampNeg) :: rest))) : W p l e R s m args below meth c H locs cells slots Q (F0 m pc ls (.int i :: zV B0 xa (.ref r) :: rest)) := by
  obtain ⟨hr1, hr2, hat⟩ := hH.2 r (by omega)
  rw [zE_21 hk] at hat
  rw [zV_pos B0 xa hr1]
  exact va_lald (D := D) hexec hb hK (va_P_one hat) 0 1 rfl rfl hin hdg kk
theorem z_aald (hexec : p.tables.exec = Jvm.exec) (hb : c.code = cc) (hK : va_K D zCl (zAt cs) s) (hH : zHM B0 D cs σ H) (hk : zK σ r = 23 ∨ zK σ r = 24) (hin : vp_in i (zN σ r)) (hdg : decode cc pc = .ok (.aaload, 1)) (kk : W p l e R s m args below meth c H locs cells slots Q (F0 m (pc + 1) ls (zV B0 xa (.ref (zS σ r i.toNatClampNeg)) :: rest))) : W p l e R s m args below meth c H locs cells slots Q (F0 m pc ls (.int i :: zV B0 xa (.ref r) :: rest)) := by
  obtain ⟨hr1, hr2, hat⟩ := hH.2 r (by omega)
  rw [zV_pos B0 xa hr1]
  rw [zV_ref] at kk
  rcases hk with hk | hk
  · rw [zE_23 hk] at hat
    exact va_aldq (D := D) hexec hb hK (va_P_one hat) 0 3 rfl rfl hin hdg kk
  · rw [zE_24 hk] at hat
    exact va_aldq (D := D) hexec hb hK (va_P_one hat) 0 4 rfl rfl hin hdg kk
theorem z_iast (hexec : p.tables.exec = Jvm.exec) (hb : c.code = cc) (hK : va_K D zCl (zAt cs) s) (hH : zHM B0 D cs σ H) (hS : va_S (zAA B0) s.heap H locs) (hk : zK σ r = 20) {x : Int32} (hin : vp_in i (zN σ r)) (hdg : decode cc pc = .ok (.iastore, 1)) (kk : ∀ (H1 : Heap) (locs1 : List Loc), zHM B0 D cs (zsA σ r i.toNatClampNeg x) H1 → va_S (zAA B0) s.heap H1 locs1 → W p l e R s m args below meth c H1 locs1 cells slots Q (F0 m (pc + 1) ls rest)) : W p l e R s m args below meth c H locs cells slots Q (F0 m pc ls (.int x :: .int i :: zV B0 xa (.ref r) :: rest)) := by
  obtain ⟨hr1, hr2, hat⟩ := hH.2 r (by omega)
  rw [zE_20 hk] at hat
  rw [zV_pos B0 xa hr1]
  refine W.iast hexec hb hat ((hK.2 0 _ rfl).1 (zN σ r) (fun j => .int (zA σ r j))) (fun q => by cases q) (by show ¬ (i < 0 ∨ (arrV _ _ _).slots.size ≤ _); rw [arrV_size]; exact hin) rfl rfl hdg fun H1 e z oq => ?_
  refine kk H1 _ (zHM_A hH hk (Or.inl rfl) oq z ?_) (hS.put z oq (by show B0 + 1 ≤ B0 + r; omega))
  show H1[B0 + r]? = some (vp_cell _ _)
  rw [e]
  show some ((vp_cell (cs 20) (zN σ r, .inl (zA σ r))).setSlot _ _) = _
  rw [vp_cell_i, vp_cell_i, arrV_store]
  congr 2
  funext q
  by_cases hq : q = i.toNatClampNeg
  · subst hq; simp [updV, upd]
  · simp [updV, upd, hq]
theorem z_bast (hexec : p.tables.exec = Jvm.exec) (hb : c.code = cc) (hK : va_K D zCl (zAt cs) s) (hH : zHM B0 D cs σ H) (hS : va_S (zAA B0) s.heap H locs) (hk : zK σ r = 22) {x : Int32} (hin : vp_in i (zN σ r)) (hdg : decode cc pc = .ok (.bastore, 1)) (kk : ∀ (H1 : Heap) (locs1 : List Loc), zHM B0 D cs (zsA σ r i.toNatClampNeg x.toInt8.toInt32) H1 → va_S (zAA B0) s.heap H1 locs1 → W p l e R s m args below meth c H1 locs1 cells slots Q (F0 m (pc + 1) ls rest)) : W p l e R s m args below meth c H locs cells slots Q (F0 m pc ls (.int x :: .int i :: zV B0 xa (.ref r) :: rest)) := by
  obtain ⟨hr1, hr2, hat⟩ := hH.2 r (by omega)
  rw [zE_22 hk] at hat
  rw [zV_pos B0 xa hr1]
  refine W.bast hexec hb hat ((hK.2 2 _ rfl).1 (zN σ r) (fun j => .int (zA σ r j))) (fun q => by cases q) (by show ¬ (i < 0 ∨ (arrV _ _ _).slots.size ≤ _); rw [arrV_size]; exact hin) rfl rfl hdg fun H1 e z oq => ?_
  refine kk H1 _ (zHM_A hH hk (Or.inr rfl) oq z ?_) (hS.put z oq (by show B0 + 1 ≤ B0 + r; omega))
  show H1[B0 + r]? = some (vp_cell _ _)
  rw [e]
  show some ((vp_cell (cs 22) (zN σ r, .inl (zA σ r))).setSlot _ _) = _
  rw [vp_cell_i, vp_cell_i, arrV_store]
  congr 2
  funext q
  by_cases hq : q = i.toNatClampNeg
  · subst hq; simp [updV, upd, narrow_byte]
  · simp [updV, upd, hq]
theorem z_last (hexec : p.tables.exec = Jvm.exec) (hb : c.code = cc) (hK : va_K D zCl (zAt cs) s) (hH : zHM B0 D cs σ H) (hS : va_S (zAA B0) s.heap H locs) (hk : zK σ r = 21) {x : Int64} (hin : vp_in i (zN σ r)) (hdg : decode cc pc = .ok (.lastore, 1)) (kk : ∀ (H1 : Heap) (locs1 : List Loc), zHM B0 D cs (zsB σ r i.toNatClampNeg x) H1 → va_S (zAA B0) s.heap H1 locs1 → W p l e R s m args below meth c H1 locs1 cells slots Q (F0 m (pc + 1) ls rest)) : W p l e R s m args below meth c H locs cells slots Q (F0 m pc ls (.long x :: .int i :: zV B0 xa (.ref r) :: rest)) := by
  obtain ⟨hr1, hr2, hat⟩ := hH.2 r (by omega)
  rw [zE_21 hk] at hat
  rw [zV_pos B0 xa hr1]
  refine W.last hexec hb hat ((hK.2 1 _ rfl).1 (zN σ r) (fun j => .long (zB σ r j))) (fun q => by cases q) (by show ¬ (i < 0 ∨ (arrV _ _ _).slots.size ≤ _); rw [arrV_size]; exact hin) rfl rfl hdg fun H1 e z oq => ?_
  refine kk H1 _ (zHM_B hH hk oq z ?_) (hS.put z oq (by show B0 + 1 ≤ B0 + r; omega))
  show H1[B0 + r]? = some (vp_cell _ _)
  rw [e]
  show some ((vp_cell (cs 21) (zN σ r, .inr (.inl (zB σ r)))).setSlot _ _) = _
  rw [vp_cell_l, vp_cell_l, arrV_store]
  congr 2
  funext q
  by_cases hq : q = i.toNatClampNeg
  · subst hq; simp [updV, vp_updL]
  · simp [updV, vp_updL, hq]
theorem z_aast (hexec : p.tables.exec = Jvm.exec) (hb : c.code = cc) (hK : va_K D zCl (zAt cs) s) (hH : zHM B0 D cs σ H) (hS : va_S (zAA B0) s.heap H locs) {x : Nat} (hk : zK σ r = 23 ∧ zK σ x = 6 ∨ zK σ r = 24 ∧ zK σ x = 11) (hin : vp_in i (zN σ r)) (hdg : decode cc pc = .ok (.aastore, 1)) (kk : ∀ (H1 : Heap) (locs1 : List Loc), zHM B0 D cs (zsS σ r i.toNatClampNeg x) H1 → va_S (zAA B0) s.heap H1 locs1 → W p l e R s m args below meth c H1 locs1 cells slots Q (F0 m (pc + 1) ls rest)) : W p l e R s m args below meth c H locs cells slots Q (F0 m pc ls (zV B0 xa (.ref x) :: .int i :: zV B0 xa (.ref r) :: rest)) := by
  have hlt : i.toNatClampNeg < zN σ r := Nat.not_le.mp fun q => hin (Or.inr q)
  have h0 : ¬ i < 0 := fun q => hin (Or.inl q)
  obtain ⟨k, ci, t0, rr, hk1, hk2, hkk, hx1, hci, ht, hc⟩ : ∃ (k ci t0 : Nat) (rr : vw_C), zK σ r = k ∧ (k = 23 ∨ k = 24) ∧ zE B0 cs σ r = .inl (cs k, zN σ r, .inr (.inr (.inr (.inr (fun j => zro B0 (zS σ r j)))))) ∧ zK σ x = ci + 1 ∧ ci < 13 ∧ (zAt cs)[t0]? = some (cs k, .object rr.1) ∧ zCl[ci]? = some rr := by
    rcases hk with ⟨h1, h2⟩ | ⟨h1, h2⟩
    · exact ⟨23, 5, 3, _, h1, Or.inl rfl, zE_23 h1, h2, by omega, rfl, rfl⟩
    · exact ⟨24, 10, 4, _, h1, Or.inr rfl, zE_24 h1, h2, by omega, rfl, rfl⟩
  obtain ⟨hr1, hr2, hat⟩ := hH.2 r (by omega)
  obtain ⟨hx2, hx3, hatx⟩ := hH.2 x (by omega)
  rw [hkk] at hat
  rw [zE_o hx1 hci] at hatx
  rw [zV_pos B0 xa hr1, zV_pos B0 xa hx2]
  obtain ⟨r', hr', cellV, g1, g2, g3, -⟩ := hatx
  have hcls := (hK.1 ci rr hc).2
  obtain ⟨kA, comp, k1, k2, k3, -⟩ := (hK.2 t0 _ ht).2
  have hcomp : comp = D.1 ci := Option.some.inj (k3.symm.trans hcls.1)
  subst hcomp
  obtain ⟨kC, hkC, -⟩ := hcls.2
  refine W.aast hexec hb hat (fun q h => by cases h) (fun h => by cases h) k1 k2 rfl hkC ⟨h0, by show _ < (arrV _ _ _).slots.size; rw [arrV_size]; exact hlt⟩ g1 (fun q h => by rw [g3] at h; cases h) (by rw [g2]; exact hkC) (by rw [g2]; exact va_assign hcls) rfl rfl hdg fun H1 e z oq => ?_
  refine kk H1 _ (zHM_S hH hk1 hk2 oq z ?_) (hS.put z oq (by show B0 + 1 ≤ B0 + r; omega))
  show H1[B0 + r]? = some (vp_cell _ _)
  rw [e]
  show some ((vp_cell (cs k) (zN σ r, .inr (.inr (.inr (.inr (fun j => zro B0 (zS σ r j))))))).setSlot _ _) = _
  rw [vp_cell_q, vp_cell_q, arrV_store]
  congr 2
  funext q
  by_cases hq : q = i.toNatClampNeg
  · subst hq; simp [updV, va_up, va_rf, zro_pos B0 hx2]
  · simp [updV, va_up, hq]
/-! new cells -/
theorem z_newa (hexec : p.tables.exec = Jvm.exec) (hb : c.code = cc) (hw : ∀ w ∈ lw_tbl, goodWord w = true → w.before args s = true) (hK : va_K D zCl (zAt cs) s) (hH : zHM B0 D cs σ H) (hS : va_S (zAA B0) s.heap H locs) (hsz : B0 + 1 ≤ s.heap.size) {n : Int32} {atype : ArrayType} {k : Nat} (hk : atype = .int ∧ k = 20 ∨ atype = .long ∧ k = 21 ∨ atype = .byte ∧ k = 22) (hn : ¬ n < 0) (hN : n.toNatClampNeg ≤ 60000000) (hcells : cells + 1 ≤ R.cells) (hslots : slots + n.toNatClampNeg ≤ R.slots) (hdg : decode cc pc = .ok (.newarray atype, 2))
    (kk : ∀ H1 : Heap, zHM B0 D cs (znw σ k n.toNatClampNeg n.toNatClampNeg) H1 → va_S (zAA B0) s.heap H1 locs → W p l e R s m args below meth c H1 locs (cells + 1) (slots + n.toNatClampNeg) Q (F0 m (pc + 2) ls (zV B0 xa (.ref (zX σ + 1)) :: rest))) : W p l e R s m args below meth c H locs cells slots Q (F0 m pc ls (.int n :: rest)) := by
  have hs := hH.1
  have go : ∀ (H1 : Heap), H1.size = H.size + 1 → (∀ q, q < H.size → H1[q]? = H[q]?) → va_at D zCl (H.size, zE B0 cs (znw σ k n.toNatClampNeg n.toNatClampNeg) (zX σ + 1)) H1 → W p l e R s m args below meth c H1 locs (cells + 1) (slots + n.toNatClampNeg) Q (F0 m (pc + 2) ls (.ref H.size :: rest)) := by
    intro H1 zz o1 hat
    have h1 := kk H1 (hH.new zz o1 hat) ⟨Nat.le_trans hS.1 (by omega), fun q h1 h2 => (o1 q (Nat.lt_of_lt_of_le h1 hS.1)).trans (hS.2.1 q h1 h2), hS.2.2⟩
    rw [zV_pos B0 xa (by omega), show B0 + (zX σ + 1) = H.size by omega] at h1
    exact h1
  have hkn : zK (znw σ k n.toNatClampNeg n.toNatClampNeg) (zX σ + 1) = k := by show zu (zK σ) (zX σ + 1) k (zX σ + 1) = k; simp [zu]
  have hNn : zN (znw σ k n.toNatClampNeg n.toNatClampNeg) (zX σ + 1) = n.toNatClampNeg := by show zu (zN σ) (zX σ + 1) _ (zX σ + 1) = _; simp [zu]
  have hA0 : zA (znw σ k n.toNatClampNeg n.toNatClampNeg) (zX σ + 1) = fun _ => 0 := by funext i; show z1 (zA σ) (zX σ + 1) 0 (zX σ + 1) i = _; simp [z1]
  have hB0 : zB (znw σ k n.toNatClampNeg n.toNatClampNeg) (zX σ + 1) = fun _ => 0 := by funext i; show z1 (zB σ) (zX σ + 1) 0 (zX σ + 1) i = _; simp [z1]
  rcases hk with ⟨rfl, rfl⟩ | ⟨rfl, rfl⟩ | ⟨rfl, rfl⟩
  · refine va_newaK (atype := .int) hexec hb (hw _ zac_int rfl) rfl hdg rfl hn rfl (by show n.toNatClampNeg * 4 ≤ _; omega) hcells hslots rfl fun H1 cA e1 zz o1 hAr hNm => ?_
    have hcA : cA = cs 20 := Option.some.inj (hNm.symm.trans (hK.2 0 _ rfl).2)
    subst hcA
    exact go H1 zz o1 (by rw [zE_20 hkn, hNn, hA0]; exact e1)
  · refine va_newaK (atype := .long) hexec hb (hw _ zac_long rfl) rfl hdg rfl hn rfl (by show n.toNatClampNeg * 8 ≤ _; omega) hcells hslots rfl fun H1 cA e1 zz o1 hAr hNm => ?_
    have hcA : cA = cs 21 := Option.some.inj (hNm.symm.trans (hK.2 1 _ rfl).2)
    subst hcA
    exact go H1 zz o1 (by rw [zE_21 hkn, hNn, hB0]; exact e1)
  · refine va_newaK (atype := .byte) hexec hb (hw _ zac_byte rfl) rfl hdg rfl hn rfl (by show n.toNatClampNeg * 1 ≤ _; omega) hcells hslots rfl fun H1 cA e1 zz o1 hAr hNm => ?_
    have hcA : cA = cs 22 := Option.some.inj (hNm.symm.trans (hK.2 2 _ rfl).2)
    subst hcA
    exact go H1 zz o1 (by rw [zE_22 hkn, hNn, hA0]; exact e1)
theorem z_newq (hexec : p.tables.exec = Jvm.exec) (hb : c.code = cc) (hw : ∀ w ∈ lw_tbl, goodWord w = true → w.before args s = true) (hown : s.vm.findClass own = some m.cls) (hK : va_K D zCl (zAt cs) s) (hH : zHM B0 D cs σ H) (hS : va_S (zAA B0) s.heap H locs) {n : Int32} {C : String} {k : Nat} (hover : va_AO C s) (hlink : Cond.classLink own index C ∈ lw_tbl) (hk : C = "ConjurerDesk$Step" ∧ k = 23 ∨ C = "ConjurerDesk$Ways" ∧ k = 24) (hn : ¬ n < 0) (hN : n.toNatClampNeg ≤ 60000000) (hcells : cells + 1 ≤ R.cells) (hslots : slots + n.toNatClampNeg ≤ R.slots) (hdg : decode cc pc = .ok (.anewarray index, 3))
    (kk : ∀ H1 : Heap, zHM B0 D cs (znw σ k n.toNatClampNeg n.toNatClampNeg) H1 → va_S (zAA B0) s.heap H1 locs → W p l e R s m args below meth c H1 locs (cells + 1) (slots + n.toNatClampNeg) Q (F0 m (pc + 3) ls (zV B0 xa (.ref (zX σ + 1)) :: rest))) : W p l e R s m args below meth c H locs cells slots Q (F0 m pc ls (.int n :: rest)) := by
  have hs := hH.1
  have hkn : zK (znw σ k n.toNatClampNeg n.toNatClampNeg) (zX σ + 1) = k := by show zu (zK σ) (zX σ + 1) k (zX σ + 1) = k; simp [zu]
  have hNn : zN (znw σ k n.toNatClampNeg n.toNatClampNeg) (zX σ + 1) = n.toNatClampNeg := by show zu (zN σ) (zX σ + 1) _ (zX σ + 1) = _; simp [zu]
  have hS0 : (fun j => zro B0 (zS (znw σ k n.toNatClampNeg n.toNatClampNeg) (zX σ + 1) j)) = fun _ => none := by funext i; show zro B0 (z1 (zS σ) (zX σ + 1) 0 (zX σ + 1) i) = _; simp [z1, zro]
  refine W.anew hexec hb hown (hw _ hlink rfl) (va_AO.use hover) rfl hdg rfl hn (by omega) hcells hslots fun cA kA comp f1 f2 f3 f4 => ?_
  generalize hH1 : H.push ({ cls := cA, slots := Array.replicate n.toNatClampNeg .null, vm := .none } : Cell) = H1
  have zz : H1.size = H.size + 1 := by rw [← hH1, Array.size_push]
  have e1 : H1[H.size]? = some (arrV cA n.toNatClampNeg (fun _ => .null)) := by rw [← hH1, Array.getElem?_push_size, ← arrV_new]
  have o1 : ∀ q : Nat, q < H.size → H1[q]? = H[q]? := fun q hq => by rw [← hH1, Array.getElem?_push, if_neg (Nat.ne_of_lt hq)]
  have go : va_at D zCl (H.size, zE B0 cs (znw σ k n.toNatClampNeg n.toNatClampNeg) (zX σ + 1)) H1 := by
    rcases hk with ⟨rfl, rfl⟩ | ⟨rfl, rfl⟩
    · obtain ⟨kA', comp', -, -, -, g4⟩ := (hK.2 3 _ rfl).2
      have hcA : cA = cs 23 := Option.some.inj (f1.symm.trans g4)
      subst hcA
      rw [zE_23 hkn, hNn, hS0]
      exact e1
    · obtain ⟨kA', comp', -, -, -, g4⟩ := (hK.2 4 _ rfl).2
      have hcA : cA = cs 24 := Option.some.inj (f1.symm.trans g4)
      subst hcA
      rw [zE_24 hkn, hNn, hS0]
      exact e1
  have h1 := kk H1 (hH.new zz o1 go) ⟨Nat.le_trans hS.1 (by omega), fun q h1 h2 => (o1 q (Nat.lt_of_lt_of_le h1 hS.1)).trans (hS.2.1 q h1 h2), hS.2.2⟩
  rw [zV_pos B0 xa (by omega), show B0 + (zX σ + 1) = H.size by omega] at h1
  exact h1
theorem z_newo (hexec : p.tables.exec = Jvm.exec) (hb : c.code = cc) (hw : ∀ w ∈ lw_tbl, goodWord w = true → w.before args s = true) (hown : s.vm.findClass own = some m.cls) (hK : va_K D zCl (zAt cs) s) (hH : zHM B0 D cs σ H) (hS : va_S (zAA B0) s.heap H locs) {ci n : Nat} (hc : ci < 13) (hlink : Cond.classLink own index (zcs ci) ∈ lw_tbl) (hinst : Cond.instantiable (zcs ci) n ∈ lw_tbl) (hini : Cond.initialized (zcs ci) ∈ lw_tbl) (hn : n = (zFt.getD ci []).length) (hcells : cells + 1 ≤ R.cells) (hslots : slots + n ≤ R.slots) (hdg : decode cc pc = .ok (.new index, 3))
    (kk : ∀ H1 : Heap, zHM B0 D cs (znw σ (ci + 1) n 0) H1 → va_S (zAA B0) s.heap H1 locs → W p l e R s m args below meth c H1 locs (cells + 1) (slots + n) Q (F0 m (pc + 3) ls (zV B0 xa (.ref (zX σ + 1)) :: rest))) : W p l e R s m args below meth c H locs cells slots Q (F0 m pc ls rest) := by
  have hs := hH.1
  obtain ⟨C, T, N, ty, h1, h2, h3, h4, h5, h6⟩ := zcl_ok ci hc
  have hC : zcs ci = C := by unfold zcs; rw [h1]
  rw [hC] at hlink hinst hini
  have hts : ∀ w ∈ u_ws C T N, w.before args s = true := fun w h => hw w (h2 w h).1 (good_word' (h2 w h).2)
  have hKn := hK.1 ci _ h1
  have hkn : zK (znw σ (ci + 1) n 0) (zX σ + 1) = ci + 1 := by show zu (zK σ) (zX σ + 1) (ci + 1) (zX σ + 1) = _; simp [zu]
  refine W.newcK hexec hb hown (hw _ hlink rfl) (hw _ hinst rfl) (hw _ hini rfl) rfl hdg hcells hslots hKn.2.1 rfl fun H1 kC hkC e1 zz o1 => ?_
  have go : va_at D zCl (H.size, zE B0 cs (znw σ (ci + 1) n 0) (zX σ + 1)) H1 := by
    rw [zE_o hkn hc]
    refine ⟨_, h1, (u_born ty hts (fun _ h => h) hKn hkC e1 h3).to (fun j hj => ?_)⟩
    have hj2 : j < (zFt.getD ci []).length := by have : j < N := hj; omega
    have hv : vp_V (zfs B0 (znw σ (ci + 1) n 0) (zX σ + 1) ci) j = zfv B0 (znw σ (ci + 1) n 0) (zX σ + 1) j (zft ci j) := by
      unfold vp_V
      rw [List.getD_eq_getElem?_getD, zfs_at _ _ _ _ hj2]
      rfl
    show defaultValue (ty j) = _
    rw [hv, ← h6 j hj]
    have eI : zI (znw σ (ci + 1) n 0) (zX σ + 1) j = 0 := by show z1 (zI σ) (zX σ + 1) 0 (zX σ + 1) j = _; simp [z1]
    have eJ : zJ (znw σ (ci + 1) n 0) (zX σ + 1) j = 0 := by show z1 (zJ σ) (zX σ + 1) 0 (zX σ + 1) j = _; simp [z1]
    have eQ : zQ (znw σ (ci + 1) n 0) (zX σ + 1) j = 0 := by show z1 (zQ σ) (zX σ + 1) 0 (zX σ + 1) j = _; simp [z1]
    have h7 := h6 j hj
    unfold zfv
    rw [eI, eJ, eQ]
    have hle : zfk (ty j) ≤ 3 := by rw [h7]; exact zft_le ci hc j hj2
    generalize ty j = t at hle ⊢
    cases t <;> first | rfl | (simp [zfk] at hle; done)
  have h1 := kk H1 (hH.new zz o1 go) ⟨Nat.le_trans hS.1 (by omega), fun q h1 h2 => (o1 q (Nat.lt_of_lt_of_le h1 hS.1)).trans (hS.2.1 q h1 h2), hS.2.2⟩
  rw [zV_pos B0 xa (by omega), show B0 + (zX σ + 1) = H.size by omega] at h1
  exact h1
end ZAR
