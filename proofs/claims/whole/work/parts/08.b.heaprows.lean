theorem good_word' {w : Cond} (h : (w.onTables && w.keeps) = true ∨ ∃ ty, w = .arrayClass ty) : goodWord w = true := by
  rcases h with h | ⟨ty, rfl⟩
  · cases w <;> first | rfl | exact h
  · rfl
theorem zfit_i {t : FieldType} (h : zfk t = 0) (x : Int32) : narrow t (.int x) = .int x ∧ fits t (.int x) = true := by cases t <;> first | (simp [zfk] at h; done) | exact ⟨rfl, rfl⟩
theorem zfit_z {t : FieldType} (h : zfk t = 3) {x : Int32} (hx : x = 0 ∨ x = 1) : narrow t (.int x) = .int x ∧ fits t (.int x) = true := by rcases hx with rfl | rfl <;> (cases t <;> first | (simp [zfk] at h; done) | exact ⟨rfl, rfl⟩)
theorem zfit_j {t : FieldType} (h : zfk t = 1) (x : Int64) : narrow t (.long x) = .long x ∧ fits t (.long x) = true := by cases t <;> first | (simp [zfk] at h; done) | exact ⟨rfl, rfl⟩
theorem zfit_q {t : FieldType} (h : zfk t = 2) (r : Option Nat) : narrow t (va_rf r) = va_rf r ∧ fits t (va_rf r) = true := by cases r <;> (cases t <;> first | (simp [zfk] at h; done) | exact ⟨rfl, rfl⟩)
theorem zfs_set {B0 : Nat} {σ σ' : zH} {r ci j : Nat} {x : Value} (h : ∀ i, i < (zFt.getD ci []).length → zfv B0 σ' r i (zft ci i) = if i = j then x else zfv B0 σ r i (zft ci i)) : zfs B0 σ' r ci = (zfs B0 σ r ci).set j x := by
  apply List.ext_getElem?
  intro i
  by_cases hi : i < (zFt.getD ci []).length
  · rw [zfs_at _ _ _ _ hi, h i hi, List.getElem?_set]
    by_cases hc : i = j
    · subst hc
      rw [if_pos rfl, if_pos rfl, if_pos (by rw [zfs_len]; exact hi)]
    · rw [if_neg hc, if_neg (fun q => hc q.symm), zfs_at _ _ _ _ hi]
  · rw [List.getElem?_eq_none (by rw [zfs_len]; omega), List.getElem?_eq_none (by rw [List.length_set, zfs_len]; omega)]
section ZHR
variable {p : Program} {l : Launch} {e : Env} {R : Room} {s : State} {m : MethodId} {args : Array Value} {below : List Frame} {meth : Method} {c : Code} {H : Heap} {locs : List Loc} {cells slots : Nat} {Q : State → Prop}
variable {cc : ByteArray} {pc : Nat} {ls : Array Slot} {rest : List Value} {B0 : Nat} {D : va_G} {cs : Nat → ClassId} {xa : Nat → Nat} {σ : zH} {own : String} {r ci j index : Nat}
theorem z_get (hexec : p.tables.exec = Jvm.exec) (hb : c.code = cc) (hw : ∀ w ∈ lw_tbl, goodWord w = true → w.before args s = true) (hown : s.vm.findClass own = some m.cls) (hK : va_K D zCl (zAt cs) s) (hH : zHM B0 D cs σ H) (hk : zK σ r = ci + 1) (hc : ci < 13) (hj : j < (zFt.getD ci []).length) (hlink : Cond.fieldLink own index (zfd ci j).1 (zfd ci j).2.1 (zfd ci j).2.2.1 ∈ lw_tbl) (hdg : decode cc pc = .ok (.getfield index, 3))
    (kk : W p l e R s m args below meth c H locs cells slots Q (F0 m (pc + 3) ls (zfv B0 σ r j (zft ci j) :: rest))) : W p l e R s m args below meth c H locs cells slots Q (F0 m pc ls (zV B0 xa (.ref r) :: rest)) := by
  obtain ⟨C, T, N, ty, h1, h2, h3, h4, h5, h6⟩ := zcl_ok ci hc
  obtain ⟨hr1, hr2, hat⟩ := hH.2 r (by omega)
  rw [zE_o hk hc] at hat
  rw [zV_pos B0 xa hr1]
  have hf : zfd ci j = T j := by unfold zfd; rw [h1]
  rw [hf] at hlink
  exact va_get (D := D) (ws := [(B0 + r, .inr (ci, zfs B0 σ r ci))]) (T := T) (N := N) (C := C) (Ts := u_ws C T N) hexec hb (fun w h => hw w (h2 w h).1 (good_word' (h2 w h).2)) (fun _ h => h) hown hK (va_P_one hat) 0 rfl h1 j (by omega) (hw _ hlink rfl) (fun _ h => h) (zfs_at _ _ _ _ hj) hdg kk
theorem z_put (hexec : p.tables.exec = Jvm.exec) (hb : c.code = cc) (hw : ∀ w ∈ lw_tbl, goodWord w = true → w.before args s = true) (hown : s.vm.findClass own = some m.cls) (hK : va_K D zCl (zAt cs) s) (hH : zHM B0 D cs σ H) (hS : va_S (zAA B0) s.heap H locs) (hk : zK σ r = ci + 1) (hc : ci < 13) (hj : j < (zFt.getD ci []).length) (hlink : Cond.fieldLink own index (zfd ci j).1 (zfd ci j).2.1 (zfd ci j).2.2.1 ∈ lw_tbl) (hdg : decode cc pc = .ok (.putfield index, 3))
    (hfin : (zfd ci j).2.2.2 = false ∨ (meth.name = "<init>" ∧ (zfd ci j).1 = own)) {x : Value} (hx : ∀ t, zfk t = zft ci j → narrow t x = x ∧ fits t x = true)
    (kk : ∀ (H1 : Heap) (locs1 : List Loc), (∀ q : Nat, q ≠ B0 + r → H1[q]? = H[q]?) → H1.size = H.size → va_at D zCl (B0 + r, .inr (ci, (zfs B0 σ r ci).set j x)) H1 → va_S (zAA B0) s.heap H1 locs1 → W p l e R s m args below meth c H1 locs1 cells slots Q (F0 m (pc + 3) ls rest)) : W p l e R s m args below meth c H locs cells slots Q (F0 m pc ls (x :: zV B0 xa (.ref r) :: rest)) := by
  obtain ⟨C, T, N, ty, h1, h2, h3, h4, h5, h6⟩ := zcl_ok ci hc
  obtain ⟨hr1, hr2, hat⟩ := hH.2 r (by omega)
  rw [zE_o hk hc] at hat
  rw [zV_pos B0 xa hr1]
  have hf : zfd ci j = T j := by unfold zfd; rw [h1]
  rw [hf] at hlink hfin
  have hjN : j < N := by omega
  have hts : ∀ w ∈ u_ws C T N, w.before args s = true := fun w h => hw w (h2 w h).1 (good_word' (h2 w h).2)
  have hin : ∀ w ∈ u_ws C T N, w ∈ u_ws C T N := fun _ h => h
  have hlk := hw _ hlink rfl
  have hap := va_apart (own := own) hts hin ty h3 h4 hK h1
  obtain ⟨rr, g1, cell, q1, q2, q3, q4⟩ := hat
  have hr : rr = (C, T, N) := Option.some.inj (g1.symm.trans h1)
  subst hr
  obtain ⟨hSl, hfc, kC, hkC, hkind⟩ := hK.1 ci _ h1
  obtain ⟨cf, kf, fi, f, hi, hsl⟩ := hSl j hjN
  have hst := (u_facts hfc hkC (u_lays hts hin hjN) hi).1
  have hd := h3 j hjN
  obtain ⟨hn, hfit⟩ := hx (ty j) (h6 j hjN)
  have hlay := hts _ (hin _ (u_in_lay hjN))
  have hlen : j < (zfs B0 σ r ci).length := by rw [zfs_len]; exact hj
  rcases hfin with hfin | ⟨hfi, hdecl⟩
  · unfold u_lay at hlay
    rw [if_neg (by rw [hfin]; decide)] at hlay
    have h6 := u_store hfc hkC hkind hlay hi hd hn hfit
    refine W.putK hexec hb (f := f) ⟨hown, hlk, ⟨_, _, _, hi⟩, hst⟩ (by rw [q2]; exact h6) q1 q3 (by rw [hsl]; exact k2_hasslot (q4 j hjN)) rfl rfl hdg fun H' e1 e2 e3 => ?_
    rw [hsl] at e1 ⊢
    exact kk H' _ e3 e2 ⟨_, h1, t_OB.to (V := updV (vp_V (zfs B0 σ r ci)) j x) ⟨_, e1, q2, q3, t_set q4 hap hjN x⟩ (fun j _ => vp_updV_set hlen x j)⟩ (hS.put e2 e3 (by show B0 + 1 ≤ B0 + r; omega))
  · by_cases hfin : (T j).2.2.2 = false
    · unfold u_lay at hlay
      rw [if_neg (by rw [hfin]; decide)] at hlay
      have h6 := u_store hfc hkC hkind hlay hi hd hn hfit
      refine W.putK hexec hb (f := f) ⟨hown, hlk, ⟨_, _, _, hi⟩, hst⟩ (by rw [q2]; exact h6) q1 q3 (by rw [hsl]; exact k2_hasslot (q4 j hjN)) rfl rfl hdg fun H' e1 e2 e3 => ?_
      rw [hsl] at e1 ⊢
      exact kk H' _ e3 e2 ⟨_, h1, t_OB.to (V := updV (vp_V (zfs B0 σ r ci)) j x) ⟨_, e1, q2, q3, t_set q4 hap hjN x⟩ (fun j _ => vp_updV_set hlen x j)⟩ (hS.put e2 e3 (by show B0 + 1 ≤ B0 + r; omega))
    · have hfin : (T j).2.2.2 = true := by simpa using hfin
      unfold u_lay at hlay
      rw [if_pos hfin] at hlay
      have hcf : m.cls = cf := by
        obtain ⟨_, _, c', _, _, _, -, -, hf', -, -, -, hown2, -⟩ := Cond.laysFinal_spec hlay
        have e1 : c' = cf := by have := hi.symm.trans hf'; simp at this; exact this.1.symm
        rw [hdecl] at hown2
        rw [← e1]; exact Option.some.inj (hown.symm.trans hown2)
      have h6 := u_fits hfc hkC hkind (Or.inr hlay) hi hd hn hfit
      refine W.putFinK hexec hb hown hlk hi hst hcf hfi (by rw [q2]; exact h6) q1 q3 (by rw [hsl]; exact k2_hasslot (q4 j hjN)) rfl rfl hdg fun H' e1 e2 e3 => ?_
      rw [hsl] at e1 ⊢
      exact kk H' _ e3 e2 ⟨_, h1, t_OB.to (V := updV (vp_V (zfs B0 σ r ci)) j x) ⟨_, e1, q2, q3, t_set q4 hap hjN x⟩ (fun j _ => vp_updV_set hlen x j)⟩ (hS.put e2 e3 (by show B0 + 1 ≤ B0 + r; omega))
end ZHR
/-! the abstract heap after a store -/
theorem zHM_I {B0 : Nat} {D : va_G} {cs : Nat → ClassId} {σ : zH} {H H1 : Heap} {r ci j : Nat} {x : Int32} (h : zHM B0 D cs σ H) (hk : zK σ r = ci + 1) (hc : ci < 13) (ht : zft ci j = 0 ∨ zft ci j = 3) (ho : ∀ q : Nat, q ≠ B0 + r → H1[q]? = H[q]?) (hz : H1.size = H.size) (hat : va_at D zCl (B0 + r, .inr (ci, (zfs B0 σ r ci).set j (.int x))) H1) : zHM B0 D cs (zsI σ r j x) H1 := by
  refine h.upd (r := r) rfl rfl hz ho ?_ (fun a ha => ?_)
  · rw [zE_o (σ := zsI σ r j x) (a := r) (ci := ci) hk hc, zfs_set (σ := σ) (j := j) (x := .int x) (fun i hi => ?_)]
    · exact hat
    · by_cases hij : i = j
      · subst hij
        rw [if_pos rfl]
        rcases ht with ht | ht <;> (rw [ht]; simp [zfv, zsI, zI, z2])
      · rw [if_neg hij]
        have e : zI (zsI σ r j x) r i = zI σ r i := by show z2 (zI σ) r j x r i = _; simp [z2, hij]
        unfold zfv
        split <;> first | rfl | rw [e]
  · have e : zI (zsI σ r j x) a = zI σ a := by funext i; show z2 (zI σ) r j x a i = _; simp [z2, ha]
    unfold zE zfs zfv
    rw [e]
    rfl
theorem zHM_J {B0 : Nat} {D : va_G} {cs : Nat → ClassId} {σ : zH} {H H1 : Heap} {r ci j : Nat} {x : Int64} (h : zHM B0 D cs σ H) (hk : zK σ r = ci + 1) (hc : ci < 13) (ht : zft ci j = 1) (ho : ∀ q : Nat, q ≠ B0 + r → H1[q]? = H[q]?) (hz : H1.size = H.size) (hat : va_at D zCl (B0 + r, .inr (ci, (zfs B0 σ r ci).set j (.long x))) H1) : zHM B0 D cs (zsJ σ r j x) H1 := by
  refine h.upd (r := r) rfl rfl hz ho ?_ (fun a ha => ?_)
  · rw [zE_o (σ := zsJ σ r j x) (a := r) (ci := ci) hk hc, zfs_set (σ := σ) (j := j) (x := .long x) (fun i hi => ?_)]
    · exact hat
    · by_cases hij : i = j
      · subst hij
        rw [if_pos rfl, ht]
        simp [zfv, zsJ, zJ, z2]
      · rw [if_neg hij]
        have e : zJ (zsJ σ r j x) r i = zJ σ r i := by show z2 (zJ σ) r j x r i = _; simp [z2, hij]
        unfold zfv
        split <;> first | rfl | rw [e]
  · have e : zJ (zsJ σ r j x) a = zJ σ a := by funext i; show z2 (zJ σ) r j x a i = _; simp [z2, ha]
    unfold zE zfs zfv
    rw [e]
    rfl
theorem zHM_Q {B0 : Nat} {D : va_G} {cs : Nat → ClassId} {σ : zH} {H H1 : Heap} {r ci j x : Nat} (h : zHM B0 D cs σ H) (hk : zK σ r = ci + 1) (hc : ci < 13) (ht : zft ci j = 2) (ho : ∀ q : Nat, q ≠ B0 + r → H1[q]? = H[q]?) (hz : H1.size = H.size) (hat : va_at D zCl (B0 + r, .inr (ci, (zfs B0 σ r ci).set j (va_rf (zro B0 x)))) H1) : zHM B0 D cs (zsQ σ r j x) H1 := by
  refine h.upd (r := r) rfl rfl hz ho ?_ (fun a ha => ?_)
  · rw [zE_o (σ := zsQ σ r j x) (a := r) (ci := ci) hk hc, zfs_set (σ := σ) (j := j) (x := va_rf (zro B0 x)) (fun i hi => ?_)]
    · exact hat
    · by_cases hij : i = j
      · subst hij
        rw [if_pos rfl, ht]
        simp [zfv, zsQ, zQ, z2]
      · rw [if_neg hij]
        have e : zQ (zsQ σ r j x) r i = zQ σ r i := by show z2 (zQ σ) r j x r i = _; simp [z2, hij]
        unfold zfv
        split <;> first | rfl | rw [e]
  · have e : zQ (zsQ σ r j x) a = zQ σ a := by funext i; show z2 (zQ σ) r j x a i = _; simp [z2, ha]
    unfold zE zfs zfv
    rw [e]
    rfl
