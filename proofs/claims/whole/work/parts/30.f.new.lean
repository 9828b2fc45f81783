/-! what is untouched keeps its shape -/
theorem zTb_e {σ τ : zH} {t : Nat} (h : ∀ b, t ≤ b → b ≤ t + 3 → zEo b σ τ) (hT : zTb σ t) : zTb τ t := by
  have f0 := h t (by omega) (by omega)
  have f1 := h (t + 1) (by omega) (by omega)
  have f2 := h (t + 2) (by omega) (by omega)
  have f3 := h (t + 3) (by omega) (by omega)
  unfold zTb at *
  rw [f0.1, f0.2.2.2.2.1, f1.1, f1.2.1, f2.1, f2.2.1, f3.1, f3.2.1]
  exact hT
theorem zWc_e {σ τ : zH} {w : Nat} {L : List (Nat × Nat)} (h : ∀ b, w ≤ b → b ≤ w + 4 → zEo b σ τ) (hT : zWc σ w L) : zWc τ w L := by
  have f0 := h w (by omega) (by omega)
  have f1 := h (w + 1) (by omega) (by omega)
  have f2 := h (w + 2) (by omega) (by omega)
  have f3 := h (w + 3) (by omega) (by omega)
  have f4 := h (w + 4) (by omega) (by omega)
  unfold zWc zWb at *
  rw [f0.1, f0.2.2.2.2.1, f0.2.2.1, f1.1, f1.2.1, f1.2.2.2.2.2.2.1, f2.1, f2.2.1, f2.2.2.2.2.2.2.1, f3.1, f3.2.1, f3.2.2.2.2.2.1, f4.1, f4.2.1, f4.2.2.2.2.2.1]
  exact hT
theorem zCo_e {σ τ : zH} {o : Nat} (h : ∀ b, o ≤ b → b ≤ o + 3 → zEo b σ τ) (hT : zCo σ o) : zCo τ o := by
  have f0 := h o (by omega) (by omega)
  have f1 := h (o + 1) (by omega) (by omega)
  have f2 := h (o + 2) (by omega) (by omega)
  have f3 := h (o + 3) (by omega) (by omega)
  unfold zCo at *
  rw [f0.1, f0.2.2.2.2.1, f1.1, f1.2.1, f2.1, f2.2.1, f3.1, f3.2.1]
  exact hT
theorem zTs_e {σ τ : zH} {T : Nat} (h : ∀ b, T ≤ b → b ≤ T + 45 → zEo b σ τ) (hT : zTs σ T) : zTs τ T := by
  have f0 := h T (by omega) (by omega)
  have f1 := h (T + 1) (by omega) (by omega)
  obtain ⟨a1, a2, a3, a4, a5, a6, a7⟩ := hT
  refine ⟨by rw [f0.1]; exact a1, by rw [f0.2.2.2.2.1]; exact a2, by rw [f0.2.2.2.2.1]; exact a3, by rw [f1.1]; exact a4, by rw [f1.2.1]; exact a5, fun k hk => ?_, zCo_e (fun b _ _ => h b (by omega) (by omega)) a7⟩
  rw [f1.2.2.2.2.2.2.2, (h (T + 6 + k) (by omega) (by omega)).1]
  exact a6 k hk
theorem zTp_e {σ τ : zH} {B : List Nat} (h : ∀ b, 2 ≤ b → b ≤ 3 → zEo b σ τ) (hT : zTp σ B) : zTp τ B := by
  have f2 := h 2 (by omega) (by omega)
  have f3 := h 3 (by omega) (by omega)
  unfold zTp at *
  rw [f2.1, f2.2.2.2.2.1, f2.2.2.1, f3.1, f3.2.1, f3.2.2.2.2.2.1]
  exact hT
theorem zc4_e {σ τ : zH} {n : Nat} {D : zDT} {row : List Nat} (h : ∀ b, 4 ≤ b → b ≤ 8 → zEo b σ τ) (hT : zc4 σ n D row) : zc4 τ n D row := by
  have f4 := h 4 (by omega) (by omega)
  have f5 := h 5 (by omega) (by omega)
  have f6 := h 6 (by omega) (by omega)
  have f7 := h 7 (by omega) (by omega)
  have f8 := h 8 (by omega) (by omega)
  unfold zc4 zDk zRow at *
  rw [f4.1, f4.2.2.2.2.1, f4.2.2.1, f5.1, f5.2.1, f5.2.2.2.2.2.1, f6.1, f6.2.1, f6.2.2.2.2.2.1, f7.1, f7.2.1, f7.2.2.2.2.2.1, f8.1, f8.2.1, f8.2.2.2.2.2.1]
  exact hT
theorem zc9_e {σ τ : zH} {fk : Nat} (h : ∀ b, 9 ≤ b → b ≤ 13 → zEo b σ τ) (hT : zc9 σ fk) : zc9 τ fk := by
  have f9 := h 9 (by omega) (by omega)
  have f10 := h 10 (by omega) (by omega)
  have f11 := h 11 (by omega) (by omega)
  have f12 := h 12 (by omega) (by omega)
  have f13 := h 13 (by omega) (by omega)
  unfold zc9 zRd zTkb at *
  rw [f9.1, f9.2.2.2.2.1, f9.2.2.1, f10.1, f10.2.2.2.2.1, f11.1, f11.2.1, f12.1, f12.2.1, f13.1, f13.2.1]
  exact hT
theorem zc54_e {σ τ : zH} {tk : Nat} (h : ∀ b, 54 ≤ b → b ≤ 58 → zEo b σ τ) (hT : zc54 σ none tk) : zc54 τ none tk := by
  have f54 := h 54 (by omega) (by omega)
  obtain ⟨a1, a2, a3, a4⟩ := hT
  refine ⟨by rw [f54.1, f54.2.2.2.2.1]; exact a1, zTb_e (fun b _ _ => h b (by omega) (by omega)) a2, by rw [f54.2.2.1]; exact a3, ?_⟩
  show zI τ 54 3 = nI 0
  rw [f54.2.2.1]
  exact a4
theorem zc18_e {σ τ : zH} (h : ∀ b, 18 ≤ b → b ≤ 53 → zEo b σ τ) (hT : zc18 σ) : zc18 τ := by
  obtain ⟨nw, nx, wt, C, lg, ⟨a1, a2, a3, a4, a5, a6⟩, hD⟩ := hT
  have f18 := h 18 (by omega) (by omega)
  have f29 := h 29 (by omega) (by omega)
  refine ⟨nw, nx, wt, C, lg, ⟨by rw [f18.1, f18.2.2.2.2.1, f29.1, f29.2.1]; exact a1, zTb_e (fun b _ _ => h b (by omega) (by omega)) a2, by rw [f18.2.2.2.2.1, f29.2.2.2.2.2.2.2]; exact a3, a4, fun w hw => ?_, by rw [f18.2.2.1]; exact a6⟩, hD⟩
  have hw' := hw
  unfold zWs at hw'
  exact zWc_e (fun b _ _ => h b (by omega) (by omega)) (a5 w hw)
/-! Spread -/
theorem l_spr {d r q : Nat} {Q : Option Value → zH → Prop} {v : Nat} : ∀ (c i x : Nat) (σ : zH), i + c = 4 → zX σ = x → r ≤ x → q ≤ x → r ≠ q → zK σ r = 5 → zQ σ r 3 = q → zK σ q = 24 → zN σ q = 4 → (∀ τ, (∀ b, b ≤ x → b ≠ q → zEo b σ τ) → zX τ = x + 5 * c → zL τ = zL σ + 13101 * c → zK τ q = 24 → zN τ q = 4 → (∀ k, k < i → zS τ q k = zS σ q k) → (∀ k, k < c → zS τ q (i + k) = x + 1 + 5 * k ∧ zWc τ (x + 1 + 5 * k) []) → Q none τ) → zW (d + 2) 46 48 [(0, .ref r), (1, .ref v), (2, .int (nI i))] [] σ Q := by
  intro c
  induction c with
  | zero =>
    intro i x σ hc hx hr hq hrq k1 k2 k3 k4 hQ
    refine zW_s rfl ?_
    refine zW_s rfl ?_
    refine zW_s rfl ?_
    refine zW_if (fun h => ?_) (fun h => ?_)
    · refine zW_r rfl trivial ?_
      exact hQ σ (fun _ _ _ => zEo_r) hx rfl k3 k4 (fun _ _ => rfl) (fun k hk => by omega)
    · exact absurd ((nI_leI (a := 4) (b := i) (by omega) (by omega)).mpr (by omega)) h
  | succ c ih =>
    intro i x σ hc hx hr hq hrq k1 k2 k3 k4 hQ
    refine zW_s rfl ?_
    refine zW_s rfl ?_
    refine zW_s rfl ?_
    refine zW_if (fun h => ?_) (fun h => ?_)
    · exact absurd ((nI_leI (a := 4) (b := i) (by omega) (by omega)).mp h) (by omega)
    · refine zW_s rfl ?_
      refine zW_p rfl k1 ?_
      rw [k2]
      refine zW_s rfl ?_
      refine zW_s rfl ?_
      rw [znw_b (σ := σ) (y := x + 1) 11 5 0 (by rw [hx]), show zX σ + 1 = x + 1 by rw [hx]]
      refine zW_s rfl ?_
      refine zW_c rfl zK_ne ?_
      refine g98 (r := x + 1) zNo_na ?_
      intro s2 a1 a2 a3 a4
      have eo : ∀ b, b ≤ x → zEo b σ s2 := fun b hb => zEo_t (zEo_na (by omega)) (a1 b (by omega))
      have w1 : zK s2 (x + 1) = 11 := a4.1.1
      refine zW_p rfl ⟨Or.inr ⟨by rw [(eo q hq).1]; exact k3, w1⟩, by rw [(eo q hq).2.1, k4]; exact vp_in_nI (by omega) (by omega)⟩ ?_
      rw [zcl i (by omega)]
      refine zW_s rfl ?_
      refine zW_s rfl ?_
      obtain ⟨s1, e1⟩ : ∃ s1, s1 = zsS s2 q i (x + 1) := ⟨_, rfl⟩
      rw [← e1, show Int32.ofInt 1 = nI 1 from rfl, nI_add]
      have q1 : ∀ b, b ≠ q → zEo b s2 s1 := by
        intro b hbq
        rw [e1]
        exact zEo_sS hbq
      have q0 : ∀ b, b ≤ x → b ≠ q → zEo b σ s1 := fun b hb hbq => zEo_t (eo b hb) (q1 b hbq)
      refine ih (i + 1) (x + 5) s1 (by omega) (by rw [e1]; exact a2) (by omega) (by omega) hrq (by rw [(q0 r hr hrq).1]; exact k1) (by rw [(q0 r hr hrq).2.2.2.2.1]; exact k2) (by rw [e1, yK_sS, (eo q hq).1]; exact k3) (by rw [e1, yN_sS, (eo q hq).2.1]; exact k4) ?_
      intro τ t1 t2 t3 t4 t5 t6 t7
      refine hQ τ (fun b hb hbq => zEo_t (q0 b hb hbq) (t1 b (by omega) hbq)) (by omega) ?_ t4 t5 (fun k hk => ?_) (fun k hk => ?_)
      · have l1 : zL s1 = zL s2 := by rw [e1, yL_sS]
        rw [zL_na] at a3
        omega
      · rw [t6 k (by omega), e1, yS_eS, zu_ne _ _ (by omega), (eo q hq).2.2.2.2.2.2.2]
      · cases k with
        | zero =>
          refine ⟨?_, ?_⟩
          · rw [Nat.add_zero, t6 i (by omega), e1, yS_eS, zu_same]
          · exact zWc_e (fun b _ _ => zEo_t (q1 b (by omega)) (t1 b (by omega) (by omega))) a4
        | succ k =>
          have := t7 k (by omega)
          rw [show i + (k + 1) = i + 1 + k by omega, show x + 1 + 5 * (k + 1) = x + 5 + 1 + 5 * k by omega]
          exact this
set_option maxHeartbeats 1000000 in
theorem g46 {d : Nat} {σ : zH} (h : zNo σ 18 5) {Q : Option Value → zH → Prop} (hQ : ∀ τ, (∀ b, b < 18 → zEo b σ τ) → zX τ = 53 → zL τ = zL σ + 78699 → zc18 τ → Q none τ) : zM (d + 2) 46 [.ref 18, .ref 4] σ Q := by
  obtain ⟨h1, h2, h3, h4, h5⟩ := h
  unfold zM
  refine zW_s rfl ?_
  refine zW_p rfl (by rw [h2]; decide) ?_
  refine zW_s rfl ?_
  refine zW_s rfl ?_
  rw [znw_b (σ := σ) (y := 19) 11 5 0 (by rw [h1]), show zX σ + 1 = 19 by rw [h1]]
  refine zW_s rfl ?_
  refine zW_c rfl zK_ne ?_
  refine g98 (r := 19) zNo_na ?_
  intro s1 a1 a2 a3 a4
  have m1 : ∀ b, b ≤ 18 → zEo b σ s1 := fun b hb => zEo_t (zEo_na (by omega)) (a1 b (by omega))
  refine zW_p rfl (by rw [(m1 18 (by omega)).1]; exact h2) ?_
  obtain ⟨s2, e2⟩ : ∃ s2, s2 = zsQ s1 18 1 19 := ⟨_, rfl⟩
  rw [← e2]
  have x2 : zX s2 = 23 := by rw [e2, yX_sQ]; exact a2
  have l2 : zL s2 = zL σ + 13101 := by
    have y : zL s2 = zL s1 := by rw [e2, yL_sQ]
    rw [zL_na] at a3
    omega
  have k2 : zK s2 18 = 5 := by rw [e2, yK_sQ, (m1 18 (by omega)).1]; exact h2
  have q2 : zQ s2 18 = zu (fun _ => 0) 1 19 := by rw [e2, yQ_eQ, (m1 18 (by omega)).2.2.2.2.1, h5]
  have i2 : zI s2 18 = fun _ => 0 := by rw [e2, yI_sQ, (m1 18 (by omega)).2.2.1, h3]
  have m2 : ∀ b, b < 18 → zEo b σ s2 := by
    intro b hb
    rw [e2]
    exact zEo_t (m1 b (by omega)) (zEo_sQ (by omega))
  have w2 : zWc s2 19 [] := by
    rw [e2]
    exact zWc_e (fun b _ _ => zEo_sQ (by omega)) a4
  clear a1 a2 a3 a4 m1 e2
  refine zW_s rfl ?_
  refine zW_s rfl ?_
  rw [znw_b (σ := s2) (y := 24) 11 5 0 (by rw [x2]), show zX s2 + 1 = 24 by rw [x2]]
  refine zW_s rfl ?_
  refine zW_c rfl zK_ne ?_
  refine g98 (r := 24) zNo_na ?_
  intro s3 a1 a2 a3 a4
  have m3 : ∀ b, b ≤ 23 → zEo b s2 s3 := fun b hb => zEo_t (zEo_na (by omega)) (a1 b (by omega))
  refine zW_p rfl (by rw [(m3 18 (by omega)).1]; exact k2) ?_
  obtain ⟨s4, e4⟩ : ∃ s4, s4 = zsQ s3 18 2 24 := ⟨_, rfl⟩
  rw [← e4]
  have x4 : zX s4 = 28 := by rw [e4, yX_sQ]; exact a2
  have l4 : zL s4 = zL σ + 26202 := by
    have y : zL s4 = zL s3 := by rw [e4, yL_sQ]
    rw [zL_na] at a3
    omega
  have k4 : zK s4 18 = 5 := by rw [e4, yK_sQ, (m3 18 (by omega)).1]; exact k2
  have q4 : zQ s4 18 = zu (zu (fun _ => 0) 1 19) 2 24 := by rw [e4, yQ_eQ, (m3 18 (by omega)).2.2.2.2.1, q2]
  have i4 : zI s4 18 = fun _ => 0 := by rw [e4, yI_sQ, (m3 18 (by omega)).2.2.1, i2]
  have m4 : ∀ b, b ≤ 23 → b ≠ 18 → zEo b s2 s4 := by
    intro b hb hn
    rw [e4]
    exact zEo_t (m3 b (by omega)) (zEo_sQ (by omega))
  have w4 : zWc s4 24 [] := by
    rw [e4]
    exact zWc_e (fun b _ _ => zEo_sQ (by omega)) a4
  clear a1 a2 a3 a4 m3 e4
  refine zW_s rfl ?_
  refine zW_s rfl ?_
  refine zW_p rfl (zpnl (by decide) (show (Int32.ofInt 4).toNatClampNeg = 4 from rfl) (by omega)) ?_
  rw [show (Int32.ofInt 4).toNatClampNeg = 4 from rfl, znw_b (σ := s4) (y := 29) 24 4 4 (by rw [x4]), show zX s4 + 1 = 29 by rw [x4]]
  refine zW_p rfl (by rw [zK_na (by omega)]; exact k4) ?_
  obtain ⟨s5, e5⟩ : ∃ s5, s5 = zsQ (zna s4 29 24 4 4) 18 3 29 := ⟨_, rfl⟩
  rw [← e5]
  have x5 : zX s5 = 29 := by rw [e5, yX_sQ, yX_na]
  have l5 : zL s5 = zL σ + 26206 := by
    have y : zL s5 = zL s4 + 4 := by rw [e5, yL_sQ, zL_na]
    omega
  have k5 : zK s5 18 = 5 := by rw [e5, yK_sQ, zK_na (by omega)]; exact k4
  have q5 : zQ s5 18 = zu (zu (zu (fun _ => 0) 1 19) 2 24) 3 29 := by rw [e5, yQ_eQ, zQ_na (by omega), q4]
  have i5 : zI s5 18 = fun _ => 0 := by rw [e5, yI_sQ, zI_na (by omega), i4]
  have m5 : ∀ b, b ≤ 28 → b ≠ 18 → zEo b s4 s5 := by
    intro b hb hn
    rw [e5]
    exact zEo_t (zEo_na (by omega)) (zEo_sQ (by omega))
  have r5 : zK s5 29 = 24 ∧ zN s5 29 = 4 := by
    rw [e5]
    exact ⟨by rw [yK_sQ, zK_ne], by rw [yN_sQ, zN_ne]⟩
  clear e5
  refine zW_s rfl ?_
  refine zW_s rfl ?_
  rw [znw_b (σ := s5) (y := 30) 7 5 0 (by rw [x5]), show zX s5 + 1 = 30 by rw [x5]]
  refine zW_s rfl ?_
  refine zW_s rfl ?_
  refine zW_c rfl zK_ne ?_
  refine g56 (r := 30) zNo_na ?_
  intro s6 a1 a2 a3 a4
  have m6 : ∀ b, b ≤ 29 → zEo b s5 s6 := fun b hb => zEo_t (zEo_na (by omega)) (a1 b (by omega))
  refine zW_p rfl (by rw [(m6 18 (by omega)).1]; exact k5) ?_
  obtain ⟨s7, e7⟩ : ∃ s7, s7 = zsQ s6 18 0 30 := ⟨_, rfl⟩
  rw [← e7]
  have x7 : zX s7 = 33 := by rw [e7, yX_sQ]; exact a2
  have l7 : zL s7 = zL σ + 26295 := by
    have y : zL s7 = zL s6 := by rw [e7, yL_sQ]
    rw [zL_na] at a3
    omega
  have k7 : zK s7 18 = 5 := by rw [e7, yK_sQ, (m6 18 (by omega)).1]; exact k5
  have q7 : zQ s7 18 = zu (zu (zu (zu (fun _ => 0) 1 19) 2 24) 3 29) 0 30 := by rw [e7, yQ_eQ, (m6 18 (by omega)).2.2.2.2.1, q5]
  have i7 : zI s7 18 = fun _ => 0 := by rw [e7, yI_sQ, (m6 18 (by omega)).2.2.1, i5]
  have m7 : ∀ b, b ≤ 29 → b ≠ 18 → zEo b s5 s7 := by
    intro b hb hn
    rw [e7]
    exact zEo_t (m6 b (by omega)) (zEo_sQ (by omega))
  have t7 : zTb s7 30 := by
    rw [e7]
    exact zTb_e (fun b _ _ => zEo_sQ (by omega)) a4
  clear a1 a2 a3 a4 m6 e7
  refine zW_s rfl ?_
  refine zW_s rfl ?_
  refine l_spr (q := 29) 4 0 33 s7 (by omega) x7 (by omega) (by omega) (by omega) k7 (by rw [q7]; rfl) (by rw [(m7 29 (by omega) (by omega)).1]; exact r5.1) (by rw [(m7 29 (by omega) (by omega)).2.1]; exact r5.2) ?_
  intro τ t1 t2 t3 t4 t5 t6 t8
  have m8 : ∀ b, b ≤ 33 → b ≠ 29 → zEo b s7 τ := fun b hb hn => t1 b hb hn
  have q8 : zQ τ 18 = zu (zu (zu (zu (fun _ => 0) 1 19) 2 24) 3 29) 0 30 := by rw [(m8 18 (by omega) (by omega)).2.2.2.2.1, q7]
  refine hQ τ (fun b hb => zEo_t (zEo_t (zEo_t (zEo_t (m2 b hb) (m4 b (by omega) (by omega))) (m5 b (by omega) (by omega))) (m7 b (by omega) (by omega))) (m8 b (by omega) (by omega))) t2 (by omega) ?_
  refine ⟨19, 24, fun i => 34 + 5 * i, fun _ => [], false, ⟨⟨?_, ?_, ?_, t4, t5⟩, zTb_e (fun b _ _ => m8 b (by omega) (by omega)) t7, ⟨?_, ?_, fun i hi => ?_⟩, ⟨Or.inl rfl, Or.inr (Or.inl rfl), fun i hi => ?_⟩, fun w hw => ?_, ?_⟩, by omega, fun j _ hj => ⟨?_, ?_⟩, fun i j _ hi _ hj e => ?_⟩
  · rw [(m8 18 (by omega) (by omega)).1]; exact k7
  · rw [q8]; rfl
  · rw [q8]; rfl
  · rw [q8]; rfl
  · rw [q8]; rfl
  · have := (t8 i hi).1
    rw [Nat.zero_add] at this
    exact this
  · show zWs (34 + 5 * i)
    unfold zWs
    omega
  · unfold zWs at hw
    rcases hw with hw | hw | hw
    · subst hw
      exact zWc_e (fun b _ _ => zEo_t (zEo_t (zEo_t (m4 b (by omega) (by omega)) (m5 b (by omega) (by omega))) (m7 b (by omega) (by omega))) (m8 b (by omega) (by omega))) w2
    · subst hw
      exact zWc_e (fun b _ _ => zEo_t (zEo_t (m5 b (by omega) (by omega)) (m7 b (by omega) (by omega))) (m8 b (by omega) (by omega))) w4
    · have hk : ∃ k, k < 4 ∧ w = 33 + 1 + 5 * k := by
        rcases hw with hw | hw | hw | hw
        · exact ⟨0, by omega, by omega⟩
        · exact ⟨1, by omega, by omega⟩
        · exact ⟨2, by omega, by omega⟩
        · exact ⟨3, by omega, by omega⟩
      obtain ⟨k, hk, e⟩ := hk
      rw [e]
      exact (t8 k hk).2
  · rw [(m8 18 (by omega) (by omega)).2.2.1, i7]; rfl
  · show 34 + 5 * j ≠ 19
    omega
  · show 34 + 5 * j ≠ 24
    omega
  · have e' : 34 + 5 * i = 34 + 5 * j := e
    omega
