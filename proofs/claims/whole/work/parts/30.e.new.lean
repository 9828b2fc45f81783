/-! Trick -/
theorem l_trk {d r q : Nat} {Q : Option Value → zH → Prop} : ∀ (c i x : Nat) (σ : zH), i + c = 40 → zX σ = x → r ≤ x → q ≤ x → r ≠ q → zK σ r = 10 → zQ σ r 0 = q → zK σ q = 23 → zN σ q = 40 → (∀ τ, (∀ b, b ≤ x → b ≠ q → zEo b σ τ) → zX τ = x + c → zL τ = zL σ + 9 * c → zK τ q = 23 → zN τ q = 40 → (∀ k, k < i → zS τ q k = zS σ q k) → (∀ k, k < c → zS τ q (i + k) = x + 1 + k ∧ zK τ (x + 1 + k) = 6) → Q none τ) → zW (d + 2) 96 26 [(0, .ref r), (1, .int (nI i))] [] σ Q := by
  intro c
  induction c with
  | zero =>
    intro i x σ hc hx hr hq hrq k1 k2 k3 k4 hQ
    refine zW_s rfl ?_
    refine zW_s rfl ?_
    refine zW_s rfl ?_
    refine zW_if (fun h => ?_) (fun h => ?_)
    · refine zW_r rfl trivial ?_
      exact hQ σ (fun _ _ _ => zEo_r) hx rfl k3 k4 (fun _ _ => rfl) (fun k hk => by omega)
    · exact absurd ((nI_leI (a := 40) (b := i) (by omega) (by omega)).mpr (by omega)) h
  | succ c ih =>
    intro i x σ hc hx hr hq hrq k1 k2 k3 k4 hQ
    refine zW_s rfl ?_
    refine zW_s rfl ?_
    refine zW_s rfl ?_
    refine zW_if (fun h => ?_) (fun h => ?_)
    · exact absurd ((nI_leI (a := 40) (b := i) (by omega) (by omega)).mp h) (by omega)
    · refine zW_s rfl ?_
      refine zW_p rfl k1 ?_
      rw [k2]
      refine zW_s rfl ?_
      refine zW_s rfl ?_
      rw [znw_b (σ := σ) (y := x + 1) 6 9 0 (by rw [hx]), show zX σ + 1 = x + 1 by rw [hx]]
      refine zW_s rfl ?_
      refine zW_c rfl zK_ne ?_
      refine k53 zK_ne ?_
      refine zW_p rfl ⟨Or.inl ⟨by rw [zK_na (by omega)]; exact k3, zK_ne⟩, by rw [zN_na (by omega), k4]; exact vp_in_nI (by omega) (by omega)⟩ ?_
      rw [zcl i (by omega)]
      refine zW_s rfl ?_
      refine zW_s rfl ?_
      obtain ⟨s1, e1⟩ : ∃ s1, s1 = zsS (zna σ (x + 1) 6 9 0) q i (x + 1) := ⟨_, rfl⟩
      rw [← e1, show Int32.ofInt 1 = nI 1 from rfl, nI_add]
      have q0 : ∀ b, b ≤ x → b ≠ q → zEo b σ s1 := by
        intro b hb hbq
        rw [e1]
        exact zEo_t (zEo_na (by omega)) (zEo_sS hbq)
      refine ih (i + 1) (x + 1) s1 (by omega) (by rw [e1]; rfl) (by omega) (by omega) hrq (by rw [(q0 r hr hrq).1]; exact k1) (by rw [(q0 r hr hrq).2.2.2.2.1]; exact k2) (by rw [e1, yK_sS, zK_na (by omega)]; exact k3) (by rw [e1, yN_sS, zN_na (by omega)]; exact k4) ?_
      intro τ t1 t2 t3 t4 t5 t6 t7
      refine hQ τ (fun b hb hbq => zEo_t (q0 b hb hbq) (t1 b (by omega) hbq)) (by omega) ?_ t4 t5 (fun k hk => ?_) (fun k hk => ?_)
      · rw [t3, e1]
        show zL σ + 9 + 9 * c = _
        omega
      · rw [t6 k (by omega), e1, yS_eS, zu_ne _ _ (by omega), zS_na (by omega)]
      · cases k with
        | zero =>
          refine ⟨?_, ?_⟩
          · rw [Nat.add_zero, t6 i (by omega), e1, yS_eS, zu_same]
          · rw [Nat.add_zero, (t1 (x + 1) (by omega) (by omega)).1, e1, yK_sS, zK_ne]
        | succ k =>
          have := t7 k (by omega)
          rw [show i + (k + 1) = i + 1 + k by omega, show x + 1 + (k + 1) = x + 1 + 1 + k by omega]
          exact this
theorem g96 {d r : Nat} {σ : zH} (h : zNo σ r 10) {Q : Option Value → zH → Prop} (hQ : ∀ τ, (∀ b, b < r → zEo b σ τ) → zX τ = r + 45 → zL τ = zL σ + 1754 → zTs τ r → zI τ r = (fun _ => 0) → Q none τ) : zM (d + 2) 96 [.ref r] σ Q := by
  obtain ⟨h1, h2, h3, h4, h5⟩ := h
  unfold zM
  refine zW_s rfl ?_
  refine zW_p rfl (by rw [h2]; decide) ?_
  refine zW_s rfl ?_
  refine zW_s rfl ?_
  refine zW_p rfl (zpnl (by decide) (show (Int32.ofInt 40).toNatClampNeg = 40 from rfl) (by omega)) ?_
  rw [show (Int32.ofInt 40).toNatClampNeg = 40 from rfl, znw_b (σ := σ) (y := r + 1) 23 40 40 (by rw [h1]), show zX σ + 1 = r + 1 by rw [h1]]
  refine zW_p rfl (by rw [zK_na (by omega)]; exact h2) ?_
  obtain ⟨s1, e1⟩ : ∃ s1, s1 = zsQ (zna σ (r + 1) 23 40 40) r 0 (r + 1) := ⟨_, rfl⟩
  rw [← e1]
  refine zW_s rfl ?_
  refine zW_s rfl ?_
  have x1 : zX s1 = r + 1 := by rw [e1]; rfl
  rw [znw_b (σ := s1) (y := r + 2) 1 4 0 (by rw [x1]), show zX s1 + 1 = r + 2 by rw [x1]]
  refine zW_s rfl ?_
  refine zW_c rfl zK_ne ?_
  refine g0 (r := r + 2) zNo_na ?_
  intro s2 a1 a2 a3 a4 a5
  have er : zEo r s1 s2 := zEo_t (zEo_na (by omega)) (a1 r (by omega))
  have eq : zEo (r + 1) s1 s2 := zEo_t (zEo_na (by omega)) (a1 (r + 1) (by omega))
  have kr : zK s2 r = 10 := by rw [er.1, e1, yK_sQ, zK_na (by omega)]; exact h2
  refine zW_p rfl kr ?_
  obtain ⟨s3, e3⟩ : ∃ s3, s3 = zsQ s2 r 1 (r + 2) := ⟨_, rfl⟩
  rw [← e3]
  refine zW_s rfl ?_
  refine zW_s rfl ?_
  have e13 : ∀ b, b ≠ r → zEo b s2 s3 := by
    intro b hb
    rw [e3]
    exact zEo_sQ hb
  have qr : zQ s3 r = zu (zu (fun _ => 0) 0 (r + 1)) 1 (r + 2) := by rw [e3, yQ_eQ, er.2.2.2.2.1, e1, yQ_eQ, zQ_na (by omega), h5]
  refine l_trk (q := r + 1) 40 0 (r + 5) s3 (by omega) (by rw [e3]; exact a2) (by omega) (by omega) (by omega) (by rw [e3]; exact kr) (by rw [qr]; rfl) ?_ ?_ ?_
  · rw [(e13 _ (by omega)).1, eq.1, e1, yK_sQ, zK_ne]
  · rw [(e13 _ (by omega)).2.1, eq.2.1, e1, yN_sQ, zN_ne]
  · intro τ t1 t2 t3 t4 t5 t6 t7
    refine hQ τ (fun b hb => ?_) t2 ?_ ?_ ?_
    · refine zEo_t (zEo_t (zEo_t (zEo_t ?_ (zEo_na (by omega))) (a1 b (by omega))) (e13 b (by omega))) (t1 b (by omega) (by omega))
      rw [e1]
      exact zEo_t (zEo_na (by omega)) (zEo_sQ (by omega))
    · rw [t3, e3]
      show zL s2 + 9 * 40 = _
      rw [a3, e1]
      show zL σ + 40 + 4 + 1350 + 9 * 40 = _
      omega
    · have qt : zQ τ r = zu (zu (fun _ => 0) 0 (r + 1)) 1 (r + 2) := by rw [(t1 r (by omega) (by omega)).2.2.2.2.1, qr]
      refine ⟨?_, by rw [qt]; rfl, by rw [qt]; rfl, t4, t5, fun k hk => ?_, ?_⟩
      · rw [(t1 r (by omega) (by omega)).1, e3]
        exact kr
      · have := t7 k hk
        rw [Nat.zero_add] at this
        exact this
      · have f : ∀ b, r + 2 ≤ b → b ≤ r + 5 → zEo b s2 τ := fun b l1 l2 => zEo_t (e13 b (by omega)) (t1 b (by omega) (by omega))
        have f2 := f (r + 2) (by omega) (by omega)
        have f3 := f (r + 2 + 1) (by omega) (by omega)
        have f4 := f (r + 2 + 2) (by omega) (by omega)
        have f5 := f (r + 2 + 3) (by omega) (by omega)
        unfold zCo at *
        rw [f2.1, f2.2.2.2.2.1, f3.1, f3.2.1, f4.1, f4.2.1, f5.1, f5.2.1]
        exact a4
    · rw [(t1 r (by omega) (by omega)).2.2.1, (show zI s3 r = zI s2 r by rw [e3]; rfl), er.2.2.1, e1, yI_sQ, zI_na (by omega)]
      exact h3
