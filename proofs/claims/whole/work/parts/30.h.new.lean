/-! the desk -/
def zm0 : zMS := ([], 8, zfrD 10 (fun _ => 0, fun _ => 0, fun _ => 0), zrw1 8, [], [(42, 9216, 9216)], 0, none, none, 0)
set_option maxHeartbeats 2000000 in
theorem g105 {d : Nat} {σ : zH} (h : zNo σ 1 12) {Q : Option Value → zH → Prop} (hQ : ∀ τ, zX τ = 159 → zL τ = zL σ + 88801 → zIC τ zm0 → Q none τ) : zM (d + 4) 105 [.ref 1] σ Q := by
  obtain ⟨h1, h2, h3, h4, h5⟩ := h
  unfold zM
  refine zW_s rfl ?_
  refine zW_p rfl (by rw [h2]; decide) ?_
  refine zW_s rfl ?_
  refine zW_s rfl ?_
  rw [znw_b (σ := σ) (y := 2) 8 2 0 (by rw [h1]), show zX σ + 1 = 2 by rw [h1]]
  obtain ⟨n1, en⟩ : ∃ n, n = zna σ 2 8 2 0 := ⟨_, rfl⟩
  rw [← en]
  have nk : zK n1 1 = 12 := by rw [en, zK_na (by omega)]; exact h2
  have nq : zQ n1 1 = (fun _ => 0) := by rw [en, zQ_na (by omega)]; exact h5
  have nn : zNo n1 2 8 := by rw [en]; exact zNo_na
  refine zW_s rfl ?_
  refine zW_c rfl nn.2.1 ?_
  refine g84 nn ?_
  intro c0 a1 a2 a3 a4
  have m : ∀ b, b ≤ 1 → zEo b σ c0 := fun b hb => zEo_t (by rw [en]; exact zEo_na (by omega)) (a1 b (by omega))
  have nl : zL n1 = zL σ + 2 := by rw [en, zL_na]
  refine zW_p rfl (by rw [(m 1 (by omega)).1]; exact h2) ?_
  obtain ⟨s0, e⟩ : ∃ s, s = zsQ c0 1 0 2 := ⟨_, rfl⟩
  rw [← e]
  have x0 : zX s0 = 3 := by rw [e, yX_sQ]; exact a2
  have l0 : zL s0 = zL σ + 902 := by
    have y : zL s0 = zL c0 := by rw [e, yL_sQ]
    omega
  have k0 : zK s0 1 = 12 := by rw [e, yK_sQ, (m 1 (by omega)).1]; exact h2
  have q0 : zQ s0 1 = (zu (fun _ => 0) 0 2) := by rw [e, yQ_eQ, (m 1 (by omega)).2.2.2.2.1, h5]
  have i0 : zI s0 1 = fun _ => 0 := by rw [e, yI_sQ, (m 1 (by omega)).2.2.1]; exact h3
  have m0 : ∀ b, 2 ≤ b → b ≤ 1 → zEo b σ s0 := by
    intro b h2 hb
    rw [e]
    exact zEo_t (m b hb) (zEo_sQ (by omega))
  have o0 : ∀ b, b ≠ 1 → zEo b c0 s0 := by
    intro b hb
    rw [e]
    exact zEo_sQ hb
  have v0 : zTp s0 [] := zTp_e (fun b _ _ => o0 b (by omega)) a4
  clear e m a2 a3 a4 en o0 a1 nn nk nq nl
  refine zW_s rfl ?_
  refine zW_s rfl ?_
  rw [znw_b (σ := s0) (y := 4) 2 5 0 (by rw [x0]), show zX s0 + 1 = 4 by rw [x0]]
  obtain ⟨n1, en⟩ : ∃ n, n = zna s0 4 2 5 0 := ⟨_, rfl⟩
  rw [← en]
  have nk : zK n1 1 = 12 := by rw [en, zK_na (by omega)]; exact k0
  have nq : zQ n1 1 = (zu (fun _ => 0) 0 2) := by rw [en, zQ_na (by omega)]; exact q0
  have nn : zNo n1 4 2 := by rw [en]; exact zNo_na
  refine zW_s rfl ?_
  refine zW_c rfl nn.2.1 ?_
  refine g9 nn ?_
  intro c1 a1 a2 a3 a4
  have m : ∀ b, b ≤ 3 → zEo b s0 c1 := fun b hb => zEo_t (by rw [en]; exact zEo_na (by omega)) (a1 b (by omega))
  have nl : zL n1 = zL s0 + 5 := by rw [en, zL_na]
  refine zW_p rfl (by rw [(m 1 (by omega)).1]; exact k0) ?_
  obtain ⟨s1, e⟩ : ∃ s, s = zsQ c1 1 1 4 := ⟨_, rfl⟩
  rw [← e]
  have x1 : zX s1 = 8 := by rw [e, yX_sQ]; exact a2
  have l1 : zL s1 = zL σ + 964 := by
    have y : zL s1 = zL c1 := by rw [e, yL_sQ]
    omega
  have k1 : zK s1 1 = 12 := by rw [e, yK_sQ, (m 1 (by omega)).1]; exact k0
  have q1 : zQ s1 1 = (zu (zu (fun _ => 0) 0 2) 1 4) := by rw [e, yQ_eQ, (m 1 (by omega)).2.2.2.2.1, q0]
  have i1 : zI s1 1 = fun _ => 0 := by rw [e, yI_sQ, (m 1 (by omega)).2.2.1]; exact i0
  have m1 : ∀ b, 2 ≤ b → b ≤ 3 → zEo b s0 s1 := by
    intro b h2 hb
    rw [e]
    exact zEo_t (m b hb) (zEo_sQ (by omega))
  have o1 : ∀ b, b ≠ 1 → zEo b c1 s1 := by
    intro b hb
    rw [e]
    exact zEo_sQ hb
  have v1 : zc4 s1 8 (zfrD 10 (fun _ => 0, fun _ => 0, fun _ => 0)) (zrw1 8) := zc4_e (fun b _ _ => o1 b (by omega)) a4
  clear e m a2 a3 a4 en o1 a1 nn nk nq nl
  refine zW_s rfl ?_
  refine zW_s rfl ?_
  rw [znw_b (σ := s1) (y := 9) 3 7 0 (by rw [x1]), show zX s1 + 1 = 9 by rw [x1]]
  obtain ⟨n1, en⟩ : ∃ n, n = zna s1 9 3 7 0 := ⟨_, rfl⟩
  rw [← en]
  have nk : zK n1 1 = 12 := by rw [en, zK_na (by omega)]; exact k1
  have nq : zQ n1 1 = (zu (zu (fun _ => 0) 0 2) 1 4) := by rw [en, zQ_na (by omega)]; exact q1
  have nn : zNo n1 9 3 := by rw [en]; exact zNo_na
  refine zW_s rfl ?_
  refine zW_c rfl nn.2.1 ?_
  refine g14 nn ?_
  intro c2 a1 a2 a3 a4
  have m : ∀ b, b ≤ 8 → zEo b s1 c2 := fun b hb => zEo_t (by rw [en]; exact zEo_na (by omega)) (a1 b (by omega))
  have nl : zL n1 = zL s1 + 7 := by rw [en, zL_na]
  refine zW_p rfl (by rw [(m 1 (by omega)).1]; exact k1) ?_
  obtain ⟨s2, e⟩ : ∃ s, s = zsQ c2 1 2 9 := ⟨_, rfl⟩
  rw [← e]
  have x2 : zX s2 = 13 := by rw [e, yX_sQ]; exact a2
  have l2 : zL s2 = zL σ + 3678 := by
    have y : zL s2 = zL c2 := by rw [e, yL_sQ]
    omega
  have k2 : zK s2 1 = 12 := by rw [e, yK_sQ, (m 1 (by omega)).1]; exact k1
  have q2 : zQ s2 1 = (zu (zu (zu (fun _ => 0) 0 2) 1 4) 2 9) := by rw [e, yQ_eQ, (m 1 (by omega)).2.2.2.2.1, q1]
  have i2 : zI s2 1 = fun _ => 0 := by rw [e, yI_sQ, (m 1 (by omega)).2.2.1]; exact i1
  have m2 : ∀ b, 2 ≤ b → b ≤ 8 → zEo b s1 s2 := by
    intro b h2 hb
    rw [e]
    exact zEo_t (m b hb) (zEo_sQ (by omega))
  have o2 : ∀ b, b ≠ 1 → zEo b c2 s2 := by
    intro b hb
    rw [e]
    exact zEo_sQ hb
  have v2 : zc9 s2 0 := zc9_e (fun b _ _ => o2 b (by omega)) a4
  clear e m a2 a3 a4 en o2 a1 nn nk nq nl
  refine zW_s rfl ?_
  refine zW_s rfl ?_
  rw [znw_b (σ := s2) (y := 14) 7 5 0 (by rw [x2]), show zX s2 + 1 = 14 by rw [x2]]
  obtain ⟨n1, en⟩ : ∃ n, n = zna s2 14 7 5 0 := ⟨_, rfl⟩
  rw [← en]
  have nk : zK n1 1 = 12 := by rw [en, zK_na (by omega)]; exact k2
  have nq : zQ n1 1 = (zu (zu (zu (fun _ => 0) 0 2) 1 4) 2 9) := by rw [en, zQ_na (by omega)]; exact q2
  have nn : zNo n1 14 7 := by rw [en]; exact zNo_na
  refine zW_s rfl ?_
  refine zW_s rfl ?_
  refine zW_p rfl nk ?_
  rw [show zQ n1 1 1 = 4 by rw [nq]; rfl]
  refine zW_c rfl nn.2.1 ?_
  refine g56 nn ?_
  intro c3 a1 a2 a3 a4
  have m : ∀ b, b ≤ 13 → zEo b s2 c3 := fun b hb => zEo_t (by rw [en]; exact zEo_na (by omega)) (a1 b (by omega))
  have nl : zL n1 = zL s2 + 5 := by rw [en, zL_na]
  refine zW_p rfl (by rw [(m 1 (by omega)).1]; exact k2) ?_
  obtain ⟨s3, e⟩ : ∃ s, s = zsQ c3 1 3 14 := ⟨_, rfl⟩
  rw [← e]
  have x3 : zX s3 = 17 := by rw [e, yX_sQ]; exact a2
  have l3 : zL s3 = zL σ + 3767 := by
    have y : zL s3 = zL c3 := by rw [e, yL_sQ]
    omega
  have k3 : zK s3 1 = 12 := by rw [e, yK_sQ, (m 1 (by omega)).1]; exact k2
  have q3 : zQ s3 1 = (zu (zu (zu (zu (fun _ => 0) 0 2) 1 4) 2 9) 3 14) := by rw [e, yQ_eQ, (m 1 (by omega)).2.2.2.2.1, q2]
  have i3 : zI s3 1 = fun _ => 0 := by rw [e, yI_sQ, (m 1 (by omega)).2.2.1]; exact i2
  have m3 : ∀ b, 2 ≤ b → b ≤ 13 → zEo b s2 s3 := by
    intro b h2 hb
    rw [e]
    exact zEo_t (m b hb) (zEo_sQ (by omega))
  have o3 : ∀ b, b ≠ 1 → zEo b c3 s3 := by
    intro b hb
    rw [e]
    exact zEo_sQ hb
  have v3 : zTb s3 14 := zTb_e (fun b _ _ => o3 b (by omega)) a4
  clear e m a2 a3 a4 en o3 a1 nn nk nq nl
  refine zW_s rfl ?_
  refine zW_s rfl ?_
  rw [znw_b (σ := s3) (y := 18) 5 8 0 (by rw [x3]), show zX s3 + 1 = 18 by rw [x3]]
  obtain ⟨n1, en⟩ : ∃ n, n = zna s3 18 5 8 0 := ⟨_, rfl⟩
  rw [← en]
  have nk : zK n1 1 = 12 := by rw [en, zK_na (by omega)]; exact k3
  have nq : zQ n1 1 = (zu (zu (zu (zu (fun _ => 0) 0 2) 1 4) 2 9) 3 14) := by rw [en, zQ_na (by omega)]; exact q3
  have nn : zNo n1 18 5 := by rw [en]; exact zNo_na
  refine zW_s rfl ?_
  refine zW_s rfl ?_
  refine zW_p rfl nk ?_
  rw [show zQ n1 1 1 = 4 by rw [nq]; rfl]
  refine zW_c rfl nn.2.1 ?_
  refine g46 nn ?_
  intro c4 a1 a2 a3 a4
  have m : ∀ b, b ≤ 17 → zEo b s3 c4 := fun b hb => zEo_t (by rw [en]; exact zEo_na (by omega)) (a1 b (by omega))
  have nl : zL n1 = zL s3 + 8 := by rw [en, zL_na]
  refine zW_p rfl (by rw [(m 1 (by omega)).1]; exact k3) ?_
  obtain ⟨s4, e⟩ : ∃ s, s = zsQ c4 1 4 18 := ⟨_, rfl⟩
  rw [← e]
  have x4 : zX s4 = 53 := by rw [e, yX_sQ]; exact a2
  have l4 : zL s4 = zL σ + 82474 := by
    have y : zL s4 = zL c4 := by rw [e, yL_sQ]
    omega
  have k4 : zK s4 1 = 12 := by rw [e, yK_sQ, (m 1 (by omega)).1]; exact k3
  have q4 : zQ s4 1 = (zu (zu (zu (zu (zu (fun _ => 0) 0 2) 1 4) 2 9) 3 14) 4 18) := by rw [e, yQ_eQ, (m 1 (by omega)).2.2.2.2.1, q3]
  have i4 : zI s4 1 = fun _ => 0 := by rw [e, yI_sQ, (m 1 (by omega)).2.2.1]; exact i3
  have m4 : ∀ b, 2 ≤ b → b ≤ 17 → zEo b s3 s4 := by
    intro b h2 hb
    rw [e]
    exact zEo_t (m b hb) (zEo_sQ (by omega))
  have o4 : ∀ b, b ≠ 1 → zEo b c4 s4 := by
    intro b hb
    rw [e]
    exact zEo_sQ hb
  have v4 : zc18 s4 := zc18_e (fun b _ _ => o4 b (by omega)) a4
  clear e m a2 a3 a4 en o4 a1 nn nk nq nl
  refine zW_s rfl ?_
  refine zW_s rfl ?_
  rw [znw_b (σ := s4) (y := 54) 4 7 0 (by rw [x4]), show zX s4 + 1 = 54 by rw [x4]]
  obtain ⟨n1, en⟩ : ∃ n, n = zna s4 54 4 7 0 := ⟨_, rfl⟩
  rw [← en]
  have nk : zK n1 1 = 12 := by rw [en, zK_na (by omega)]; exact k4
  have nq : zQ n1 1 = (zu (zu (zu (zu (zu (fun _ => 0) 0 2) 1 4) 2 9) 3 14) 4 18) := by rw [en, zQ_na (by omega)]; exact q4
  have nn : zNo n1 54 4 := by rw [en]; exact zNo_na
  refine zW_s rfl ?_
  refine zW_s rfl ?_
  refine zW_p rfl nk ?_
  rw [show zQ n1 1 1 = 4 by rw [nq]; rfl]
  refine zW_s rfl ?_
  refine zW_p rfl nk ?_
  rw [show zQ n1 1 0 = 2 by rw [nq]; rfl]
  refine zW_c rfl nn.2.1 ?_
  refine g40 nn ?_
  intro c5 a1 a2 a3 a4
  have m : ∀ b, b ≤ 53 → zEo b s4 c5 := fun b hb => zEo_t (by rw [en]; exact zEo_na (by omega)) (a1 b (by omega))
  have nl : zL n1 = zL s4 + 7 := by rw [en, zL_na]
  refine zW_p rfl (by rw [(m 1 (by omega)).1]; exact k4) ?_
  obtain ⟨s5, e⟩ : ∃ s, s = zsQ c5 1 5 54 := ⟨_, rfl⟩
  rw [← e]
  have x5 : zX s5 = 58 := by rw [e, yX_sQ]; exact a2
  have l5 : zL s5 = zL σ + 82570 := by
    have y : zL s5 = zL c5 := by rw [e, yL_sQ]
    omega
  have k5 : zK s5 1 = 12 := by rw [e, yK_sQ, (m 1 (by omega)).1]; exact k4
  have q5 : zQ s5 1 = (zu (zu (zu (zu (zu (zu (fun _ => 0) 0 2) 1 4) 2 9) 3 14) 4 18) 5 54) := by rw [e, yQ_eQ, (m 1 (by omega)).2.2.2.2.1, q4]
  have i5 : zI s5 1 = fun _ => 0 := by rw [e, yI_sQ, (m 1 (by omega)).2.2.1]; exact i4
  have m5 : ∀ b, 2 ≤ b → b ≤ 53 → zEo b s4 s5 := by
    intro b h2 hb
    rw [e]
    exact zEo_t (m b hb) (zEo_sQ (by omega))
  have o5 : ∀ b, b ≠ 1 → zEo b c5 s5 := by
    intro b hb
    rw [e]
    exact zEo_sQ hb
  have v5 : zc54 s5 none 0 := zc54_e (fun b _ _ => o5 b (by omega)) a4
  clear e m a2 a3 a4 en o5 a1 nn nk nq nl
  refine zW_s rfl ?_
  refine zW_s rfl ?_
  refine zW_p rfl (zpnl (by decide) (show (Int32.ofInt 9).toNatClampNeg = 9 from rfl) (by omega)) ?_
  rw [show (Int32.ofInt 9).toNatClampNeg = 9 from rfl, znw_b (σ := s5) (y := 59) 20 9 9 (by rw [x5]), show zX s5 + 1 = 59 by rw [x5]]
  obtain ⟨c6, en⟩ : ∃ n, n = zna s5 59 20 9 9 := ⟨_, rfl⟩
  rw [← en]
  have m : ∀ b, b ≤ 58 → zEo b s5 c6 := fun b hb => by rw [en]; exact zEo_na (by omega)
  have a2 : zX c6 = 59 := by rw [en, yX_na]
  have a3 : zL c6 = zL s5 + 9 := by rw [en, zL_na]
  have a4 : zK c6 59 = 20 ∧ zN c6 59 = 9 := by rw [en]; exact ⟨zK_ne, zN_ne⟩
  refine zW_p rfl (by rw [(m 1 (by omega)).1]; exact k5) ?_
  obtain ⟨s6, e⟩ : ∃ s, s = zsQ c6 1 6 59 := ⟨_, rfl⟩
  rw [← e]
  have x6 : zX s6 = 59 := by rw [e, yX_sQ]; exact a2
  have l6 : zL s6 = zL σ + 82579 := by
    have y : zL s6 = zL c6 := by rw [e, yL_sQ]
    omega
  have k6 : zK s6 1 = 12 := by rw [e, yK_sQ, (m 1 (by omega)).1]; exact k5
  have q6 : zQ s6 1 = (zu (zu (zu (zu (zu (zu (zu (fun _ => 0) 0 2) 1 4) 2 9) 3 14) 4 18) 5 54) 6 59) := by rw [e, yQ_eQ, (m 1 (by omega)).2.2.2.2.1, q5]
  have i6 : zI s6 1 = fun _ => 0 := by rw [e, yI_sQ, (m 1 (by omega)).2.2.1]; exact i5
  have m6 : ∀ b, 2 ≤ b → b ≤ 58 → zEo b s5 s6 := by
    intro b h2 hb
    rw [e]
    exact zEo_t (m b hb) (zEo_sQ (by omega))
  have o6 : ∀ b, b ≠ 1 → zEo b c6 s6 := by
    intro b hb
    rw [e]
    exact zEo_sQ hb
  have v6 : zK s6 59 = 20 ∧ zN s6 59 = 9 := by rw [(o6 59 (by omega)).1, (o6 59 (by omega)).2.1]; exact a4
  clear e m a2 a3 a4 en o6
  refine zW_s rfl ?_
  refine zW_s rfl ?_
  rw [znw_b (σ := s6) (y := 60) 10 3 0 (by rw [x6]), show zX s6 + 1 = 60 by rw [x6]]
  obtain ⟨n1, en⟩ : ∃ n, n = zna s6 60 10 3 0 := ⟨_, rfl⟩
  rw [← en]
  have nk : zK n1 1 = 12 := by rw [en, zK_na (by omega)]; exact k6
  have nq : zQ n1 1 = (zu (zu (zu (zu (zu (zu (zu (fun _ => 0) 0 2) 1 4) 2 9) 3 14) 4 18) 5 54) 6 59) := by rw [en, zQ_na (by omega)]; exact q6
  have nn : zNo n1 60 10 := by rw [en]; exact zNo_na
  refine zW_s rfl ?_
  refine zW_c rfl nn.2.1 ?_
  refine g96 nn ?_
  intro c7 a1 a2 a3 a4 a5
  have m : ∀ b, b ≤ 59 → zEo b s6 c7 := fun b hb => zEo_t (by rw [en]; exact zEo_na (by omega)) (a1 b (by omega))
  have nl : zL n1 = zL s6 + 3 := by rw [en, zL_na]
  refine zW_p rfl (by rw [(m 1 (by omega)).1]; exact k6) ?_
  obtain ⟨s7, e⟩ : ∃ s, s = zsQ c7 1 7 60 := ⟨_, rfl⟩
  rw [← e]
  have x7 : zX s7 = 105 := by rw [e, yX_sQ]; exact a2
  have l7 : zL s7 = zL σ + 84336 := by
    have y : zL s7 = zL c7 := by rw [e, yL_sQ]
    omega
  have k7 : zK s7 1 = 12 := by rw [e, yK_sQ, (m 1 (by omega)).1]; exact k6
  have q7 : zQ s7 1 = (zu (zu (zu (zu (zu (zu (zu (zu (fun _ => 0) 0 2) 1 4) 2 9) 3 14) 4 18) 5 54) 6 59) 7 60) := by rw [e, yQ_eQ, (m 1 (by omega)).2.2.2.2.1, q6]
  have i7 : zI s7 1 = fun _ => 0 := by rw [e, yI_sQ, (m 1 (by omega)).2.2.1]; exact i6
  have m7 : ∀ b, 2 ≤ b → b ≤ 59 → zEo b s6 s7 := by
    intro b h2 hb
    rw [e]
    exact zEo_t (m b hb) (zEo_sQ (by omega))
  have o7 : ∀ b, b ≠ 1 → zEo b c7 s7 := by
    intro b hb
    rw [e]
    exact zEo_sQ hb
  have v7 : zTs s7 60 := zTs_e (fun b _ _ => o7 b (by omega)) a4
  have w7 : zI s7 60 = fun _ => 0 := by rw [(o7 60 (by omega)).2.2.1]; exact a5
  clear e m a2 a3 a4 en o7 a1 nn nk nq nl a5
  refine zW_s rfl ?_
  refine zW_s rfl ?_
  rw [znw_b (σ := s7) (y := 106) 10 3 0 (by rw [x7]), show zX s7 + 1 = 106 by rw [x7]]
  obtain ⟨n1, en⟩ : ∃ n, n = zna s7 106 10 3 0 := ⟨_, rfl⟩
  rw [← en]
  have nk : zK n1 1 = 12 := by rw [en, zK_na (by omega)]; exact k7
  have nq : zQ n1 1 = (zu (zu (zu (zu (zu (zu (zu (zu (fun _ => 0) 0 2) 1 4) 2 9) 3 14) 4 18) 5 54) 6 59) 7 60) := by rw [en, zQ_na (by omega)]; exact q7
  have nn : zNo n1 106 10 := by rw [en]; exact zNo_na
  refine zW_s rfl ?_
  refine zW_c rfl nn.2.1 ?_
  refine g96 nn ?_
  intro c8 a1 a2 a3 a4 a5
  have m : ∀ b, b ≤ 105 → zEo b s7 c8 := fun b hb => zEo_t (by rw [en]; exact zEo_na (by omega)) (a1 b (by omega))
  have nl : zL n1 = zL s7 + 3 := by rw [en, zL_na]
  refine zW_p rfl (by rw [(m 1 (by omega)).1]; exact k7) ?_
  obtain ⟨s8, e⟩ : ∃ s, s = zsQ c8 1 8 106 := ⟨_, rfl⟩
  rw [← e]
  have x8 : zX s8 = 151 := by rw [e, yX_sQ]; exact a2
  have l8 : zL s8 = zL σ + 86093 := by
    have y : zL s8 = zL c8 := by rw [e, yL_sQ]
    omega
  have k8 : zK s8 1 = 12 := by rw [e, yK_sQ, (m 1 (by omega)).1]; exact k7
  have q8 : zQ s8 1 = (zu (zu (zu (zu (zu (zu (zu (zu (zu (fun _ => 0) 0 2) 1 4) 2 9) 3 14) 4 18) 5 54) 6 59) 7 60) 8 106) := by rw [e, yQ_eQ, (m 1 (by omega)).2.2.2.2.1, q7]
  have i8 : zI s8 1 = fun _ => 0 := by rw [e, yI_sQ, (m 1 (by omega)).2.2.1]; exact i7
  have m8 : ∀ b, 2 ≤ b → b ≤ 105 → zEo b s7 s8 := by
    intro b h2 hb
    rw [e]
    exact zEo_t (m b hb) (zEo_sQ (by omega))
  have o8 : ∀ b, b ≠ 1 → zEo b c8 s8 := by
    intro b hb
    rw [e]
    exact zEo_sQ hb
  have v8 : zTs s8 106 := zTs_e (fun b _ _ => o8 b (by omega)) a4
  have w8 : zI s8 106 = fun _ => 0 := by rw [(o8 106 (by omega)).2.2.1]; exact a5
  clear e m a2 a3 a4 en o8 a1 nn nk nq nl a5
  refine zW_s rfl ?_
  refine zW_s rfl ?_
  rw [znw_b (σ := s8) (y := 152) 1 4 0 (by rw [x8]), show zX s8 + 1 = 152 by rw [x8]]
  obtain ⟨n1, en⟩ : ∃ n, n = zna s8 152 1 4 0 := ⟨_, rfl⟩
  rw [← en]
  have nk : zK n1 1 = 12 := by rw [en, zK_na (by omega)]; exact k8
  have nq : zQ n1 1 = (zu (zu (zu (zu (zu (zu (zu (zu (zu (fun _ => 0) 0 2) 1 4) 2 9) 3 14) 4 18) 5 54) 6 59) 7 60) 8 106) := by rw [en, zQ_na (by omega)]; exact q8
  have nn : zNo n1 152 1 := by rw [en]; exact zNo_na
  refine zW_s rfl ?_
  refine zW_c rfl nn.2.1 ?_
  refine g0 nn ?_
  intro c9 a1 a2 a3 a4 a5
  have m : ∀ b, b ≤ 151 → zEo b s8 c9 := fun b hb => zEo_t (by rw [en]; exact zEo_na (by omega)) (a1 b (by omega))
  have nl : zL n1 = zL s8 + 4 := by rw [en, zL_na]
  refine zW_p rfl (by rw [(m 1 (by omega)).1]; exact k8) ?_
  obtain ⟨s9, e⟩ : ∃ s, s = zsQ c9 1 9 152 := ⟨_, rfl⟩
  rw [← e]
  have x9 : zX s9 = 155 := by rw [e, yX_sQ]; exact a2
  have l9 : zL s9 = zL σ + 87447 := by
    have y : zL s9 = zL c9 := by rw [e, yL_sQ]
    omega
  have k9 : zK s9 1 = 12 := by rw [e, yK_sQ, (m 1 (by omega)).1]; exact k8
  have q9 : zQ s9 1 = (zu (zu (zu (zu (zu (zu (zu (zu (zu (zu (fun _ => 0) 0 2) 1 4) 2 9) 3 14) 4 18) 5 54) 6 59) 7 60) 8 106) 9 152) := by rw [e, yQ_eQ, (m 1 (by omega)).2.2.2.2.1, q8]
  have i9 : zI s9 1 = fun _ => 0 := by rw [e, yI_sQ, (m 1 (by omega)).2.2.1]; exact i8
  have m9 : ∀ b, 2 ≤ b → b ≤ 151 → zEo b s8 s9 := by
    intro b h2 hb
    rw [e]
    exact zEo_t (m b hb) (zEo_sQ (by omega))
  have o9 : ∀ b, b ≠ 1 → zEo b c9 s9 := by
    intro b hb
    rw [e]
    exact zEo_sQ hb
  have v9 : zCo s9 152 := zCo_e (fun b _ _ => o9 b (by omega)) a4
  have w9 : zI s9 152 = fun _ => 0 := by rw [(o9 152 (by omega)).2.2.1]; exact a5
  clear e m a2 a3 a4 en o9 a1 nn nk nq nl a5
  refine zW_s rfl ?_
  refine zW_s rfl ?_
  rw [znw_b (σ := s9) (y := 156) 1 4 0 (by rw [x9]), show zX s9 + 1 = 156 by rw [x9]]
  obtain ⟨n1, en⟩ : ∃ n, n = zna s9 156 1 4 0 := ⟨_, rfl⟩
  rw [← en]
  have nk : zK n1 1 = 12 := by rw [en, zK_na (by omega)]; exact k9
  have nq : zQ n1 1 = (zu (zu (zu (zu (zu (zu (zu (zu (zu (zu (fun _ => 0) 0 2) 1 4) 2 9) 3 14) 4 18) 5 54) 6 59) 7 60) 8 106) 9 152) := by rw [en, zQ_na (by omega)]; exact q9
  have nn : zNo n1 156 1 := by rw [en]; exact zNo_na
  refine zW_s rfl ?_
  refine zW_c rfl nn.2.1 ?_
  refine g0 nn ?_
  intro c10 a1 a2 a3 a4 a5
  have m : ∀ b, b ≤ 155 → zEo b s9 c10 := fun b hb => zEo_t (by rw [en]; exact zEo_na (by omega)) (a1 b (by omega))
  have nl : zL n1 = zL s9 + 4 := by rw [en, zL_na]
  refine zW_p rfl (by rw [(m 1 (by omega)).1]; exact k9) ?_
  obtain ⟨s10, e⟩ : ∃ s, s = zsQ c10 1 10 156 := ⟨_, rfl⟩
  rw [← e]
  have x10 : zX s10 = 159 := by rw [e, yX_sQ]; exact a2
  have l10 : zL s10 = zL σ + 88801 := by
    have y : zL s10 = zL c10 := by rw [e, yL_sQ]
    omega
  have k10 : zK s10 1 = 12 := by rw [e, yK_sQ, (m 1 (by omega)).1]; exact k9
  have q10 : zQ s10 1 = (zu (zu (zu (zu (zu (zu (zu (zu (zu (zu (zu (fun _ => 0) 0 2) 1 4) 2 9) 3 14) 4 18) 5 54) 6 59) 7 60) 8 106) 9 152) 10 156) := by rw [e, yQ_eQ, (m 1 (by omega)).2.2.2.2.1, q9]
  have i10 : zI s10 1 = fun _ => 0 := by rw [e, yI_sQ, (m 1 (by omega)).2.2.1]; exact i9
  have m10 : ∀ b, 2 ≤ b → b ≤ 155 → zEo b s9 s10 := by
    intro b h2 hb
    rw [e]
    exact zEo_t (m b hb) (zEo_sQ (by omega))
  have o10 : ∀ b, b ≠ 1 → zEo b c10 s10 := by
    intro b hb
    rw [e]
    exact zEo_sQ hb
  have v10 : zCo s10 156 := zCo_e (fun b _ _ => o10 b (by omega)) a4
  have w10 : zI s10 156 = fun _ => 0 := by rw [(o10 156 (by omega)).2.2.1]; exact a5
  clear e m a2 a3 a4 en o10 a1 nn nk nq nl a5
  refine zW_s rfl ?_
  refine zW_p rfl k10 ?_
  rw [show zQ s10 1 9 = 152 by rw [q10]; rfl]
  refine zW_s rfl ?_
  refine zW_s rfl ?_
  refine zW_c rfl trivial ?_
  refine p_lit (v := 0) (by omega) ?_
  refine zW_s rfl ?_
  refine zW_c rfl trivial ?_
  refine p_lit (v := 0) (by omega) ?_
  have C : zCo s10 152 := zCo_e (fun b _ _ => m10 b (by omega) (by omega)) v9
  have J : zI s10 152 3 = nI 0 := by rw [(m10 152 (by omega) (by omega)).2.2.1, w9]; rfl
  refine zW_c rfl C.1 ?_
  obtain ⟨c0, c1, c2, c3, c4, c5, c6, c7, c8, c9⟩ := id C
  refine b1 ⟨C.1, ?_⟩
  rw [J, if_neg (by decide), c1, c2, c3, c7, c8, c9, zcl 0 (by omega), nI_add]
  refine ⟨c4, vp_in_nI (by omega) (by omega), c5, vp_in_nI (by omega) (by omega), c6, vp_in_nI (by omega) (by omega), ?_⟩
  obtain ⟨t1, e1⟩ : ∃ t1, t1 = zsI (zsA (zsA (zsA s10 153 0 (nI 42)) 154 0 (nI 9216)) 155 0 (nI 9216)) 152 3 (nI 1) := ⟨_, rfl⟩
  have m11 : ∀ b, (b < 152 ∨ 155 < b) → zEo b s10 t1 := by
    intro b hb
    rw [e1]
    exact zEo_t (zEo_t (zEo_t (zEo_sA (by omega)) (zEo_sA (by omega))) (zEo_sA (by omega))) (zEo_sI (by omega))
  have C1 : zClm t1 152 [(42, 9216, 9216)] := by
    refine ⟨?_, by rw [e1, yI_eI, zu_same]; rfl, by decide, ⟨⟨?_, ?_, ?_⟩, trivial⟩, ?_, ?_⟩
    · unfold zCo
      rw [e1]
      simp (disch := omega) only [yK_sQ, yN_sQ, yI_sQ, yJ_sQ, yA_sQ, yB_sQ, yS_sQ, yX_sQ, yL_sQ, yQ_oQ, yQ_eQ, yK_sS, yN_sS, yI_sS, yJ_sS, yQ_sS, yA_sS, yB_sS, yX_sS, yL_sS, yS_oS, yS_eS, yK_sI, yN_sI, yJ_sI, yQ_sI, yA_sI, yB_sI, yS_sI, yX_sI, yL_sI, yI_oI, yI_eI, yK_sJ, yN_sJ, yI_sJ, yQ_sJ, yA_sJ, yB_sJ, yS_sJ, yX_sJ, yL_sJ, yJ_oJ, yJ_eJ, yK_sA, yN_sA, yI_sA, yJ_sA, yQ_sA, yB_sA, yS_sA, yX_sA, yL_sA, yA_oA, yA_eA, zK_na, zN_na, zI_na, zJ_na, zQ_na, zA_na, zB_na, zS_na, zK_ne, zN_ne, zI_ne, zJ_ne, zQ_ne, zA_ne, zB_ne, zS_ne, zL_na, yX_na, zu_same, zu_ne]
      exact C
    · rw [e1]
      simp (disch := omega) only [yK_sQ, yN_sQ, yI_sQ, yJ_sQ, yA_sQ, yB_sQ, yS_sQ, yX_sQ, yL_sQ, yQ_oQ, yQ_eQ, yK_sS, yN_sS, yI_sS, yJ_sS, yQ_sS, yA_sS, yB_sS, yX_sS, yL_sS, yS_oS, yS_eS, yK_sI, yN_sI, yJ_sI, yQ_sI, yA_sI, yB_sI, yS_sI, yX_sI, yL_sI, yI_oI, yI_eI, yK_sJ, yN_sJ, yI_sJ, yQ_sJ, yA_sJ, yB_sJ, yS_sJ, yX_sJ, yL_sJ, yJ_oJ, yJ_eJ, yK_sA, yN_sA, yI_sA, yJ_sA, yQ_sA, yB_sA, yS_sA, yX_sA, yL_sA, yA_oA, yA_eA, zK_na, zN_na, zI_na, zJ_na, zQ_na, zA_na, zB_na, zS_na, zK_ne, zN_ne, zI_ne, zJ_ne, zQ_ne, zA_ne, zB_ne, zS_ne, zL_na, yX_na, zu_same, zu_ne]
    · rw [e1]
      simp (disch := omega) only [yK_sQ, yN_sQ, yI_sQ, yJ_sQ, yA_sQ, yB_sQ, yS_sQ, yX_sQ, yL_sQ, yQ_oQ, yQ_eQ, yK_sS, yN_sS, yI_sS, yJ_sS, yQ_sS, yA_sS, yB_sS, yX_sS, yL_sS, yS_oS, yS_eS, yK_sI, yN_sI, yJ_sI, yQ_sI, yA_sI, yB_sI, yS_sI, yX_sI, yL_sI, yI_oI, yI_eI, yK_sJ, yN_sJ, yI_sJ, yQ_sJ, yA_sJ, yB_sJ, yS_sJ, yX_sJ, yL_sJ, yJ_oJ, yJ_eJ, yK_sA, yN_sA, yI_sA, yJ_sA, yQ_sA, yB_sA, yS_sA, yX_sA, yL_sA, yA_oA, yA_eA, zK_na, zN_na, zI_na, zJ_na, zQ_na, zA_na, zB_na, zS_na, zK_ne, zN_ne, zI_ne, zJ_ne, zQ_ne, zA_ne, zB_ne, zS_ne, zL_na, yX_na, zu_same, zu_ne]
    · rw [e1]
      simp (disch := omega) only [yK_sQ, yN_sQ, yI_sQ, yJ_sQ, yA_sQ, yB_sQ, yS_sQ, yX_sQ, yL_sQ, yQ_oQ, yQ_eQ, yK_sS, yN_sS, yI_sS, yJ_sS, yQ_sS, yA_sS, yB_sS, yX_sS, yL_sS, yS_oS, yS_eS, yK_sI, yN_sI, yJ_sI, yQ_sI, yA_sI, yB_sI, yS_sI, yX_sI, yL_sI, yI_oI, yI_eI, yK_sJ, yN_sJ, yI_sJ, yQ_sJ, yA_sJ, yB_sJ, yS_sJ, yX_sJ, yL_sJ, yJ_oJ, yJ_eJ, yK_sA, yN_sA, yI_sA, yJ_sA, yQ_sA, yB_sA, yS_sA, yX_sA, yL_sA, yA_oA, yA_eA, zK_na, zN_na, zI_na, zJ_na, zQ_na, zA_na, zB_na, zS_na, zK_ne, zN_ne, zI_ne, zJ_ne, zQ_ne, zA_ne, zB_ne, zS_ne, zL_na, yX_na, zu_same, zu_ne]
    · intro c hc
      rw [List.mem_singleton] at hc
      rw [hc]
      exact Or.inr (Or.inr (Or.inr (Or.inr ⟨by decide, by decide, Or.inl ⟨0, by omega, by decide⟩, Or.inl ⟨0, by omega, by decide⟩⟩)))
    · unfold zsafe
      rw [if_neg (by decide), if_neg (by decide)]
      exact ⟨by omega, trivial⟩
  have x11 : zX t1 = 159 := by rw [e1]; simp (disch := omega) only [yK_sQ, yN_sQ, yI_sQ, yJ_sQ, yA_sQ, yB_sQ, yS_sQ, yX_sQ, yL_sQ, yQ_oQ, yQ_eQ, yK_sS, yN_sS, yI_sS, yJ_sS, yQ_sS, yA_sS, yB_sS, yX_sS, yL_sS, yS_oS, yS_eS, yK_sI, yN_sI, yJ_sI, yQ_sI, yA_sI, yB_sI, yS_sI, yX_sI, yL_sI, yI_oI, yI_eI, yK_sJ, yN_sJ, yI_sJ, yQ_sJ, yA_sJ, yB_sJ, yS_sJ, yX_sJ, yL_sJ, yJ_oJ, yJ_eJ, yK_sA, yN_sA, yI_sA, yJ_sA, yQ_sA, yB_sA, yS_sA, yX_sA, yL_sA, yA_oA, yA_eA, zK_na, zN_na, zI_na, zJ_na, zQ_na, zA_na, zB_na, zS_na, zK_ne, zN_ne, zI_ne, zJ_ne, zQ_ne, zA_ne, zB_ne, zS_ne, zL_na, yX_na, zu_same, zu_ne]; exact x10
  have l11 : zL t1 = zL s10 := by rw [e1]; simp (disch := omega) only [yK_sQ, yN_sQ, yI_sQ, yJ_sQ, yA_sQ, yB_sQ, yS_sQ, yX_sQ, yL_sQ, yQ_oQ, yQ_eQ, yK_sS, yN_sS, yI_sS, yJ_sS, yQ_sS, yA_sS, yB_sS, yX_sS, yL_sS, yS_oS, yS_eS, yK_sI, yN_sI, yJ_sI, yQ_sI, yA_sI, yB_sI, yS_sI, yX_sI, yL_sI, yI_oI, yI_eI, yK_sJ, yN_sJ, yI_sJ, yQ_sJ, yA_sJ, yB_sJ, yS_sJ, yX_sJ, yL_sJ, yJ_oJ, yJ_eJ, yK_sA, yN_sA, yI_sA, yJ_sA, yQ_sA, yB_sA, yS_sA, yX_sA, yL_sA, yA_oA, yA_eA, zK_na, zN_na, zI_na, zJ_na, zQ_na, zA_na, zB_na, zS_na, zK_ne, zN_ne, zI_ne, zJ_ne, zQ_ne, zA_ne, zB_ne, zS_ne, zL_na, yX_na, zu_same, zu_ne]
  refine zW_e (τ := t1) ?_ ?_
  · rw [e1]
    rfl
  have k11 : zK t1 1 = 12 := by rw [(m11 1 (by omega)).1]; exact k10
  clear e1
  refine zW_s rfl ?_
  refine zW_s rfl ?_
  refine zW_p rfl k11 ?_
  refine zW_r rfl trivial ?_
  obtain ⟨t2, e2⟩ : ∃ t2, t2 = zsJ t1 1 14 (Int64.ofInt (-1)) := ⟨_, rfl⟩
  rw [← e2]
  have m12 : ∀ b, b ≠ 1 → zEo b t1 t2 := by
    intro b hb
    rw [e2]
    exact zEo_sJ hb
  have n10 : ∀ b, 2 ≤ b → (b < 152 ∨ 155 < b) → zEo b s10 t2 := fun b l hb => zEo_t (m11 b hb) (m12 b (by omega))
  have n9 : ∀ b, 2 ≤ b → b < 152 → zEo b s9 t2 := fun b l hb => zEo_t (m10 b l (by omega)) (n10 b l (by omega))
  have n8 : ∀ b, 2 ≤ b → b ≤ 151 → zEo b s8 t2 := fun b l hb => zEo_t (m9 b l (by omega)) (n9 b l (by omega))
  have n7 : ∀ b, 2 ≤ b → b ≤ 105 → zEo b s7 t2 := fun b l hb => zEo_t (m8 b l (by omega)) (n8 b l (by omega))
  have n6 : ∀ b, 2 ≤ b → b ≤ 59 → zEo b s6 t2 := fun b l hb => zEo_t (m7 b l (by omega)) (n7 b l (by omega))
  have n5 : ∀ b, 2 ≤ b → b ≤ 58 → zEo b s5 t2 := fun b l hb => zEo_t (m6 b l (by omega)) (n6 b l (by omega))
  have n4 : ∀ b, 2 ≤ b → b ≤ 53 → zEo b s4 t2 := fun b l hb => zEo_t (m5 b l (by omega)) (n5 b l (by omega))
  have n3 : ∀ b, 2 ≤ b → b ≤ 17 → zEo b s3 t2 := fun b l hb => zEo_t (m4 b l (by omega)) (n4 b l (by omega))
  have n2 : ∀ b, 2 ≤ b → b ≤ 13 → zEo b s2 t2 := fun b l hb => zEo_t (m3 b l (by omega)) (n3 b l (by omega))
  have n1 : ∀ b, 2 ≤ b → b ≤ 8 → zEo b s1 t2 := fun b l hb => zEo_t (m2 b l (by omega)) (n2 b l (by omega))
  have n0 : ∀ b, 2 ≤ b → b ≤ 3 → zEo b s0 t2 := fun b l hb => zEo_t (m1 b l (by omega)) (n1 b l (by omega))
  have qf : zQ t2 1 = (zu (zu (zu (zu (zu (zu (zu (zu (zu (zu (zu (fun _ => 0) 0 2) 1 4) 2 9) 3 14) 4 18) 5 54) 6 59) 7 60) 8 106) 9 152) 10 156) := by
    have y : zQ t2 1 = zQ t1 1 := by rw [e2, yQ_sJ]
    rw [y, (m11 1 (by omega)).2.2.2.2.1, q10]
  have kf : zK t2 1 = 12 := by
    have y : zK t2 1 = zK t1 1 := by rw [e2, yK_sJ]
    rw [y, k11]
  have jf : zI t2 1 = fun _ => 0 := by
    have y : zI t2 1 = zI t1 1 := by rw [e2, yI_sJ]
    rw [y, (m11 1 (by omega)).2.2.1, i10]
  refine hQ t2 (by rw [e2, yX_sJ]; exact x11) (by rw [e2, yL_sJ, l11]; exact l10) ?_
  refine ⟨60, 106, 152, 156, ⟨⟨kf, ?_⟩, Or.inl ⟨rfl, rfl⟩, Or.inl ⟨rfl, rfl⟩, ?_⟩, zTp_e (fun b _ _ => n0 b (by omega) (by omega)) v0, zc4_e (fun b _ _ => n1 b (by omega) (by omega)) v1, zc9_e (fun b _ _ => n2 b (by omega) (by omega)) v2, zTb_e (fun b _ _ => n3 b (by omega) (by omega)) v3, zc18_e (fun b _ _ => n4 b (by omega) (by omega)) v4, zc54_e (fun b _ _ => n5 b (by omega) (by omega)) v5, ?_, ⟨?_, zTs_e (fun b _ _ => n8 b (by omega) (by omega)) v8⟩, ⟨?_, zCo_e (fun b _ _ => n10 b (by omega) (by omega)) v10⟩⟩
  · rw [qf]
    exact ⟨rfl, rfl, rfl, rfl, rfl, rfl, rfl, rfl, rfl, rfl, rfl⟩
  · show zI t2 1 11 = nI 0
    rw [jf]
    rfl
  · unfold zc59
    rw [(n6 59 (by omega) (by omega)).1, (n6 59 (by omega) (by omega)).2.1]
    exact v6
  · refine ⟨zTs_e (fun b _ _ => n7 b (by omega) (by omega)) v7, ?_, Nat.zero_le _, fun k hk => absurd hk (Nat.not_lt_zero k)⟩
    rw [(n7 60 (by omega) (by omega)).2.2.1, w7]
    rfl
  · obtain ⟨b1, b2, b3, b4, b5, b6⟩ := C1
    refine ⟨zCo_e (fun b _ _ => m12 b (by omega)) b1, by rw [(m12 152 (by omega)).2.2.1]; exact b2, b3, ⟨?_, trivial⟩, b5, b6⟩
    unfold zCc
    rw [(m12 (152 + 1) (by omega)).2.2.2.2.2.1, (m12 (152 + 2) (by omega)).2.2.2.2.2.1, (m12 (152 + 3) (by omega)).2.2.2.2.2.1]
    exact b4.1
