/-! the reference's object -/
def zRw (σ : zH) (a k n : Nat) : Prop := zK σ a = k ∧ zN σ a = n ∧ zA σ a = fun _ => 0
theorem zRw_e {σ τ : zH} {a k n : Nat} (h : zEo a σ τ) (g : zRw σ a k n) : zRw τ a k n := by
  unfold zRw at *
  rw [h.1, h.2.1, h.2.2.2.2.2.1]
  exact g
set_option maxHeartbeats 4000000 in
theorem g131 {d : Nat} {σ : zH} (h : zNo σ 160 13) {Q : Option Value → zH → Prop} (hQ : ∀ τ, zX τ = 186 → zL τ = zL σ + 94808 → (∀ b, b < 160 → zEo b σ τ) → zIR τ zm0 → Q none τ) : zM (d + 1) 131 [.ref 160] σ Q := by
  obtain ⟨h1, h2, h3, h4, h5⟩ := h
  unfold zM
  refine zW_s rfl ?_
  refine zW_p rfl (by rw [h2]; decide) ?_
  refine zW_s rfl ?_
  refine zW_s rfl ?_
  refine zW_p rfl (zpnl (by decide) (show (Int32.ofInt 900).toNatClampNeg = 900 from rfl) (by omega)) ?_
  rw [show (Int32.ofInt 900).toNatClampNeg = 900 from rfl, znw_b (σ := σ) (y := 161) 22 900 900 (by rw [h1]), show zX σ + 1 = 161 by rw [h1]]
  refine zW_p rfl (by rw [zK_na (by omega)]; exact h2) ?_
  obtain ⟨s0, e⟩ : ∃ s, s = zsQ (zna σ 161 22 900 900) 160 1 161 := ⟨_, rfl⟩
  rw [← e]
  have x0 : zX s0 = 161 := by rw [e, yX_sQ, yX_na]
  have l0 : zL s0 = zL σ + 900 := by
    have y : zL s0 = zL σ + 900 := by rw [e, yL_sQ, zL_na]
    omega
  have k0 : zK s0 160 = 13 := by rw [e, yK_sQ, zK_na (by omega)]; exact h2
  have q0 : zQ s0 160 = zu (fun _ => 0) 1 161 := by rw [e, yQ_eQ, zQ_na (by omega), h5]
  have i0 : zI s0 160 = (fun _ => 0) := by rw [e, yI_sQ, zI_na (by omega)]; exact h3
  have m0 : ∀ b, b ≤ 160 → b ≠ 160 → zEo b σ s0 := by
    intro b hb hn
    rw [e]
    exact zEo_t (zEo_na (by omega)) (zEo_sQ hn)
  have v0 : zRw s0 161 22 900 := by
    rw [e]
    exact ⟨by rw [yK_sQ, zK_ne], by rw [yN_sQ, zN_ne], by rw [yA_sQ, zA_ne]⟩
  clear e
  refine zW_s rfl ?_
  refine zW_s rfl ?_
  refine zW_p rfl k0 ?_
  obtain ⟨s1, e⟩ : ∃ s, s = zsI s0 160 5 (Int32.ofInt 8) := ⟨_, rfl⟩
  rw [← e]
  have x1 : zX s1 = 161 := by rw [e, yX_sI]; exact x0
  have l1 : zL s1 = zL σ + 900 := by
    have y : zL s1 = zL s0 := by rw [e, yL_sI]
    omega
  have k1 : zK s1 160 = 13 := by rw [e, yK_sI]; exact k0
  have q1 : zQ s1 160 = (zu (fun _ => 0) 1 161) := by rw [e, yQ_sI]; exact q0
  have i1 : zI s1 160 = zu (fun _ => 0) 5 (nI 8) := by rw [e, yI_eI, i0]; rfl
  have m1 : ∀ b, b ≤ 161 → b ≠ 160 → zEo b s0 s1 := by
    intro b hb hn
    rw [e]
    exact zEo_sI hn
  clear e
  clear x0 l0 k0 q0 i0
  refine zW_s rfl ?_
  refine zW_s rfl ?_
  refine zW_p rfl (zpnl (by decide) (show (Int32.ofInt 10).toNatClampNeg = 10 from rfl) (by omega)) ?_
  rw [show (Int32.ofInt 10).toNatClampNeg = 10 from rfl, znw_b (σ := s1) (y := 162) 20 10 10 (by rw [x1]), show zX s1 + 1 = 162 by rw [x1]]
  refine zW_p rfl (by rw [zK_na (by omega)]; exact k1) ?_
  obtain ⟨s2, e⟩ : ∃ s, s = zsQ (zna s1 162 20 10 10) 160 6 162 := ⟨_, rfl⟩
  rw [← e]
  have x2 : zX s2 = 162 := by rw [e, yX_sQ, yX_na]
  have l2 : zL s2 = zL σ + 910 := by
    have y : zL s2 = zL s1 + 10 := by rw [e, yL_sQ, zL_na]
    omega
  have k2 : zK s2 160 = 13 := by rw [e, yK_sQ, zK_na (by omega)]; exact k1
  have q2 : zQ s2 160 = zu (zu (fun _ => 0) 1 161) 6 162 := by rw [e, yQ_eQ, zQ_na (by omega), q1]
  have i2 : zI s2 160 = (zu (fun _ => 0) 5 (nI 8)) := by rw [e, yI_sQ, zI_na (by omega)]; exact i1
  have m2 : ∀ b, b ≤ 161 → b ≠ 160 → zEo b s1 s2 := by
    intro b hb hn
    rw [e]
    exact zEo_t (zEo_na (by omega)) (zEo_sQ hn)
  have v2 : zRw s2 162 20 10 := by
    rw [e]
    exact ⟨by rw [yK_sQ, zK_ne], by rw [yN_sQ, zN_ne], by rw [yA_sQ, zA_ne]⟩
  clear e
  clear x1 l1 k1 q1 i1
  refine zW_s rfl ?_
  refine zW_s rfl ?_
  refine zW_p rfl (zpnl (by decide) (show (Int32.ofInt 10).toNatClampNeg = 10 from rfl) (by omega)) ?_
  rw [show (Int32.ofInt 10).toNatClampNeg = 10 from rfl, znw_b (σ := s2) (y := 163) 20 10 10 (by rw [x2]), show zX s2 + 1 = 163 by rw [x2]]
  refine zW_p rfl (by rw [zK_na (by omega)]; exact k2) ?_
  obtain ⟨s3, e⟩ : ∃ s, s = zsQ (zna s2 163 20 10 10) 160 7 163 := ⟨_, rfl⟩
  rw [← e]
  have x3 : zX s3 = 163 := by rw [e, yX_sQ, yX_na]
  have l3 : zL s3 = zL σ + 920 := by
    have y : zL s3 = zL s2 + 10 := by rw [e, yL_sQ, zL_na]
    omega
  have k3 : zK s3 160 = 13 := by rw [e, yK_sQ, zK_na (by omega)]; exact k2
  have q3 : zQ s3 160 = zu (zu (zu (fun _ => 0) 1 161) 6 162) 7 163 := by rw [e, yQ_eQ, zQ_na (by omega), q2]
  have i3 : zI s3 160 = (zu (fun _ => 0) 5 (nI 8)) := by rw [e, yI_sQ, zI_na (by omega)]; exact i2
  have m3 : ∀ b, b ≤ 162 → b ≠ 160 → zEo b s2 s3 := by
    intro b hb hn
    rw [e]
    exact zEo_t (zEo_na (by omega)) (zEo_sQ hn)
  have v3 : zRw s3 163 20 10 := by
    rw [e]
    exact ⟨by rw [yK_sQ, zK_ne], by rw [yN_sQ, zN_ne], by rw [yA_sQ, zA_ne]⟩
  clear e
  clear x2 l2 k2 q2 i2
  refine zW_s rfl ?_
  refine zW_s rfl ?_
  refine zW_p rfl (zpnl (by decide) (show (Int32.ofInt 10).toNatClampNeg = 10 from rfl) (by omega)) ?_
  rw [show (Int32.ofInt 10).toNatClampNeg = 10 from rfl, znw_b (σ := s3) (y := 164) 20 10 10 (by rw [x3]), show zX s3 + 1 = 164 by rw [x3]]
  refine zW_p rfl (by rw [zK_na (by omega)]; exact k3) ?_
  obtain ⟨s4, e⟩ : ∃ s, s = zsQ (zna s3 164 20 10 10) 160 8 164 := ⟨_, rfl⟩
  rw [← e]
  have x4 : zX s4 = 164 := by rw [e, yX_sQ, yX_na]
  have l4 : zL s4 = zL σ + 930 := by
    have y : zL s4 = zL s3 + 10 := by rw [e, yL_sQ, zL_na]
    omega
  have k4 : zK s4 160 = 13 := by rw [e, yK_sQ, zK_na (by omega)]; exact k3
  have q4 : zQ s4 160 = zu (zu (zu (zu (fun _ => 0) 1 161) 6 162) 7 163) 8 164 := by rw [e, yQ_eQ, zQ_na (by omega), q3]
  have i4 : zI s4 160 = (zu (fun _ => 0) 5 (nI 8)) := by rw [e, yI_sQ, zI_na (by omega)]; exact i3
  have m4 : ∀ b, b ≤ 163 → b ≠ 160 → zEo b s3 s4 := by
    intro b hb hn
    rw [e]
    exact zEo_t (zEo_na (by omega)) (zEo_sQ hn)
  have v4 : zRw s4 164 20 10 := by
    rw [e]
    exact ⟨by rw [yK_sQ, zK_ne], by rw [yN_sQ, zN_ne], by rw [yA_sQ, zA_ne]⟩
  clear e
  clear x3 l3 k3 q3 i3
  refine zW_s rfl ?_
  refine zW_s rfl ?_
  refine zW_p rfl (zpnl (by decide) (show (Int32.ofInt 9).toNatClampNeg = 9 from rfl) (by omega)) ?_
  rw [show (Int32.ofInt 9).toNatClampNeg = 9 from rfl, znw_b (σ := s4) (y := 165) 20 9 9 (by rw [x4]), show zX s4 + 1 = 165 by rw [x4]]
  refine zW_p rfl (by rw [zK_na (by omega)]; exact k4) ?_
  obtain ⟨s5, e⟩ : ∃ s, s = zsQ (zna s4 165 20 9 9) 160 9 165 := ⟨_, rfl⟩
  rw [← e]
  have x5 : zX s5 = 165 := by rw [e, yX_sQ, yX_na]
  have l5 : zL s5 = zL σ + 939 := by
    have y : zL s5 = zL s4 + 9 := by rw [e, yL_sQ, zL_na]
    omega
  have k5 : zK s5 160 = 13 := by rw [e, yK_sQ, zK_na (by omega)]; exact k4
  have q5 : zQ s5 160 = zu (zu (zu (zu (zu (fun _ => 0) 1 161) 6 162) 7 163) 8 164) 9 165 := by rw [e, yQ_eQ, zQ_na (by omega), q4]
  have i5 : zI s5 160 = (zu (fun _ => 0) 5 (nI 8)) := by rw [e, yI_sQ, zI_na (by omega)]; exact i4
  have m5 : ∀ b, b ≤ 164 → b ≠ 160 → zEo b s4 s5 := by
    intro b hb hn
    rw [e]
    exact zEo_t (zEo_na (by omega)) (zEo_sQ hn)
  have v5 : zRw s5 165 20 9 := by
    rw [e]
    exact ⟨by rw [yK_sQ, zK_ne], by rw [yN_sQ, zN_ne], by rw [yA_sQ, zA_ne]⟩
  clear e
  clear x4 l4 k4 q4 i4
  refine zW_s rfl ?_
  refine zW_s rfl ?_
  refine zW_p rfl (zpnl (by decide) (show (Int32.ofInt 40).toNatClampNeg = 40 from rfl) (by omega)) ?_
  rw [show (Int32.ofInt 40).toNatClampNeg = 40 from rfl, znw_b (σ := s5) (y := 166) 20 40 40 (by rw [x5]), show zX s5 + 1 = 166 by rw [x5]]
  refine zW_p rfl (by rw [zK_na (by omega)]; exact k5) ?_
  obtain ⟨s6, e⟩ : ∃ s, s = zsQ (zna s5 166 20 40 40) 160 10 166 := ⟨_, rfl⟩
  rw [← e]
  have x6 : zX s6 = 166 := by rw [e, yX_sQ, yX_na]
  have l6 : zL s6 = zL σ + 979 := by
    have y : zL s6 = zL s5 + 40 := by rw [e, yL_sQ, zL_na]
    omega
  have k6 : zK s6 160 = 13 := by rw [e, yK_sQ, zK_na (by omega)]; exact k5
  have q6 : zQ s6 160 = zu (zu (zu (zu (zu (zu (fun _ => 0) 1 161) 6 162) 7 163) 8 164) 9 165) 10 166 := by rw [e, yQ_eQ, zQ_na (by omega), q5]
  have i6 : zI s6 160 = (zu (fun _ => 0) 5 (nI 8)) := by rw [e, yI_sQ, zI_na (by omega)]; exact i5
  have m6 : ∀ b, b ≤ 165 → b ≠ 160 → zEo b s5 s6 := by
    intro b hb hn
    rw [e]
    exact zEo_t (zEo_na (by omega)) (zEo_sQ hn)
  have v6 : zRw s6 166 20 40 := by
    rw [e]
    exact ⟨by rw [yK_sQ, zK_ne], by rw [yN_sQ, zN_ne], by rw [yA_sQ, zA_ne]⟩
  clear e
  clear x5 l5 k5 q5 i5
  refine zW_s rfl ?_
  refine zW_s rfl ?_
  refine zW_p rfl (zpnl (by decide) (show (Int32.ofInt 4).toNatClampNeg = 4 from rfl) (by omega)) ?_
  rw [show (Int32.ofInt 4).toNatClampNeg = 4 from rfl, znw_b (σ := s6) (y := 167) 20 4 4 (by rw [x6]), show zX s6 + 1 = 167 by rw [x6]]
  refine zW_p rfl (by rw [zK_na (by omega)]; exact k6) ?_
  obtain ⟨s7, e⟩ : ∃ s, s = zsQ (zna s6 167 20 4 4) 160 11 167 := ⟨_, rfl⟩
  rw [← e]
  have x7 : zX s7 = 167 := by rw [e, yX_sQ, yX_na]
  have l7 : zL s7 = zL σ + 983 := by
    have y : zL s7 = zL s6 + 4 := by rw [e, yL_sQ, zL_na]
    omega
  have k7 : zK s7 160 = 13 := by rw [e, yK_sQ, zK_na (by omega)]; exact k6
  have q7 : zQ s7 160 = zu (zu (zu (zu (zu (zu (zu (fun _ => 0) 1 161) 6 162) 7 163) 8 164) 9 165) 10 166) 11 167 := by rw [e, yQ_eQ, zQ_na (by omega), q6]
  have i7 : zI s7 160 = (zu (fun _ => 0) 5 (nI 8)) := by rw [e, yI_sQ, zI_na (by omega)]; exact i6
  have m7 : ∀ b, b ≤ 166 → b ≠ 160 → zEo b s6 s7 := by
    intro b hb hn
    rw [e]
    exact zEo_t (zEo_na (by omega)) (zEo_sQ hn)
  have v7 : zRw s7 167 20 4 := by
    rw [e]
    exact ⟨by rw [yK_sQ, zK_ne], by rw [yN_sQ, zN_ne], by rw [yA_sQ, zA_ne]⟩
  clear e
  clear x6 l6 k6 q6 i6
  refine zW_s rfl ?_
  refine zW_s rfl ?_
  refine zW_p rfl k7 ?_
  obtain ⟨s8, e⟩ : ∃ s, s = zsI s7 160 19 (Int32.ofInt (-1)) := ⟨_, rfl⟩
  rw [← e]
  have x8 : zX s8 = 167 := by rw [e, yX_sI]; exact x7
  have l8 : zL s8 = zL σ + 983 := by
    have y : zL s8 = zL s7 := by rw [e, yL_sI]
    omega
  have k8 : zK s8 160 = 13 := by rw [e, yK_sI]; exact k7
  have q8 : zQ s8 160 = (zu (zu (zu (zu (zu (zu (zu (fun _ => 0) 1 161) 6 162) 7 163) 8 164) 9 165) 10 166) 11 167) := by rw [e, yQ_sI]; exact q7
  have i8 : zI s8 160 = zu (zu (fun _ => 0) 5 (nI 8)) 19 (-1) := by rw [e, yI_eI, i7]; rfl
  have m8 : ∀ b, b ≤ 167 → b ≠ 160 → zEo b s7 s8 := by
    intro b hb hn
    rw [e]
    exact zEo_sI hn
  clear e
  clear x7 l7 k7 q7 i7
  refine zW_s rfl ?_
  refine zW_s rfl ?_
  refine zW_p rfl (zpnl (by decide) (show (Int32.ofInt 96).toNatClampNeg = 96 from rfl) (by omega)) ?_
  rw [show (Int32.ofInt 96).toNatClampNeg = 96 from rfl, znw_b (σ := s8) (y := 168) 21 96 96 (by rw [x8]), show zX s8 + 1 = 168 by rw [x8]]
  refine zW_p rfl (by rw [zK_na (by omega)]; exact k8) ?_
  obtain ⟨s9, e⟩ : ∃ s, s = zsQ (zna s8 168 21 96 96) 160 21 168 := ⟨_, rfl⟩
  rw [← e]
  have x9 : zX s9 = 168 := by rw [e, yX_sQ, yX_na]
  have l9 : zL s9 = zL σ + 1079 := by
    have y : zL s9 = zL s8 + 96 := by rw [e, yL_sQ, zL_na]
    omega
  have k9 : zK s9 160 = 13 := by rw [e, yK_sQ, zK_na (by omega)]; exact k8
  have q9 : zQ s9 160 = zu (zu (zu (zu (zu (zu (zu (zu (fun _ => 0) 1 161) 6 162) 7 163) 8 164) 9 165) 10 166) 11 167) 21 168 := by rw [e, yQ_eQ, zQ_na (by omega), q8]
  have i9 : zI s9 160 = (zu (zu (fun _ => 0) 5 (nI 8)) 19 (-1)) := by rw [e, yI_sQ, zI_na (by omega)]; exact i8
  have m9 : ∀ b, b ≤ 167 → b ≠ 160 → zEo b s8 s9 := by
    intro b hb hn
    rw [e]
    exact zEo_t (zEo_na (by omega)) (zEo_sQ hn)
  have v9 : zRw s9 168 21 96 := by
    rw [e]
    exact ⟨by rw [yK_sQ, zK_ne], by rw [yN_sQ, zN_ne], by rw [yA_sQ, zA_ne]⟩
  clear e
  clear x8 l8 k8 q8 i8
  refine zW_s rfl ?_
  refine zW_s rfl ?_
  refine zW_p rfl (zpnl (by decide) (show (Int32.ofInt 96).toNatClampNeg = 96 from rfl) (by omega)) ?_
  rw [show (Int32.ofInt 96).toNatClampNeg = 96 from rfl, znw_b (σ := s9) (y := 169) 20 96 96 (by rw [x9]), show zX s9 + 1 = 169 by rw [x9]]
  refine zW_p rfl (by rw [zK_na (by omega)]; exact k9) ?_
  obtain ⟨s10, e⟩ : ∃ s, s = zsQ (zna s9 169 20 96 96) 160 22 169 := ⟨_, rfl⟩
  rw [← e]
  have x10 : zX s10 = 169 := by rw [e, yX_sQ, yX_na]
  have l10 : zL s10 = zL σ + 1175 := by
    have y : zL s10 = zL s9 + 96 := by rw [e, yL_sQ, zL_na]
    omega
  have k10 : zK s10 160 = 13 := by rw [e, yK_sQ, zK_na (by omega)]; exact k9
  have q10 : zQ s10 160 = zu (zu (zu (zu (zu (zu (zu (zu (zu (fun _ => 0) 1 161) 6 162) 7 163) 8 164) 9 165) 10 166) 11 167) 21 168) 22 169 := by rw [e, yQ_eQ, zQ_na (by omega), q9]
  have i10 : zI s10 160 = (zu (zu (fun _ => 0) 5 (nI 8)) 19 (-1)) := by rw [e, yI_sQ, zI_na (by omega)]; exact i9
  have m10 : ∀ b, b ≤ 168 → b ≠ 160 → zEo b s9 s10 := by
    intro b hb hn
    rw [e]
    exact zEo_t (zEo_na (by omega)) (zEo_sQ hn)
  have v10 : zRw s10 169 20 96 := by
    rw [e]
    exact ⟨by rw [yK_sQ, zK_ne], by rw [yN_sQ, zN_ne], by rw [yA_sQ, zA_ne]⟩
  clear e
  clear x9 l9 k9 q9 i9
  refine zW_s rfl ?_
  refine zW_s rfl ?_
  refine zW_p rfl (zpnl (by decide) (show (Int32.ofInt 96).toNatClampNeg = 96 from rfl) (by omega)) ?_
  rw [show (Int32.ofInt 96).toNatClampNeg = 96 from rfl, znw_b (σ := s10) (y := 170) 20 96 96 (by rw [x10]), show zX s10 + 1 = 170 by rw [x10]]
  refine zW_p rfl (by rw [zK_na (by omega)]; exact k10) ?_
  obtain ⟨s11, e⟩ : ∃ s, s = zsQ (zna s10 170 20 96 96) 160 23 170 := ⟨_, rfl⟩
  rw [← e]
  have x11 : zX s11 = 170 := by rw [e, yX_sQ, yX_na]
  have l11 : zL s11 = zL σ + 1271 := by
    have y : zL s11 = zL s10 + 96 := by rw [e, yL_sQ, zL_na]
    omega
  have k11 : zK s11 160 = 13 := by rw [e, yK_sQ, zK_na (by omega)]; exact k10
  have q11 : zQ s11 160 = zu (zu (zu (zu (zu (zu (zu (zu (zu (zu (fun _ => 0) 1 161) 6 162) 7 163) 8 164) 9 165) 10 166) 11 167) 21 168) 22 169) 23 170 := by rw [e, yQ_eQ, zQ_na (by omega), q10]
  have i11 : zI s11 160 = (zu (zu (fun _ => 0) 5 (nI 8)) 19 (-1)) := by rw [e, yI_sQ, zI_na (by omega)]; exact i10
  have m11 : ∀ b, b ≤ 169 → b ≠ 160 → zEo b s10 s11 := by
    intro b hb hn
    rw [e]
    exact zEo_t (zEo_na (by omega)) (zEo_sQ hn)
  have v11 : zRw s11 170 20 96 := by
    rw [e]
    exact ⟨by rw [yK_sQ, zK_ne], by rw [yN_sQ, zN_ne], by rw [yA_sQ, zA_ne]⟩
  clear e
  clear x10 l10 k10 q10 i10
  refine zW_s rfl ?_
  refine zW_s rfl ?_
  refine zW_p rfl (zpnl (by decide) (show (Int32.ofInt 96).toNatClampNeg = 96 from rfl) (by omega)) ?_
  rw [show (Int32.ofInt 96).toNatClampNeg = 96 from rfl, znw_b (σ := s11) (y := 171) 20 96 96 (by rw [x11]), show zX s11 + 1 = 171 by rw [x11]]
  refine zW_p rfl (by rw [zK_na (by omega)]; exact k11) ?_
  obtain ⟨s12, e⟩ : ∃ s, s = zsQ (zna s11 171 20 96 96) 160 24 171 := ⟨_, rfl⟩
  rw [← e]
  have x12 : zX s12 = 171 := by rw [e, yX_sQ, yX_na]
  have l12 : zL s12 = zL σ + 1367 := by
    have y : zL s12 = zL s11 + 96 := by rw [e, yL_sQ, zL_na]
    omega
  have k12 : zK s12 160 = 13 := by rw [e, yK_sQ, zK_na (by omega)]; exact k11
  have q12 : zQ s12 160 = zu (zu (zu (zu (zu (zu (zu (zu (zu (zu (zu (fun _ => 0) 1 161) 6 162) 7 163) 8 164) 9 165) 10 166) 11 167) 21 168) 22 169) 23 170) 24 171 := by rw [e, yQ_eQ, zQ_na (by omega), q11]
  have i12 : zI s12 160 = (zu (zu (fun _ => 0) 5 (nI 8)) 19 (-1)) := by rw [e, yI_sQ, zI_na (by omega)]; exact i11
  have m12 : ∀ b, b ≤ 170 → b ≠ 160 → zEo b s11 s12 := by
    intro b hb hn
    rw [e]
    exact zEo_t (zEo_na (by omega)) (zEo_sQ hn)
  have v12 : zRw s12 171 20 96 := by
    rw [e]
    exact ⟨by rw [yK_sQ, zK_ne], by rw [yN_sQ, zN_ne], by rw [yA_sQ, zA_ne]⟩
  clear e
  clear x11 l11 k11 q11 i11
  refine zW_s rfl ?_
  refine zW_s rfl ?_
  refine zW_p rfl (zpnl (by decide) (show (Int32.ofInt 96).toNatClampNeg = 96 from rfl) (by omega)) ?_
  rw [show (Int32.ofInt 96).toNatClampNeg = 96 from rfl, znw_b (σ := s12) (y := 172) 20 96 96 (by rw [x12]), show zX s12 + 1 = 172 by rw [x12]]
  refine zW_p rfl (by rw [zK_na (by omega)]; exact k12) ?_
  obtain ⟨s13, e⟩ : ∃ s, s = zsQ (zna s12 172 20 96 96) 160 25 172 := ⟨_, rfl⟩
  rw [← e]
  have x13 : zX s13 = 172 := by rw [e, yX_sQ, yX_na]
  have l13 : zL s13 = zL σ + 1463 := by
    have y : zL s13 = zL s12 + 96 := by rw [e, yL_sQ, zL_na]
    omega
  have k13 : zK s13 160 = 13 := by rw [e, yK_sQ, zK_na (by omega)]; exact k12
  have q13 : zQ s13 160 = zu (zu (zu (zu (zu (zu (zu (zu (zu (zu (zu (zu (fun _ => 0) 1 161) 6 162) 7 163) 8 164) 9 165) 10 166) 11 167) 21 168) 22 169) 23 170) 24 171) 25 172 := by rw [e, yQ_eQ, zQ_na (by omega), q12]
  have i13 : zI s13 160 = (zu (zu (fun _ => 0) 5 (nI 8)) 19 (-1)) := by rw [e, yI_sQ, zI_na (by omega)]; exact i12
  have m13 : ∀ b, b ≤ 171 → b ≠ 160 → zEo b s12 s13 := by
    intro b hb hn
    rw [e]
    exact zEo_t (zEo_na (by omega)) (zEo_sQ hn)
  have v13 : zRw s13 172 20 96 := by
    rw [e]
    exact ⟨by rw [yK_sQ, zK_ne], by rw [yN_sQ, zN_ne], by rw [yA_sQ, zA_ne]⟩
  clear e
  clear x12 l12 k12 q12 i12
  refine zW_s rfl ?_
  refine zW_s rfl ?_
  refine zW_p rfl (zpnl (by decide) (show (Int32.ofInt 96).toNatClampNeg = 96 from rfl) (by omega)) ?_
  rw [show (Int32.ofInt 96).toNatClampNeg = 96 from rfl, znw_b (σ := s13) (y := 173) 20 96 96 (by rw [x13]), show zX s13 + 1 = 173 by rw [x13]]
  refine zW_p rfl (by rw [zK_na (by omega)]; exact k13) ?_
  obtain ⟨s14, e⟩ : ∃ s, s = zsQ (zna s13 173 20 96 96) 160 26 173 := ⟨_, rfl⟩
  rw [← e]
  have x14 : zX s14 = 173 := by rw [e, yX_sQ, yX_na]
  have l14 : zL s14 = zL σ + 1559 := by
    have y : zL s14 = zL s13 + 96 := by rw [e, yL_sQ, zL_na]
    omega
  have k14 : zK s14 160 = 13 := by rw [e, yK_sQ, zK_na (by omega)]; exact k13
  have q14 : zQ s14 160 = zu (zu (zu (zu (zu (zu (zu (zu (zu (zu (zu (zu (zu (fun _ => 0) 1 161) 6 162) 7 163) 8 164) 9 165) 10 166) 11 167) 21 168) 22 169) 23 170) 24 171) 25 172) 26 173 := by rw [e, yQ_eQ, zQ_na (by omega), q13]
  have i14 : zI s14 160 = (zu (zu (fun _ => 0) 5 (nI 8)) 19 (-1)) := by rw [e, yI_sQ, zI_na (by omega)]; exact i13
  have m14 : ∀ b, b ≤ 172 → b ≠ 160 → zEo b s13 s14 := by
    intro b hb hn
    rw [e]
    exact zEo_t (zEo_na (by omega)) (zEo_sQ hn)
  have v14 : zRw s14 173 20 96 := by
    rw [e]
    exact ⟨by rw [yK_sQ, zK_ne], by rw [yN_sQ, zN_ne], by rw [yA_sQ, zA_ne]⟩
  clear e
  clear x13 l13 k13 q13 i13
  refine zW_s rfl ?_
  refine zW_s rfl ?_
  refine zW_p rfl (zpnl (by decide) (show (Int32.ofInt 96).toNatClampNeg = 96 from rfl) (by omega)) ?_
  rw [show (Int32.ofInt 96).toNatClampNeg = 96 from rfl, znw_b (σ := s14) (y := 174) 20 96 96 (by rw [x14]), show zX s14 + 1 = 174 by rw [x14]]
  refine zW_p rfl (by rw [zK_na (by omega)]; exact k14) ?_
  obtain ⟨s15, e⟩ : ∃ s, s = zsQ (zna s14 174 20 96 96) 160 27 174 := ⟨_, rfl⟩
  rw [← e]
  have x15 : zX s15 = 174 := by rw [e, yX_sQ, yX_na]
  have l15 : zL s15 = zL σ + 1655 := by
    have y : zL s15 = zL s14 + 96 := by rw [e, yL_sQ, zL_na]
    omega
  have k15 : zK s15 160 = 13 := by rw [e, yK_sQ, zK_na (by omega)]; exact k14
  have q15 : zQ s15 160 = zu (zu (zu (zu (zu (zu (zu (zu (zu (zu (zu (zu (zu (zu (fun _ => 0) 1 161) 6 162) 7 163) 8 164) 9 165) 10 166) 11 167) 21 168) 22 169) 23 170) 24 171) 25 172) 26 173) 27 174 := by rw [e, yQ_eQ, zQ_na (by omega), q14]
  have i15 : zI s15 160 = (zu (zu (fun _ => 0) 5 (nI 8)) 19 (-1)) := by rw [e, yI_sQ, zI_na (by omega)]; exact i14
  have m15 : ∀ b, b ≤ 173 → b ≠ 160 → zEo b s14 s15 := by
    intro b hb hn
    rw [e]
    exact zEo_t (zEo_na (by omega)) (zEo_sQ hn)
  have v15 : zRw s15 174 20 96 := by
    rw [e]
    exact ⟨by rw [yK_sQ, zK_ne], by rw [yN_sQ, zN_ne], by rw [yA_sQ, zA_ne]⟩
  clear e
  clear x14 l14 k14 q14 i14
  refine zW_s rfl ?_
  refine zW_s rfl ?_
  refine zW_p rfl (zpnl (by decide) (show (Int32.ofInt 96).toNatClampNeg = 96 from rfl) (by omega)) ?_
  rw [show (Int32.ofInt 96).toNatClampNeg = 96 from rfl, znw_b (σ := s15) (y := 175) 20 96 96 (by rw [x15]), show zX s15 + 1 = 175 by rw [x15]]
  refine zW_p rfl (by rw [zK_na (by omega)]; exact k15) ?_
  obtain ⟨s16, e⟩ : ∃ s, s = zsQ (zna s15 175 20 96 96) 160 28 175 := ⟨_, rfl⟩
  rw [← e]
  have x16 : zX s16 = 175 := by rw [e, yX_sQ, yX_na]
  have l16 : zL s16 = zL σ + 1751 := by
    have y : zL s16 = zL s15 + 96 := by rw [e, yL_sQ, zL_na]
    omega
  have k16 : zK s16 160 = 13 := by rw [e, yK_sQ, zK_na (by omega)]; exact k15
  have q16 : zQ s16 160 = zu (zu (zu (zu (zu (zu (zu (zu (zu (zu (zu (zu (zu (zu (zu (fun _ => 0) 1 161) 6 162) 7 163) 8 164) 9 165) 10 166) 11 167) 21 168) 22 169) 23 170) 24 171) 25 172) 26 173) 27 174) 28 175 := by rw [e, yQ_eQ, zQ_na (by omega), q15]
  have i16 : zI s16 160 = (zu (zu (fun _ => 0) 5 (nI 8)) 19 (-1)) := by rw [e, yI_sQ, zI_na (by omega)]; exact i15
  have m16 : ∀ b, b ≤ 174 → b ≠ 160 → zEo b s15 s16 := by
    intro b hb hn
    rw [e]
    exact zEo_t (zEo_na (by omega)) (zEo_sQ hn)
  have v16 : zRw s16 175 20 96 := by
    rw [e]
    exact ⟨by rw [yK_sQ, zK_ne], by rw [yN_sQ, zN_ne], by rw [yA_sQ, zA_ne]⟩
  clear e
  clear x15 l15 k15 q15 i15
  refine zW_s rfl ?_
  refine zW_s rfl ?_
  refine zW_p rfl (zpnl (by decide) (show (Int32.ofInt 3200).toNatClampNeg = 3200 from rfl) (by omega)) ?_
  rw [show (Int32.ofInt 3200).toNatClampNeg = 3200 from rfl, znw_b (σ := s16) (y := 176) 20 3200 3200 (by rw [x16]), show zX s16 + 1 = 176 by rw [x16]]
  refine zW_p rfl (by rw [zK_na (by omega)]; exact k16) ?_
  obtain ⟨s17, e⟩ : ∃ s, s = zsQ (zna s16 176 20 3200 3200) 160 32 176 := ⟨_, rfl⟩
  rw [← e]
  have x17 : zX s17 = 176 := by rw [e, yX_sQ, yX_na]
  have l17 : zL s17 = zL σ + 4951 := by
    have y : zL s17 = zL s16 + 3200 := by rw [e, yL_sQ, zL_na]
    omega
  have k17 : zK s17 160 = 13 := by rw [e, yK_sQ, zK_na (by omega)]; exact k16
  have q17 : zQ s17 160 = zu (zu (zu (zu (zu (zu (zu (zu (zu (zu (zu (zu (zu (zu (zu (zu (fun _ => 0) 1 161) 6 162) 7 163) 8 164) 9 165) 10 166) 11 167) 21 168) 22 169) 23 170) 24 171) 25 172) 26 173) 27 174) 28 175) 32 176 := by rw [e, yQ_eQ, zQ_na (by omega), q16]
  have i17 : zI s17 160 = (zu (zu (fun _ => 0) 5 (nI 8)) 19 (-1)) := by rw [e, yI_sQ, zI_na (by omega)]; exact i16
  have m17 : ∀ b, b ≤ 175 → b ≠ 160 → zEo b s16 s17 := by
    intro b hb hn
    rw [e]
    exact zEo_t (zEo_na (by omega)) (zEo_sQ hn)
  have v17 : zRw s17 176 20 3200 := by
    rw [e]
    exact ⟨by rw [yK_sQ, zK_ne], by rw [yN_sQ, zN_ne], by rw [yA_sQ, zA_ne]⟩
  clear e
  clear x16 l16 k16 q16 i16
  refine zW_s rfl ?_
  refine zW_s rfl ?_
  refine zW_p rfl (zpnl (by decide) (show (Int32.ofInt 3200).toNatClampNeg = 3200 from rfl) (by omega)) ?_
  rw [show (Int32.ofInt 3200).toNatClampNeg = 3200 from rfl, znw_b (σ := s17) (y := 177) 20 3200 3200 (by rw [x17]), show zX s17 + 1 = 177 by rw [x17]]
  refine zW_p rfl (by rw [zK_na (by omega)]; exact k17) ?_
  obtain ⟨s18, e⟩ : ∃ s, s = zsQ (zna s17 177 20 3200 3200) 160 33 177 := ⟨_, rfl⟩
  rw [← e]
  have x18 : zX s18 = 177 := by rw [e, yX_sQ, yX_na]
  have l18 : zL s18 = zL σ + 8151 := by
    have y : zL s18 = zL s17 + 3200 := by rw [e, yL_sQ, zL_na]
    omega
  have k18 : zK s18 160 = 13 := by rw [e, yK_sQ, zK_na (by omega)]; exact k17
  have q18 : zQ s18 160 = zu (zu (zu (zu (zu (zu (zu (zu (zu (zu (zu (zu (zu (zu (zu (zu (zu (fun _ => 0) 1 161) 6 162) 7 163) 8 164) 9 165) 10 166) 11 167) 21 168) 22 169) 23 170) 24 171) 25 172) 26 173) 27 174) 28 175) 32 176) 33 177 := by rw [e, yQ_eQ, zQ_na (by omega), q17]
  have i18 : zI s18 160 = (zu (zu (fun _ => 0) 5 (nI 8)) 19 (-1)) := by rw [e, yI_sQ, zI_na (by omega)]; exact i17
  have m18 : ∀ b, b ≤ 176 → b ≠ 160 → zEo b s17 s18 := by
    intro b hb hn
    rw [e]
    exact zEo_t (zEo_na (by omega)) (zEo_sQ hn)
  have v18 : zRw s18 177 20 3200 := by
    rw [e]
    exact ⟨by rw [yK_sQ, zK_ne], by rw [yN_sQ, zN_ne], by rw [yA_sQ, zA_ne]⟩
  clear e
  clear x17 l17 k17 q17 i17
  refine zW_s rfl ?_
  refine zW_s rfl ?_
  refine zW_p rfl (zpnl (by decide) (show (Int32.ofInt 3200).toNatClampNeg = 3200 from rfl) (by omega)) ?_
  rw [show (Int32.ofInt 3200).toNatClampNeg = 3200 from rfl, znw_b (σ := s18) (y := 178) 20 3200 3200 (by rw [x18]), show zX s18 + 1 = 178 by rw [x18]]
  refine zW_p rfl (by rw [zK_na (by omega)]; exact k18) ?_
  obtain ⟨s19, e⟩ : ∃ s, s = zsQ (zna s18 178 20 3200 3200) 160 34 178 := ⟨_, rfl⟩
  rw [← e]
  have x19 : zX s19 = 178 := by rw [e, yX_sQ, yX_na]
  have l19 : zL s19 = zL σ + 11351 := by
    have y : zL s19 = zL s18 + 3200 := by rw [e, yL_sQ, zL_na]
    omega
  have k19 : zK s19 160 = 13 := by rw [e, yK_sQ, zK_na (by omega)]; exact k18
  have q19 : zQ s19 160 = zu (zu (zu (zu (zu (zu (zu (zu (zu (zu (zu (zu (zu (zu (zu (zu (zu (zu (fun _ => 0) 1 161) 6 162) 7 163) 8 164) 9 165) 10 166) 11 167) 21 168) 22 169) 23 170) 24 171) 25 172) 26 173) 27 174) 28 175) 32 176) 33 177) 34 178 := by rw [e, yQ_eQ, zQ_na (by omega), q18]
  have i19 : zI s19 160 = (zu (zu (fun _ => 0) 5 (nI 8)) 19 (-1)) := by rw [e, yI_sQ, zI_na (by omega)]; exact i18
  have m19 : ∀ b, b ≤ 177 → b ≠ 160 → zEo b s18 s19 := by
    intro b hb hn
    rw [e]
    exact zEo_t (zEo_na (by omega)) (zEo_sQ hn)
  have v19 : zRw s19 178 20 3200 := by
    rw [e]
    exact ⟨by rw [yK_sQ, zK_ne], by rw [yN_sQ, zN_ne], by rw [yA_sQ, zA_ne]⟩
  clear e
  clear x18 l18 k18 q18 i18
  refine zW_s rfl ?_
  refine zW_s rfl ?_
  refine zW_p rfl (zpnl (by decide) (show (Int32.ofInt 3200).toNatClampNeg = 3200 from rfl) (by omega)) ?_
  rw [show (Int32.ofInt 3200).toNatClampNeg = 3200 from rfl, znw_b (σ := s19) (y := 179) 20 3200 3200 (by rw [x19]), show zX s19 + 1 = 179 by rw [x19]]
  refine zW_p rfl (by rw [zK_na (by omega)]; exact k19) ?_
  obtain ⟨s20, e⟩ : ∃ s, s = zsQ (zna s19 179 20 3200 3200) 160 35 179 := ⟨_, rfl⟩
  rw [← e]
  have x20 : zX s20 = 179 := by rw [e, yX_sQ, yX_na]
  have l20 : zL s20 = zL σ + 14551 := by
    have y : zL s20 = zL s19 + 3200 := by rw [e, yL_sQ, zL_na]
    omega
  have k20 : zK s20 160 = 13 := by rw [e, yK_sQ, zK_na (by omega)]; exact k19
  have q20 : zQ s20 160 = zu (zu (zu (zu (zu (zu (zu (zu (zu (zu (zu (zu (zu (zu (zu (zu (zu (zu (zu (fun _ => 0) 1 161) 6 162) 7 163) 8 164) 9 165) 10 166) 11 167) 21 168) 22 169) 23 170) 24 171) 25 172) 26 173) 27 174) 28 175) 32 176) 33 177) 34 178) 35 179 := by rw [e, yQ_eQ, zQ_na (by omega), q19]
  have i20 : zI s20 160 = (zu (zu (fun _ => 0) 5 (nI 8)) 19 (-1)) := by rw [e, yI_sQ, zI_na (by omega)]; exact i19
  have m20 : ∀ b, b ≤ 178 → b ≠ 160 → zEo b s19 s20 := by
    intro b hb hn
    rw [e]
    exact zEo_t (zEo_na (by omega)) (zEo_sQ hn)
  have v20 : zRw s20 179 20 3200 := by
    rw [e]
    exact ⟨by rw [yK_sQ, zK_ne], by rw [yN_sQ, zN_ne], by rw [yA_sQ, zA_ne]⟩
  clear e
  clear x19 l19 k19 q19 i19
  refine zW_s rfl ?_
  refine zW_s rfl ?_
  refine zW_p rfl k20 ?_
  obtain ⟨s21, e⟩ : ∃ s, s = zsI s20 160 37 (Int32.ofInt 2) := ⟨_, rfl⟩
  rw [← e]
  have x21 : zX s21 = 179 := by rw [e, yX_sI]; exact x20
  have l21 : zL s21 = zL σ + 14551 := by
    have y : zL s21 = zL s20 := by rw [e, yL_sI]
    omega
  have k21 : zK s21 160 = 13 := by rw [e, yK_sI]; exact k20
  have q21 : zQ s21 160 = (zu (zu (zu (zu (zu (zu (zu (zu (zu (zu (zu (zu (zu (zu (zu (zu (zu (zu (zu (fun _ => 0) 1 161) 6 162) 7 163) 8 164) 9 165) 10 166) 11 167) 21 168) 22 169) 23 170) 24 171) 25 172) 26 173) 27 174) 28 175) 32 176) 33 177) 34 178) 35 179) := by rw [e, yQ_sI]; exact q20
  have i21 : zI s21 160 = zu (zu (zu (fun _ => 0) 5 (nI 8)) 19 (-1)) 37 (nI 2) := by rw [e, yI_eI, i20]; rfl
  have m21 : ∀ b, b ≤ 179 → b ≠ 160 → zEo b s20 s21 := by
    intro b hb hn
    rw [e]
    exact zEo_sI hn
  clear e
  clear x20 l20 k20 q20 i20
  refine zW_s rfl ?_
  refine zW_s rfl ?_
  refine zW_p rfl k21 ?_
  obtain ⟨s22, e⟩ : ∃ s, s = zsI s21 160 38 (Int32.ofInt (-1)) := ⟨_, rfl⟩
  rw [← e]
  have x22 : zX s22 = 179 := by rw [e, yX_sI]; exact x21
  have l22 : zL s22 = zL σ + 14551 := by
    have y : zL s22 = zL s21 := by rw [e, yL_sI]
    omega
  have k22 : zK s22 160 = 13 := by rw [e, yK_sI]; exact k21
  have q22 : zQ s22 160 = (zu (zu (zu (zu (zu (zu (zu (zu (zu (zu (zu (zu (zu (zu (zu (zu (zu (zu (zu (fun _ => 0) 1 161) 6 162) 7 163) 8 164) 9 165) 10 166) 11 167) 21 168) 22 169) 23 170) 24 171) 25 172) 26 173) 27 174) 28 175) 32 176) 33 177) 34 178) 35 179) := by rw [e, yQ_sI]; exact q21
  have i22 : zI s22 160 = zu (zu (zu (zu (fun _ => 0) 5 (nI 8)) 19 (-1)) 37 (nI 2)) 38 (-1) := by rw [e, yI_eI, i21]; rfl
  have m22 : ∀ b, b ≤ 179 → b ≠ 160 → zEo b s21 s22 := by
    intro b hb hn
    rw [e]
    exact zEo_sI hn
  clear e
  clear x21 l21 k21 q21 i21
  refine zW_s rfl ?_
  refine zW_s rfl ?_
  refine zW_p rfl (zpnl (by decide) (show (Int32.ofInt 10).toNatClampNeg = 10 from rfl) (by omega)) ?_
  rw [show (Int32.ofInt 10).toNatClampNeg = 10 from rfl, znw_b (σ := s22) (y := 180) 20 10 10 (by rw [x22]), show zX s22 + 1 = 180 by rw [x22]]
  refine zW_p rfl (by rw [zK_na (by omega)]; exact k22) ?_
  obtain ⟨s23, e⟩ : ∃ s, s = zsQ (zna s22 180 20 10 10) 160 40 180 := ⟨_, rfl⟩
  rw [← e]
  have x23 : zX s23 = 180 := by rw [e, yX_sQ, yX_na]
  have l23 : zL s23 = zL σ + 14561 := by
    have y : zL s23 = zL s22 + 10 := by rw [e, yL_sQ, zL_na]
    omega
  have k23 : zK s23 160 = 13 := by rw [e, yK_sQ, zK_na (by omega)]; exact k22
  have q23 : zQ s23 160 = zu (zu (zu (zu (zu (zu (zu (zu (zu (zu (zu (zu (zu (zu (zu (zu (zu (zu (zu (zu (fun _ => 0) 1 161) 6 162) 7 163) 8 164) 9 165) 10 166) 11 167) 21 168) 22 169) 23 170) 24 171) 25 172) 26 173) 27 174) 28 175) 32 176) 33 177) 34 178) 35 179) 40 180 := by rw [e, yQ_eQ, zQ_na (by omega), q22]
  have i23 : zI s23 160 = (zu (zu (zu (zu (fun _ => 0) 5 (nI 8)) 19 (-1)) 37 (nI 2)) 38 (-1)) := by rw [e, yI_sQ, zI_na (by omega)]; exact i22
  have m23 : ∀ b, b ≤ 179 → b ≠ 160 → zEo b s22 s23 := by
    intro b hb hn
    rw [e]
    exact zEo_t (zEo_na (by omega)) (zEo_sQ hn)
  have v23 : zRw s23 180 20 10 := by
    rw [e]
    exact ⟨by rw [yK_sQ, zK_ne], by rw [yN_sQ, zN_ne], by rw [yA_sQ, zA_ne]⟩
  clear e
  clear x22 l22 k22 q22 i22
  refine zW_s rfl ?_
  refine zW_s rfl ?_
  refine zW_p rfl (zpnl (by decide) (show (Int32.ofInt 10).toNatClampNeg = 10 from rfl) (by omega)) ?_
  rw [show (Int32.ofInt 10).toNatClampNeg = 10 from rfl, znw_b (σ := s23) (y := 181) 20 10 10 (by rw [x23]), show zX s23 + 1 = 181 by rw [x23]]
  refine zW_p rfl (by rw [zK_na (by omega)]; exact k23) ?_
  obtain ⟨s24, e⟩ : ∃ s, s = zsQ (zna s23 181 20 10 10) 160 41 181 := ⟨_, rfl⟩
  rw [← e]
  have x24 : zX s24 = 181 := by rw [e, yX_sQ, yX_na]
  have l24 : zL s24 = zL σ + 14571 := by
    have y : zL s24 = zL s23 + 10 := by rw [e, yL_sQ, zL_na]
    omega
  have k24 : zK s24 160 = 13 := by rw [e, yK_sQ, zK_na (by omega)]; exact k23
  have q24 : zQ s24 160 = zu (zu (zu (zu (zu (zu (zu (zu (zu (zu (zu (zu (zu (zu (zu (zu (zu (zu (zu (zu (zu (fun _ => 0) 1 161) 6 162) 7 163) 8 164) 9 165) 10 166) 11 167) 21 168) 22 169) 23 170) 24 171) 25 172) 26 173) 27 174) 28 175) 32 176) 33 177) 34 178) 35 179) 40 180) 41 181 := by rw [e, yQ_eQ, zQ_na (by omega), q23]
  have i24 : zI s24 160 = (zu (zu (zu (zu (fun _ => 0) 5 (nI 8)) 19 (-1)) 37 (nI 2)) 38 (-1)) := by rw [e, yI_sQ, zI_na (by omega)]; exact i23
  have m24 : ∀ b, b ≤ 180 → b ≠ 160 → zEo b s23 s24 := by
    intro b hb hn
    rw [e]
    exact zEo_t (zEo_na (by omega)) (zEo_sQ hn)
  have v24 : zRw s24 181 20 10 := by
    rw [e]
    exact ⟨by rw [yK_sQ, zK_ne], by rw [yN_sQ, zN_ne], by rw [yA_sQ, zA_ne]⟩
  clear e
  clear x23 l23 k23 q23 i23
  refine zW_s rfl ?_
  refine zW_s rfl ?_
  refine zW_p rfl (zpnl (by decide) (show (Int32.ofInt 36012).toNatClampNeg = 36012 from rfl) (by omega)) ?_
  rw [show (Int32.ofInt 36012).toNatClampNeg = 36012 from rfl, znw_b (σ := s24) (y := 182) 21 36012 36012 (by rw [x24]), show zX s24 + 1 = 182 by rw [x24]]
  refine zW_p rfl (by rw [zK_na (by omega)]; exact k24) ?_
  obtain ⟨s25, e⟩ : ∃ s, s = zsQ (zna s24 182 21 36012 36012) 160 42 182 := ⟨_, rfl⟩
  rw [← e]
  have x25 : zX s25 = 182 := by rw [e, yX_sQ, yX_na]
  have l25 : zL s25 = zL σ + 50583 := by
    have y : zL s25 = zL s24 + 36012 := by rw [e, yL_sQ, zL_na]
    omega
  have k25 : zK s25 160 = 13 := by rw [e, yK_sQ, zK_na (by omega)]; exact k24
  have q25 : zQ s25 160 = zu (zu (zu (zu (zu (zu (zu (zu (zu (zu (zu (zu (zu (zu (zu (zu (zu (zu (zu (zu (zu (zu (fun _ => 0) 1 161) 6 162) 7 163) 8 164) 9 165) 10 166) 11 167) 21 168) 22 169) 23 170) 24 171) 25 172) 26 173) 27 174) 28 175) 32 176) 33 177) 34 178) 35 179) 40 180) 41 181) 42 182 := by rw [e, yQ_eQ, zQ_na (by omega), q24]
  have i25 : zI s25 160 = (zu (zu (zu (zu (fun _ => 0) 5 (nI 8)) 19 (-1)) 37 (nI 2)) 38 (-1)) := by rw [e, yI_sQ, zI_na (by omega)]; exact i24
  have m25 : ∀ b, b ≤ 181 → b ≠ 160 → zEo b s24 s25 := by
    intro b hb hn
    rw [e]
    exact zEo_t (zEo_na (by omega)) (zEo_sQ hn)
  have v25 : zRw s25 182 21 36012 := by
    rw [e]
    exact ⟨by rw [yK_sQ, zK_ne], by rw [yN_sQ, zN_ne], by rw [yA_sQ, zA_ne]⟩
  clear e
  clear x24 l24 k24 q24 i24
  refine zW_s rfl ?_
  refine zW_s rfl ?_
  refine zW_p rfl (zpnl (by decide) (show (Int32.ofInt 36012).toNatClampNeg = 36012 from rfl) (by omega)) ?_
  rw [show (Int32.ofInt 36012).toNatClampNeg = 36012 from rfl, znw_b (σ := s25) (y := 183) 21 36012 36012 (by rw [x25]), show zX s25 + 1 = 183 by rw [x25]]
  refine zW_p rfl (by rw [zK_na (by omega)]; exact k25) ?_
  obtain ⟨s26, e⟩ : ∃ s, s = zsQ (zna s25 183 21 36012 36012) 160 43 183 := ⟨_, rfl⟩
  rw [← e]
  have x26 : zX s26 = 183 := by rw [e, yX_sQ, yX_na]
  have l26 : zL s26 = zL σ + 86595 := by
    have y : zL s26 = zL s25 + 36012 := by rw [e, yL_sQ, zL_na]
    omega
  have k26 : zK s26 160 = 13 := by rw [e, yK_sQ, zK_na (by omega)]; exact k25
  have q26 : zQ s26 160 = zu (zu (zu (zu (zu (zu (zu (zu (zu (zu (zu (zu (zu (zu (zu (zu (zu (zu (zu (zu (zu (zu (zu (fun _ => 0) 1 161) 6 162) 7 163) 8 164) 9 165) 10 166) 11 167) 21 168) 22 169) 23 170) 24 171) 25 172) 26 173) 27 174) 28 175) 32 176) 33 177) 34 178) 35 179) 40 180) 41 181) 42 182) 43 183 := by rw [e, yQ_eQ, zQ_na (by omega), q25]
  have i26 : zI s26 160 = (zu (zu (zu (zu (fun _ => 0) 5 (nI 8)) 19 (-1)) 37 (nI 2)) 38 (-1)) := by rw [e, yI_sQ, zI_na (by omega)]; exact i25
  have m26 : ∀ b, b ≤ 182 → b ≠ 160 → zEo b s25 s26 := by
    intro b hb hn
    rw [e]
    exact zEo_t (zEo_na (by omega)) (zEo_sQ hn)
  have v26 : zRw s26 183 21 36012 := by
    rw [e]
    exact ⟨by rw [yK_sQ, zK_ne], by rw [yN_sQ, zN_ne], by rw [yA_sQ, zA_ne]⟩
  clear e
  clear x25 l25 k25 q25 i25
  refine zW_s rfl ?_
  refine zW_s rfl ?_
  refine zW_p rfl (zpnl (by decide) (show (Int32.ofInt 12).toNatClampNeg = 12 from rfl) (by omega)) ?_
  rw [show (Int32.ofInt 12).toNatClampNeg = 12 from rfl, znw_b (σ := s26) (y := 184) 20 12 12 (by rw [x26]), show zX s26 + 1 = 184 by rw [x26]]
  refine zW_p rfl (by rw [zK_na (by omega)]; exact k26) ?_
  obtain ⟨s27, e⟩ : ∃ s, s = zsQ (zna s26 184 20 12 12) 160 44 184 := ⟨_, rfl⟩
  rw [← e]
  have x27 : zX s27 = 184 := by rw [e, yX_sQ, yX_na]
  have l27 : zL s27 = zL σ + 86607 := by
    have y : zL s27 = zL s26 + 12 := by rw [e, yL_sQ, zL_na]
    omega
  have k27 : zK s27 160 = 13 := by rw [e, yK_sQ, zK_na (by omega)]; exact k26
  have q27 : zQ s27 160 = zu (zu (zu (zu (zu (zu (zu (zu (zu (zu (zu (zu (zu (zu (zu (zu (zu (zu (zu (zu (zu (zu (zu (zu (fun _ => 0) 1 161) 6 162) 7 163) 8 164) 9 165) 10 166) 11 167) 21 168) 22 169) 23 170) 24 171) 25 172) 26 173) 27 174) 28 175) 32 176) 33 177) 34 178) 35 179) 40 180) 41 181) 42 182) 43 183) 44 184 := by rw [e, yQ_eQ, zQ_na (by omega), q26]
  have i27 : zI s27 160 = (zu (zu (zu (zu (fun _ => 0) 5 (nI 8)) 19 (-1)) 37 (nI 2)) 38 (-1)) := by rw [e, yI_sQ, zI_na (by omega)]; exact i26
  have m27 : ∀ b, b ≤ 183 → b ≠ 160 → zEo b s26 s27 := by
    intro b hb hn
    rw [e]
    exact zEo_t (zEo_na (by omega)) (zEo_sQ hn)
  have v27 : zRw s27 184 20 12 := by
    rw [e]
    exact ⟨by rw [yK_sQ, zK_ne], by rw [yN_sQ, zN_ne], by rw [yA_sQ, zA_ne]⟩
  clear e
  clear x26 l26 k26 q26 i26
  refine zW_s rfl ?_
  refine zW_s rfl ?_
  refine zW_p rfl (zpnl (by decide) (show (Int32.ofInt 8192).toNatClampNeg = 8192 from rfl) (by omega)) ?_
  rw [show (Int32.ofInt 8192).toNatClampNeg = 8192 from rfl, znw_b (σ := s27) (y := 185) 20 8192 8192 (by rw [x27]), show zX s27 + 1 = 185 by rw [x27]]
  refine zW_p rfl (by rw [zK_na (by omega)]; exact k27) ?_
  obtain ⟨s28, e⟩ : ∃ s, s = zsQ (zna s27 185 20 8192 8192) 160 45 185 := ⟨_, rfl⟩
  rw [← e]
  have x28 : zX s28 = 185 := by rw [e, yX_sQ, yX_na]
  have l28 : zL s28 = zL σ + 94799 := by
    have y : zL s28 = zL s27 + 8192 := by rw [e, yL_sQ, zL_na]
    omega
  have k28 : zK s28 160 = 13 := by rw [e, yK_sQ, zK_na (by omega)]; exact k27
  have q28 : zQ s28 160 = zu (zu (zu (zu (zu (zu (zu (zu (zu (zu (zu (zu (zu (zu (zu (zu (zu (zu (zu (zu (zu (zu (zu (zu (zu (fun _ => 0) 1 161) 6 162) 7 163) 8 164) 9 165) 10 166) 11 167) 21 168) 22 169) 23 170) 24 171) 25 172) 26 173) 27 174) 28 175) 32 176) 33 177) 34 178) 35 179) 40 180) 41 181) 42 182) 43 183) 44 184) 45 185 := by rw [e, yQ_eQ, zQ_na (by omega), q27]
  have i28 : zI s28 160 = (zu (zu (zu (zu (fun _ => 0) 5 (nI 8)) 19 (-1)) 37 (nI 2)) 38 (-1)) := by rw [e, yI_sQ, zI_na (by omega)]; exact i27
  have m28 : ∀ b, b ≤ 184 → b ≠ 160 → zEo b s27 s28 := by
    intro b hb hn
    rw [e]
    exact zEo_t (zEo_na (by omega)) (zEo_sQ hn)
  have v28 : zRw s28 185 20 8192 := by
    rw [e]
    exact ⟨by rw [yK_sQ, zK_ne], by rw [yN_sQ, zN_ne], by rw [yA_sQ, zA_ne]⟩
  clear e
  clear x27 l27 k27 q27 i27
  refine zW_s rfl ?_
  refine zW_s rfl ?_
  refine zW_p rfl (zpnl (by decide) (show (Int32.ofInt 9).toNatClampNeg = 9 from rfl) (by omega)) ?_
  rw [show (Int32.ofInt 9).toNatClampNeg = 9 from rfl, znw_b (σ := s28) (y := 186) 20 9 9 (by rw [x28]), show zX s28 + 1 = 186 by rw [x28]]
  refine zW_p rfl (by rw [zK_na (by omega)]; exact k28) ?_
  obtain ⟨s29, e⟩ : ∃ s, s = zsQ (zna s28 186 20 9 9) 160 62 186 := ⟨_, rfl⟩
  rw [← e]
  have x29 : zX s29 = 186 := by rw [e, yX_sQ, yX_na]
  have l29 : zL s29 = zL σ + 94808 := by
    have y : zL s29 = zL s28 + 9 := by rw [e, yL_sQ, zL_na]
    omega
  have k29 : zK s29 160 = 13 := by rw [e, yK_sQ, zK_na (by omega)]; exact k28
  have q29 : zQ s29 160 = zu (zu (zu (zu (zu (zu (zu (zu (zu (zu (zu (zu (zu (zu (zu (zu (zu (zu (zu (zu (zu (zu (zu (zu (zu (zu (fun _ => 0) 1 161) 6 162) 7 163) 8 164) 9 165) 10 166) 11 167) 21 168) 22 169) 23 170) 24 171) 25 172) 26 173) 27 174) 28 175) 32 176) 33 177) 34 178) 35 179) 40 180) 41 181) 42 182) 43 183) 44 184) 45 185) 62 186 := by rw [e, yQ_eQ, zQ_na (by omega), q28]
  have i29 : zI s29 160 = (zu (zu (zu (zu (fun _ => 0) 5 (nI 8)) 19 (-1)) 37 (nI 2)) 38 (-1)) := by rw [e, yI_sQ, zI_na (by omega)]; exact i28
  have m29 : ∀ b, b ≤ 185 → b ≠ 160 → zEo b s28 s29 := by
    intro b hb hn
    rw [e]
    exact zEo_t (zEo_na (by omega)) (zEo_sQ hn)
  have v29 : zRw s29 186 20 9 := by
    rw [e]
    exact ⟨by rw [yK_sQ, zK_ne], by rw [yN_sQ, zN_ne], by rw [yA_sQ, zA_ne]⟩
  clear e
  clear x28 l28 k28 q28 i28
  have n29 : ∀ b, b ≤ 186 → b ≠ 160 → zEo b s29 s29 := fun b _ _ => zEo_r
  have n28 : ∀ b, b ≤ 185 → b ≠ 160 → zEo b s28 s29 := fun b hb hn => zEo_t (m29 b hb hn) (n29 b (by omega) hn)
  have n27 : ∀ b, b ≤ 184 → b ≠ 160 → zEo b s27 s29 := fun b hb hn => zEo_t (m28 b hb hn) (n28 b (by omega) hn)
  have n26 : ∀ b, b ≤ 183 → b ≠ 160 → zEo b s26 s29 := fun b hb hn => zEo_t (m27 b hb hn) (n27 b (by omega) hn)
  have n25 : ∀ b, b ≤ 182 → b ≠ 160 → zEo b s25 s29 := fun b hb hn => zEo_t (m26 b hb hn) (n26 b (by omega) hn)
  have n24 : ∀ b, b ≤ 181 → b ≠ 160 → zEo b s24 s29 := fun b hb hn => zEo_t (m25 b hb hn) (n25 b (by omega) hn)
  have n23 : ∀ b, b ≤ 180 → b ≠ 160 → zEo b s23 s29 := fun b hb hn => zEo_t (m24 b hb hn) (n24 b (by omega) hn)
  have n22 : ∀ b, b ≤ 179 → b ≠ 160 → zEo b s22 s29 := fun b hb hn => zEo_t (m23 b hb hn) (n23 b (by omega) hn)
  have n21 : ∀ b, b ≤ 179 → b ≠ 160 → zEo b s21 s29 := fun b hb hn => zEo_t (m22 b hb hn) (n22 b (by omega) hn)
  have n20 : ∀ b, b ≤ 179 → b ≠ 160 → zEo b s20 s29 := fun b hb hn => zEo_t (m21 b hb hn) (n21 b (by omega) hn)
  have n19 : ∀ b, b ≤ 178 → b ≠ 160 → zEo b s19 s29 := fun b hb hn => zEo_t (m20 b hb hn) (n20 b (by omega) hn)
  have n18 : ∀ b, b ≤ 177 → b ≠ 160 → zEo b s18 s29 := fun b hb hn => zEo_t (m19 b hb hn) (n19 b (by omega) hn)
  have n17 : ∀ b, b ≤ 176 → b ≠ 160 → zEo b s17 s29 := fun b hb hn => zEo_t (m18 b hb hn) (n18 b (by omega) hn)
  have n16 : ∀ b, b ≤ 175 → b ≠ 160 → zEo b s16 s29 := fun b hb hn => zEo_t (m17 b hb hn) (n17 b (by omega) hn)
  have n15 : ∀ b, b ≤ 174 → b ≠ 160 → zEo b s15 s29 := fun b hb hn => zEo_t (m16 b hb hn) (n16 b (by omega) hn)
  have n14 : ∀ b, b ≤ 173 → b ≠ 160 → zEo b s14 s29 := fun b hb hn => zEo_t (m15 b hb hn) (n15 b (by omega) hn)
  have n13 : ∀ b, b ≤ 172 → b ≠ 160 → zEo b s13 s29 := fun b hb hn => zEo_t (m14 b hb hn) (n14 b (by omega) hn)
  have n12 : ∀ b, b ≤ 171 → b ≠ 160 → zEo b s12 s29 := fun b hb hn => zEo_t (m13 b hb hn) (n13 b (by omega) hn)
  have n11 : ∀ b, b ≤ 170 → b ≠ 160 → zEo b s11 s29 := fun b hb hn => zEo_t (m12 b hb hn) (n12 b (by omega) hn)
  have n10 : ∀ b, b ≤ 169 → b ≠ 160 → zEo b s10 s29 := fun b hb hn => zEo_t (m11 b hb hn) (n11 b (by omega) hn)
  have n9 : ∀ b, b ≤ 168 → b ≠ 160 → zEo b s9 s29 := fun b hb hn => zEo_t (m10 b hb hn) (n10 b (by omega) hn)
  have n8 : ∀ b, b ≤ 167 → b ≠ 160 → zEo b s8 s29 := fun b hb hn => zEo_t (m9 b hb hn) (n9 b (by omega) hn)
  have n7 : ∀ b, b ≤ 167 → b ≠ 160 → zEo b s7 s29 := fun b hb hn => zEo_t (m8 b hb hn) (n8 b (by omega) hn)
  have n6 : ∀ b, b ≤ 166 → b ≠ 160 → zEo b s6 s29 := fun b hb hn => zEo_t (m7 b hb hn) (n7 b (by omega) hn)
  have n5 : ∀ b, b ≤ 165 → b ≠ 160 → zEo b s5 s29 := fun b hb hn => zEo_t (m6 b hb hn) (n6 b (by omega) hn)
  have n4 : ∀ b, b ≤ 164 → b ≠ 160 → zEo b s4 s29 := fun b hb hn => zEo_t (m5 b hb hn) (n5 b (by omega) hn)
  have n3 : ∀ b, b ≤ 163 → b ≠ 160 → zEo b s3 s29 := fun b hb hn => zEo_t (m4 b hb hn) (n4 b (by omega) hn)
  have n2 : ∀ b, b ≤ 162 → b ≠ 160 → zEo b s2 s29 := fun b hb hn => zEo_t (m3 b hb hn) (n3 b (by omega) hn)
  have n1 : ∀ b, b ≤ 161 → b ≠ 160 → zEo b s1 s29 := fun b hb hn => zEo_t (m2 b hb hn) (n2 b (by omega) hn)
  have n0 : ∀ b, b ≤ 161 → b ≠ 160 → zEo b s0 s29 := fun b hb hn => zEo_t (m1 b hb hn) (n1 b (by omega) hn)
  have nn : ∀ b, b < 160 → zEo b σ s29 := fun b hb => zEo_t (m0 b (by omega) (by omega)) (n0 b (by omega) (by omega))
  have u161 : zRw s29 161 22 900 := zRw_e (n0 161 (by omega) (by omega)) v0
  have u162 : zRw s29 162 20 10 := zRw_e (n2 162 (by omega) (by omega)) v2
  have u163 : zRw s29 163 20 10 := zRw_e (n3 163 (by omega) (by omega)) v3
  have u164 : zRw s29 164 20 10 := zRw_e (n4 164 (by omega) (by omega)) v4
  have u165 : zRw s29 165 20 9 := zRw_e (n5 165 (by omega) (by omega)) v5
  have u166 : zRw s29 166 20 40 := zRw_e (n6 166 (by omega) (by omega)) v6
  have u167 : zRw s29 167 20 4 := zRw_e (n7 167 (by omega) (by omega)) v7
  have u168 : zRw s29 168 21 96 := zRw_e (n9 168 (by omega) (by omega)) v9
  have u169 : zRw s29 169 20 96 := zRw_e (n10 169 (by omega) (by omega)) v10
  have u170 : zRw s29 170 20 96 := zRw_e (n11 170 (by omega) (by omega)) v11
  have u171 : zRw s29 171 20 96 := zRw_e (n12 171 (by omega) (by omega)) v12
  have u172 : zRw s29 172 20 96 := zRw_e (n13 172 (by omega) (by omega)) v13
  have u173 : zRw s29 173 20 96 := zRw_e (n14 173 (by omega) (by omega)) v14
  have u174 : zRw s29 174 20 96 := zRw_e (n15 174 (by omega) (by omega)) v15
  have u175 : zRw s29 175 20 96 := zRw_e (n16 175 (by omega) (by omega)) v16
  have u176 : zRw s29 176 20 3200 := zRw_e (n17 176 (by omega) (by omega)) v17
  have u177 : zRw s29 177 20 3200 := zRw_e (n18 177 (by omega) (by omega)) v18
  have u178 : zRw s29 178 20 3200 := zRw_e (n19 178 (by omega) (by omega)) v19
  have u179 : zRw s29 179 20 3200 := zRw_e (n20 179 (by omega) (by omega)) v20
  have u180 : zRw s29 180 20 10 := zRw_e (n23 180 (by omega) (by omega)) v23
  have u181 : zRw s29 181 20 10 := zRw_e (n24 181 (by omega) (by omega)) v24
  have u182 : zRw s29 182 21 36012 := zRw_e (n25 182 (by omega) (by omega)) v25
  have u183 : zRw s29 183 21 36012 := zRw_e (n26 183 (by omega) (by omega)) v26
  have u184 : zRw s29 184 20 12 := zRw_e (n27 184 (by omega) (by omega)) v27
  have u185 : zRw s29 185 20 8192 := zRw_e (n28 185 (by omega) (by omega)) v28
  have u186 : zRw s29 186 20 9 := zRw_e (n29 186 (by omega) (by omega)) v29
  clear n0 n1 n2 n3 n4 n5 n6 n7 n8 n9 n10 n11 n12 n13 n14 n15 n16 n17 n18 n19 n20 n21 n22 n23 n24 n25 n26 n27 n28 n29 m0 m1 m2 m3 m4 m5 m6 m7 m8 m9 m10 m11 m12 m13 m14 m15 m16 m17 m18 m19 m20 m21 m22 m23 m24 m25 m26 m27 m28 m29 v0 v2 v3 v4 v5 v6 v7 v9 v10 v11 v12 v13 v14 v15 v16 v17 v18 v19 v20 v23 v24 v25 v26 v27 v28 v29
  have hM : zMb s29 := by
    unfold zMb
    rw [q29]
    exact ⟨k29, rfl, u161.1, u161.2.1, rfl, u162.1, u162.2.1, rfl, u163.1, u163.2.1, rfl, u164.1, u164.2.1, rfl, u165.1, u165.2.1, rfl, u166.1, u166.2.1, rfl, u167.1, u167.2.1, rfl, u168.1, u168.2.1, rfl, u169.1, u169.2.1, rfl, u170.1, u170.2.1, rfl, u171.1, u171.2.1, rfl, u172.1, u172.2.1, rfl, u173.1, u173.2.1, rfl, u174.1, u174.2.1, rfl, u175.1, u175.2.1, rfl, u176.1, u176.2.1, rfl, u177.1, u177.2.1, rfl, u178.1, u178.2.1, rfl, u179.1, u179.2.1, rfl, u180.1, u180.2.1, rfl, u181.1, u181.2.1, rfl, u182.1, u182.2.1, rfl, u183.1, u183.2.1, rfl, u184.1, u184.2.1, rfl, u185.1, u185.2.1, rfl, u186.1, u186.2.1⟩
  refine zW_s rfl ?_
  refine zW_c rfl k29 ?_
  have hD0 : zDR s29 (zfrD 1 (fun _ => 0, fun _ => 0, fun _ => 0)) 8 := by
    refine ⟨by rw [i29]; rfl, fun i _ => ?_, fun i _ => ?_, fun i _ => ?_⟩
    · rw [u162.2.2]
      show (0 : Int32) = nI (if 1 ≤ i ∧ i < 1 then i else 0)
      rw [if_neg (by omega)]; rfl
    · rw [u163.2.2]
      show (0 : Int32) = nI (if 1 ≤ i ∧ i < 1 then (i - 1) % 4 else 0)
      rw [if_neg (by omega)]; rfl
    · rw [u164.2.2]
      show (0 : Int32) = nI (if 1 ≤ i ∧ i < 1 then (i - 1) % 2 else 0)
      rw [if_neg (by omega)]; rfl
  refine b132 (l_fresh (D := (fun _ => 0, fun _ => 0, fun _ => 0)) (n := 8) hM (fun τ g1 g2 g3 g4 g5 g6 => ?_) 9 1 _ (by omega) (by omega) (zFm_r _ _ _ _) hD0 (fun i hi => by omega))
  refine zW_r rfl trivial ?_
  have F1 : zFr 160 187 s29 τ := zFm_fr g1 (fun a ha => by unfold zAcd at ha; omega)
  have J : ∀ i, ¬ zJcd i → zI τ 160 i = (zu (zu (zu (zu (fun _ => 0) 5 (nI 8)) 19 (-1)) 37 (nI 2)) 38 (-1)) i := fun i hi => by rw [g1.2.2.2.2.2.2.2.2.1 i hi, i29]
  refine hQ τ (by rw [F1.2.2.1]; exact x29) (by rw [F1.2.2.2.1]; exact l29) (fun b hb => zEo_t (nn b hb) (zEo_fr F1 (by omega))) ?_
  refine ⟨0, 2, zMb_m g1 hM, ⟨⟨Nat.zero_le _, fun i hi => absurd hi (Nat.not_lt_zero i), fun c hc => absurd hc List.not_mem_nil⟩, ?_⟩, ⟨g2, fun i hi => ?_⟩, ⟨?_, by omega, ?_, Nat.zero_le _, fun k hk => absurd hk (Nat.not_lt_zero k)⟩, ⟨?_, Or.inl rfl, Or.inl ⟨?_, rfl⟩⟩, ?_, ⟨g6, g5⟩, g4⟩
  · rw [J 2 (by unfold zJcd; omega)]; rfl
  · show zA τ 165 i = nI (zsR ((zrw1 8).getD i 0))
    have hi' : i < 8 := hi
    rw [g3 i (by omega), zrw1_g hi', zsR_9 i (by omega)]
  · rw [J 29 (by unfold zJcd; omega)]; rfl
  · rw [J 30 (by unfold zJcd; omega)]; rfl
  · rw [J 37 (by unfold zJcd; omega)]; rfl
  · rw [J 38 (by unfold zJcd; omega)]; rfl
  · rw [J 16 (by unfold zJcd; omega)]; rfl
