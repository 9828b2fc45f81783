/-! Deck -/
theorem g9 {d : Nat} {σ : zH} (h : zNo σ 4 2) {Q : Option Value → zH → Prop} (hQ : ∀ τ, (∀ b, b < 4 → zEo b σ τ) → zX τ = 8 → zL τ = zL σ + 57 → zc4 τ 8 (zfrD 10 (fun _ => 0, fun _ => 0, fun _ => 0)) (zrw1 8) → Q none τ) : zM (d + 3) 9 [.ref 4] σ Q := by
  obtain ⟨h1, h2, h3, h4, h5⟩ := h
  unfold zM
  refine zW_s rfl ?_
  refine zW_p rfl (by rw [h2]; decide) ?_
  refine zW_s rfl ?_
  refine zW_s rfl ?_
  refine zW_p rfl (zpnl (by decide) (show (Int32.ofInt 16).toNatClampNeg = 16 from rfl) (by omega)) ?_
  rw [show (Int32.ofInt 16).toNatClampNeg = 16 from rfl, znw_b (σ := σ) (y := 5) 20 16 16 (by rw [h1]), show zX σ + 1 = 5 by rw [h1]]
  refine zW_p rfl (by rw [zK_na (by omega)]; exact h2) ?_
  obtain ⟨s0, e0⟩ : ∃ s0, s0 = zsQ (zna σ 5 20 16 16) 4 0 5 := ⟨_, rfl⟩
  rw [← e0]
  have x0 : zX s0 = 5 := by rw [e0, yX_sQ, yX_na]
  have k0 : zK s0 4 = 2 := by rw [e0, yK_sQ, zK_na (by omega)]; exact h2
  refine zW_s rfl ?_
  refine zW_s rfl ?_
  refine zW_p rfl (zpnl (by decide) (show (Int32.ofInt 16).toNatClampNeg = 16 from rfl) (by omega)) ?_
  rw [show (Int32.ofInt 16).toNatClampNeg = 16 from rfl, znw_b (σ := s0) (y := 6) 20 16 16 (by rw [x0]), show zX s0 + 1 = 6 by rw [x0]]
  refine zW_p rfl (by rw [zK_na (by omega)]; exact k0) ?_
  obtain ⟨s1, e1⟩ : ∃ s1, s1 = zsQ (zna s0 6 20 16 16) 4 1 6 := ⟨_, rfl⟩
  rw [← e1]
  have x1 : zX s1 = 6 := by rw [e1, yX_sQ, yX_na]
  have k1 : zK s1 4 = 2 := by rw [e1, yK_sQ, zK_na (by omega)]; exact k0
  refine zW_s rfl ?_
  refine zW_s rfl ?_
  refine zW_p rfl (zpnl (by decide) (show (Int32.ofInt 16).toNatClampNeg = 16 from rfl) (by omega)) ?_
  rw [show (Int32.ofInt 16).toNatClampNeg = 16 from rfl, znw_b (σ := s1) (y := 7) 20 16 16 (by rw [x1]), show zX s1 + 1 = 7 by rw [x1]]
  refine zW_p rfl (by rw [zK_na (by omega)]; exact k1) ?_
  obtain ⟨s2, e2⟩ : ∃ s2, s2 = zsQ (zna s1 7 20 16 16) 4 2 7 := ⟨_, rfl⟩
  rw [← e2]
  have x2 : zX s2 = 7 := by rw [e2, yX_sQ, yX_na]
  have k2 : zK s2 4 = 2 := by rw [e2, yK_sQ, zK_na (by omega)]; exact k1
  refine zW_s rfl ?_
  refine zW_s rfl ?_
  refine zW_p rfl (zpnl (by decide) (show (Int32.ofInt 9).toNatClampNeg = 9 from rfl) (by omega)) ?_
  rw [show (Int32.ofInt 9).toNatClampNeg = 9 from rfl, znw_b (σ := s2) (y := 8) 20 9 9 (by rw [x2]), show zX s2 + 1 = 8 by rw [x2]]
  refine zW_p rfl (by rw [zK_na (by omega)]; exact k2) ?_
  obtain ⟨s3, e3⟩ : ∃ s3, s3 = zsQ (zna s2 8 20 9 9) 4 3 8 := ⟨_, rfl⟩
  rw [← e3]
  have x3 : zX s3 = 8 := by rw [e3, yX_sQ, yX_na]
  have k3 : zK s3 4 = 2 := by rw [e3, yK_sQ, zK_na (by omega)]; exact k2
  refine zW_s rfl ?_
  refine zW_s rfl ?_
  refine zW_c rfl k3 ?_
  refine b10 ⟨k3, ?_⟩
  rw [show Int32.ofInt 8 = nI 8 from rfl]
  obtain ⟨s4, e4⟩ : ∃ s4, s4 = zsI s3 4 4 (nI 8) := ⟨_, rfl⟩
  rw [← e4]
  have hD0 : zDk s4 (zfrD 1 (fun _ => 0, fun _ => 0, fun _ => 0)) 8 := by
    unfold zDk
    rw [e4, e3, e2, e1, e0]
    simp (disch := omega) only [yK_sQ, yN_sQ, yI_sQ, yJ_sQ, yA_sQ, yB_sQ, yS_sQ, yX_sQ, yL_sQ, yQ_oQ, yQ_eQ, yK_sS, yN_sS, yI_sS, yJ_sS, yQ_sS, yA_sS, yB_sS, yX_sS, yL_sS, yS_oS, yS_eS, yK_sI, yN_sI, yJ_sI, yQ_sI, yA_sI, yB_sI, yS_sI, yX_sI, yL_sI, yI_oI, yI_eI, yK_sJ, yN_sJ, yI_sJ, yQ_sJ, yA_sJ, yB_sJ, yS_sJ, yX_sJ, yL_sJ, yJ_oJ, yJ_eJ, yK_sA, yN_sA, yI_sA, yJ_sA, yQ_sA, yB_sA, yS_sA, yX_sA, yL_sA, yA_oA, yA_eA, zK_na, zN_na, zI_na, zJ_na, zQ_na, zA_na, zB_na, zS_na, zK_ne, zN_ne, zI_ne, zJ_ne, zQ_ne, zA_ne, zB_ne, zS_ne, zL_na, yX_na, zu_same, zu_ne]
    rw [h2]
    refine ⟨rfl, ?_⟩
    (try simp only [true_and])
    refine ⟨fun i _ => ?_, fun i _ => ?_, fun i _ => ?_⟩
    · show (0 : Int32) = nI (if 1 ≤ i ∧ i < 1 then i else 0)
      rw [if_neg (by omega)]; rfl
    · show (0 : Int32) = nI (if 1 ≤ i ∧ i < 1 then (i - 1) % 4 else 0)
      rw [if_neg (by omega)]; rfl
    · show (0 : Int32) = nI (if 1 ≤ i ∧ i < 1 then (i - 1) % 2 else 0)
      rw [if_neg (by omega)]; rfl
  refine l_renew (σ := s4) (D := (fun _ => 0, fun _ => 0, fun _ => 0)) (fun τ g1 g2 g3 => ?_) 9 1 _ (by omega) (by omega) (zFr_r _ _ _) hD0 (fun i hi => by omega)
  refine zW_r rfl trivial ?_
  refine hQ τ (fun b hb => ?_) ?_ ?_ ⟨g2, zrw1_l 8, fun i hi => by rw [g3 i (by omega), zrw1_g hi], zrw1_c (by omega)⟩
  · refine zEo_t ?_ (zEo_fr g1 (by omega))
    rw [e4, e3, e2, e1, e0]
    exact zEo_t (zEo_t (zEo_t (zEo_t (zEo_t (zEo_t (zEo_t (zEo_t (zEo_na (by omega)) (zEo_sQ (by omega))) (zEo_na (by omega))) (zEo_sQ (by omega))) (zEo_na (by omega))) (zEo_sQ (by omega))) (zEo_na (by omega))) (zEo_sQ (by omega))) (zEo_sI (by omega))
  · rw [g1.2.2.1, e4, yX_sI, x3]
  · rw [g1.2.2.2.1, e4, e3, e2, e1, e0]
    simp (disch := omega) only [yK_sQ, yN_sQ, yI_sQ, yJ_sQ, yA_sQ, yB_sQ, yS_sQ, yX_sQ, yL_sQ, yQ_oQ, yQ_eQ, yK_sS, yN_sS, yI_sS, yJ_sS, yQ_sS, yA_sS, yB_sS, yX_sS, yL_sS, yS_oS, yS_eS, yK_sI, yN_sI, yJ_sI, yQ_sI, yA_sI, yB_sI, yS_sI, yX_sI, yL_sI, yI_oI, yI_eI, yK_sJ, yN_sJ, yI_sJ, yQ_sJ, yA_sJ, yB_sJ, yS_sJ, yX_sJ, yL_sJ, yJ_oJ, yJ_eJ, yK_sA, yN_sA, yI_sA, yJ_sA, yQ_sA, yB_sA, yS_sA, yX_sA, yL_sA, yA_oA, yA_eA, zK_na, zN_na, zI_na, zJ_na, zQ_na, zA_na, zB_na, zS_na, zK_ne, zN_ne, zI_ne, zJ_ne, zQ_ne, zA_ne, zB_ne, zS_ne, zL_na, yX_na, zu_same, zu_ne]
