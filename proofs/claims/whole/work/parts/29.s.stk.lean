/-! stack: the class -/
theorem zIC_59 {σ τ : zH} {m : zMS} (h : zFr 59 60 σ τ) (hI : zIC σ m) : zIC τ m := by
  obtain ⟨T, T', o, o', a1, a2, a3, a4, a5, a6, a7, a8, a9, a10⟩ := hI
  exact ⟨T, T', o, o', zc1_f h (by omega) a1, zTp_f h (by omega) a2, zc4_f h (by omega) a3, zc9_f h (by omega) a4, zTb_fr h (by omega) a5, zc18_f h (by omega) a6, zc54_f h (by omega) a7, zc59_f h a8, zcTr_f h a1.2.1 (by omega) a9, zcC_f h a1.2.2.1 (by omega) a10⟩
theorem zIC_18 {σ τ : zH} {m : zMS} (h : zFr 18 54 σ τ) (h18 : zc18 τ) (hI : zIC σ m) : zIC τ m := by
  obtain ⟨T, T', o, o', a1, a2, a3, a4, a5, a6, a7, a8, a9, a10⟩ := hI
  exact ⟨T, T', o, o', zc1_f h (by omega) a1, zTp_f h (by omega) a2, zc4_f h (by omega) a3, zc9_f h (by omega) a4, zTb_fr h (by omega) a5, h18, zc54_f h (by omega) a7, zc59_f h a8, zcTr_f h a1.2.1 (by omega) a9, zcC_f h a1.2.2.1 (by omega) a10⟩
theorem zIC_8 {σ τ : zH} {m : zMS} {row : List Nat} (h : zFr 8 9 σ τ) (hr : zRow τ 8 (zmN m) row) (hI : zIC σ m) : zIC τ (zmsr row m) := by
  obtain ⟨T, T', o, o', a1, a2, a3, a4, a5, a6, a7, a8, a9, a10⟩ := hI
  have hD8 : zDk τ (zmD m) (zmN m) := by
    have q := a3.1
    unfold zDk at q ⊢
    rw [h.1, h.2.1, (zFr_o h (a := 4) (by omega)).2.2.1, (zFr_o h (a := 4) (by omega)).1, (zFr_o h (a := 5) (by omega)).2.2.2.1, (zFr_o h (a := 6) (by omega)).2.2.2.1, (zFr_o h (a := 7) (by omega)).2.2.2.1]
    exact q
  exact ⟨T, T', o, o', zc1_f h (by omega) a1, zTp_f h (by omega) a2, ⟨hD8, hr⟩, zc9_f h (by omega) a4, zTb_fr h (by omega) a5, zc18_f h (by omega) a6, zc54_f h (by omega) a7, zc59_f h a8, zcTr_f h a1.2.1 (by omega) a9, zcC_f h a1.2.2.1 (by omega) a10⟩
set_option maxHeartbeats 1000000 in
theorem l_bgw {d n : Nat} {σ0 : zH} {D : zDT} {f : Nat → Nat} (hD : zDk σ0 D n) (k59 : zK σ0 59 = 20) (n59 : zN σ0 59 = 9) (hn : n ≤ 9) (hO : zO59 σ0 n f) {Q : Option Value → zH → Prop} (hQ : ∀ τ, zFr 8 9 σ0 τ → (∀ i, i < n → zA τ 8 i = nI (f i)) → Q none τ) : ∀ (e i : Nat) (σ : zH), i + e = n → zFr 8 9 σ0 σ → (∀ j, j < i → zA σ 8 j = nI (f j)) → zW d 12 2 [(0, .ref 4), (1, .ref 59), (2, .int (nI i))] [] σ Q := by
  have hD4 : zI σ0 4 4 = nI n := hD.2.2.2.2.2.2.2.2.2.2.2.2.2.1
  intro e
  induction e with
  | zero =>
    intro i σ hi hF hA
    have e4 := zFr_o hF (a := 4) (by omega)
    refine b12_2 ?_
    rw [hF.1, e4.1, hD4, if_pos (nI_le (by omega) (by omega))]
    exact ⟨hD.1, hQ σ hF (fun j hj => hA j (by omega))⟩
  | succ e ih =>
    intro i σ hi hF hA
    have e4 := zFr_o hF (a := 4) (by omega)
    have e59 := zFr_o hF (a := 59) (by omega)
    refine b12_2 ?_
    rw [hF.1, hF.2.1, e4.1, hD4, if_neg (nI_ge (by omega) (by omega)), k59, n59, e4.2.2.1, hD.2.2.2.2.1, hD.2.2.2.2.2.2.2.2.1, hD.2.2.2.2.2.2.2.2.2.2.2.2.1, zcl i (by omega), e59.2.2.2.1, hO i (by omega), nI_add]
    refine ⟨hD.1, rfl, vp_in_nI (by omega) (by omega), rfl, vp_in_nI (by omega) (by omega), ?_⟩
    refine ih (i + 1) _ (by omega) (zFr_t hF (zFr_sA _ _ (by omega) (by omega))) (fun j hj => ?_)
    rw [zA_sA]
    by_cases q : j = i
    · rw [if_pos ⟨rfl, q⟩, q]
    · rw [if_neg (by omega)]
      exact hA j (by omega)
set_option maxHeartbeats 4000000 in
theorem l_stk {d : Nat} {σ0 : zH} {m : zMS} {N : Nat} (hm : zMok m) (hN : N ≤ 50) {Q : Option Value → zH → Prop} : ∀ (c k : Nat) (f : Nat → Nat) (σ : zH), k + c = N → zIC σ m → zFr 1 160 σ0 σ → zfo (zmN m) f → zO59 σ (zmN m) f → (∀ τ, zstl m c k f = none → zIC τ m → zFr 1 160 σ0 τ → Q (some (.int (-1))) τ) → (∀ τ j g, zstl m c k f = some (j, g) → zIC τ (zmsr (zrwf (zmN m) g) m) → zFr 1 160 σ0 τ → Q (some (.int (nI j))) τ) → zW (d + 15) 120 51 [(0, .ref 1), (1, .int (nI N)), (2, .int (nI k))] [] σ Q := by
  obtain ⟨h1, h2, h3, h4, ⟨h5, dn, ch, hseg, hch⟩, h6, h7, h8⟩ := hm
  obtain ⟨hwf, hce⟩ := zSeg_wf _ _ _ _ _ _ _ hseg
  intro c
  induction c with
  | zero =>
    intro k f σ hk hI hF hf hO hn hs
    refine b120_51 ?_
    rw [if_pos (nI_le (by omega) (by omega))]
    exact hn σ rfl hI hF
  | succ c ih =>
    intro k f σ hk hI hF hf hO hn hs
    have hI' := hI
    obtain ⟨T, T', o, o', a1, a2, a3, a4, a5, a6, a7, a8, a9, a10⟩ := hI
    obtain ⟨⟨u0, u1, u2, u3, u4, u5, u6, u7, u8, u9, u10, u11⟩, hTT, hoo, urun⟩ := a1
    obtain ⟨nw, nx, wt, C, lg, hSp, hDis⟩ := a6
    refine b120_51 ?_
    rw [if_neg (nI_ge (by omega) (by omega)), u0, u5, u7, u8, u10]
    refine ⟨rfl, hSp.1.1, ?_⟩
    refine p_look h3 (by omega) a10.1 a3.1 (by omega) a9.1 hwf (by omega) hSp hDis h2.2 (Or.inr rfl) a8.1 a8.2 (zrwf_l _ f) (fun i hi => by rw [hO i hi, zrwf_g hi]) (zrwf_c hf) (fun τ nw' nx' wt' C' lg' g1 g2 g3 g4 => ?_)
    rw [zqv_s]
    have e1 := zFr_o g2 (a := 1) (by omega)
    have e59 := zFr_o g2 (a := 59) (by omega)
    have q4 : zQ τ 1 4 = 18 := by rw [e1.2.2.1]; exact u5
    have q1 : zQ τ 1 1 = 4 := by rw [e1.2.2.1]; exact u2
    have q6 : zQ τ 1 6 = 59 := by rw [e1.2.2.1]; exact u7
    have k1 : zK τ 1 = 12 := by rw [g2.1]; exact u0
    have g6 : zI τ 18 4 = nI (zbn1 lg') := g1.2.2.2.2.2
    rw [q4, q1, q6, g6]
    refine ⟨k1, g1.1.1, ?_⟩
    have hIt : zIC τ m := zIC_18 g2 ⟨nw', nx', wt', C', lg', g1, g3⟩ hI'
    have hFt : zFr 1 160 σ0 τ := zFr_t hF (zFr_m g2 (by omega) (by omega))
    have hOt : zO59 τ (zmN m) f := fun i hi => by rw [e59.2.2.2.1]; exact hO i hi
    have b3 := zc4_f g2 (by omega) a3
    have b8 := zc59_f g2 a8
    have e44 : zI τ 4 4 = nI (zmN m) := b3.1.2.2.2.2.2.2.2.2.2.2.2.2.2.1
    have go : zgoodo m f = false → zW (d + 15) 120 115 [(0, .ref 1), (1, .int (nI N)), (2, .int (nI k))] [] τ Q := by
      intro hg
      rw [zstl, hg] at hn hs
      refine b120_115 ⟨k1, p_next k1 q1 q6 b3.1.1 e44 b8.1 b8.2 h2.2 h2.1 hf (zFr_r _ _ _) hOt (fun υ g y1 y2 y3 => ?_) (fun υ y1 y2 => ?_)⟩
      · rw [zqi_s, if_pos (by decide), nI_add]
        rw [y1] at hn hs
        exact ih (k + 1) g υ (by omega) (zIC_59 y2 hIt) (zFr_t hFt (zFr_m y2 (by omega) (by omega))) (zfo_nx h2.1 hf y1) y3 hn hs
      · rw [zqi_s, if_neg (by decide)]
        rw [y1] at hn
        exact hn υ rfl (zIC_59 y2 hIt) (zFr_t hFt (zFr_m y2 (by omega) (by omega)))
    cases hr : zrunS (zmD m) (zmS m) (zmS m).length (zrwf (zmN m) f, [], [], [], 0) with
    | none =>
      rw [hr] at g4
      have g4' : lg' = true := g4
      rw [g4', if_pos (by decide)]
      exact go (by unfold zgoodo; rw [hr])
    | some L =>
      rw [hr] at g4
      obtain ⟨g7, g8, g9, g10, g11, g12⟩ := g4
      obtain ⟨n1, n2⟩ := zbk_n (zmD m) (zmC m) L
      rw [g7, if_neg (by decide), g8, g9]
      by_cases cc : zcnt (zmD m) (zmC m) L = L.length
      · have hg : zgoodo m f = true := by unfold zgoodo; rw [hr]; exact decide_eq_true cc
        rw [if_neg (by rw [cc]; exact fun q => q rfl)]
        rw [zstl, hg] at hs
        refine ⟨b3.1.1, b12 (l_bgw b3.1 b8.1 b8.2 h2.2 hOt (fun υ y1 y2 => ?_) (zmN m) 0 τ (by omega) (zFr_r _ _ _) (fun j hj => by omega))⟩
        rw [zqv_s]
        refine hs υ k f rfl (zIC_8 y1 ⟨zrwf_l _ _, fun i hi => by rw [y2 i hi, zrwf_g hi], zrwf_c hf⟩ hIt) (zFr_t hFt (zFr_m y1 (by omega) (by omega)))
      · have hg : zgoodo m f = false := by unfold zgoodo; rw [hr]; exact decide_eq_false cc
        rw [if_pos (by rw [nI_eq (by omega) (by omega)]; exact cc)]
        exact go hg
theorem l_ini {d n N : Nat} {σ0 : zH} (k1 : zK σ0 1 = 12) (q1 : zQ σ0 1 1 = 4) (q6 : zQ σ0 1 6 = 59) (k4 : zK σ0 4 = 2) (e4 : zI σ0 4 4 = nI n) (k59 : zK σ0 59 = 20) (n59 : zN σ0 59 = 9) (hn : n ≤ 9) {Q : Option Value → zH → Prop} (hQ : ∀ τ, zFr 59 60 σ0 τ → zO59 τ n (fun i => i + 1) → zW (d + 1) 120 51 [(0, .ref 1), (1, .int (nI N)), (2, .int (nI 0))] [] τ Q) : ∀ (e i : Nat) (σ : zH), i + e = n → zFr 59 60 σ0 σ → (∀ j, j < i → zA σ 59 j = nI (j + 1)) → zW (d + 1) 120 23 [(0, .ref 1), (1, .int (nI N)), (2, .int (nI i))] [] σ Q := by
  intro e
  induction e with
  | zero =>
    intro i σ hi hF hA
    have o1 := zFr_o hF (a := 1) (by omega)
    have o4 := zFr_o hF (a := 4) (by omega)
    refine b120_23 ?_
    rw [hF.1, o1.2.2.1, k1, q1, o4.1, e4, k4, if_pos (nI_le (by omega) (by omega))]
    exact ⟨rfl, rfl, hQ σ hF (fun j hj => hA j (by omega))⟩
  | succ e ih =>
    intro i σ hi hF hA
    have o1 := zFr_o hF (a := 1) (by omega)
    have o4 := zFr_o hF (a := 4) (by omega)
    refine b120_23 ?_
    rw [hF.1, hF.2.1, o1.2.2.1, k1, q1, q6, o4.1, e4, k4, if_neg (nI_ge (by omega) (by omega)), k59, n59, nI_add, zcl i (by omega)]
    refine ⟨rfl, rfl, rfl, vp_in_nI (by omega) (by omega), ?_⟩
    refine ih (i + 1) _ (by omega) (zFr_t hF (zFr_sA _ _ (by omega) (by omega))) (fun j hj => ?_)
    rw [zA_sA]
    by_cases q : j = i
    · rw [if_pos ⟨rfl, q⟩, q]
    · rw [if_neg (by omega)]
      exact hA j (by omega)
def zskv (x : Int32) : Prop := ¬ x < nI 1 ∧ x ≤ nI 50
theorem zsk_n {x : Int32} (h : zskv x) : nI x.toNatClampNeg = x ∧ x.toNatClampNeg ≤ 50 := by
  obtain ⟨e1, e2, e3⟩ := zI_pos h.1
  refine ⟨e1, ?_⟩
  by_cases q : x.toNatClampNeg ≤ 50
  · exact q
  · have := h.2
    rw [← e1] at this
    exact absurd this (nI_ge (by omega) (by omega))
theorem pc_stack {d : Nat} {σ : zH} {m : zMS} {x : Int32} (hI : zIC σ m) (hm : zMok m) (hv : zskv x) {Q : Option Value → zH → Prop} (hQ : ∀ τ, zIC τ (zssk m x) → zFr 1 160 σ τ → Q (some (.int (zask m x))) τ) : zM (d + 15) 120 [.ref 1, .int x] σ Q := by
  have hI' := hI
  obtain ⟨T, T', o, o', a1, a2, a3, a4, a5, a6, a7, a8, a9, a10⟩ := hI
  obtain ⟨⟨u0, u1, u2, u3, u4, u5, u6, u7, u8, u9, u10, u11⟩, hTT, hoo, urun⟩ := a1
  obtain ⟨e1, e2⟩ := zsk_n hv
  unfold zssk zask at hQ
  unfold zsk2 at hQ
  obtain ⟨N, hNN⟩ : ∃ N, N = x.toNatClampNeg := ⟨_, rfl⟩
  rw [← hNN] at e1 e2 hQ
  refine b120 ?_
  rw [if_neg hv.1, if_pos hv.2, ← e1]
  have e44 : zI σ 4 4 = nI (zmN m) := a3.1.2.2.2.2.2.2.2.2.2.2.2.2.2.1
  refine l_ini (d := d + 14) u0 u2 u7 a3.1.1 e44 a8.1 a8.2 hm.2.1.2 (fun τ g1 g2 => ?_) (zmN m) 0 σ (by omega) (zFr_r _ _ _) (fun j hj => by omega)
  refine l_stk (d := d) (σ0 := σ) hm e2 N 0 (fun i => i + 1) τ (by omega) (zIC_59 g1 hI') (zFr_m g1 (by omega) (by omega)) (zfo_1 hm.2.1.2) g2 (fun υ hz y1 y2 => ?_) (fun υ j g hz y1 y2 => ?_)
  · rw [hz] at hQ
    exact hQ υ y1 y2
  · rw [hz] at hQ
    exact hQ υ y1 y2
