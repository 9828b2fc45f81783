/-! trick and claim: the class -/
theorem zFtx_s {lo hi : Nat} {σ τ : zH} (h : zFtx lo hi σ τ) (hl : 14 ≤ lo) : ∃ υ, zFr 9 14 σ υ ∧ zFr lo hi υ τ := by
  obtain ⟨h1, h2, h3, h4, h5⟩ := h
  refine ⟨(zK σ, zN σ, fun a => if 9 ≤ a ∧ a < 14 then zI τ a else zI σ a, fun a => if 9 ≤ a ∧ a < 14 then zJ τ a else zJ σ a, fun a => if 9 ≤ a ∧ a < 14 then zQ τ a else zQ σ a, fun a => if 9 ≤ a ∧ a < 14 then zA τ a else zA σ a, fun a => if 9 ≤ a ∧ a < 14 then zB τ a else zB σ a, fun a => if 9 ≤ a ∧ a < 14 then zS τ a else zS σ a, zX σ, zL σ), ⟨rfl, rfl, rfl, rfl, fun a ha => ?_⟩, ⟨h1, h2, h3, h4, fun a ha => ?_⟩⟩
  · have n : ¬ (9 ≤ a ∧ a < 14) := by omega
    exact ⟨if_neg n, if_neg n, if_neg n, if_neg n, if_neg n, if_neg n⟩
  · by_cases n : 9 ≤ a ∧ a < 14
    · exact ⟨(if_pos n).symm, (if_pos n).symm, (if_pos n).symm, (if_pos n).symm, (if_pos n).symm, (if_pos n).symm⟩
    · obtain ⟨q1, q2, q3, q4, q5, q6⟩ := h5 a (by omega) ha
      exact ⟨q1.trans (if_neg n).symm, q2.trans (if_neg n).symm, q3.trans (if_neg n).symm, q4.trans (if_neg n).symm, q5.trans (if_neg n).symm, q6.trans (if_neg n).symm⟩
def zstk (m : zMS) : zMS := match ztrt (zmB m) with
  | .error e => ([], zmN m, zmD m, zmr m, zmS m, zmC m, e.1, zmR m, zmP m, zmT m)
  | .ok S => ([], zmN m, zmD m, zmr m, S, zmC m, 0, zmR m, zmP m, zmT m)
def zatk (m : zMS) : Int32 := match ztrt (zmB m) with
  | .error e => -1 - nI e.2
  | .ok S => nI S.length
theorem zQ_sI (σ : zH) (a j : Nat) (v : Int32) : zQ (zsI σ a j v) = zQ σ := rfl
theorem zI_sQ (σ : zH) (a j v : Nat) : zI (zsQ σ a j v) = zI σ := rfl
theorem zQ_sQ (σ : zH) (a j v b i : Nat) : zQ (zsQ σ a j v) b i = if b = a ∧ i = j then v else zQ σ b i := rfl
theorem zTp_nil {σ : zH} {B : List Nat} (h : zTp σ B) : zTp (zsI σ 2 1 (nI 0)) [] := by
  have := zTp_cut (n := 0) (Nat.zero_le _) h
  rw [List.take_zero] at this
  exact this
set_option maxHeartbeats 2000000 in
theorem pc_trick {d : Nat} {σ : zH} {m : zMS} (hI : zIC σ m) {Q : Option Value → zH → Prop} (hQ : ∀ τ, zIC τ (zstk m) → zFr 1 160 σ τ → Q (some (.int (zatk m))) τ) : zM (d + 59) 111 [.ref 1] σ Q := by
  obtain ⟨T, T', o, o', a1, a2, a3, a4, a5, a6, a7, a8, a9, a10⟩ := hI
  obtain ⟨⟨u0, u1, u2, u3, u4, u5, u6, u7, u8, u9, u10, u11⟩, hTT, hoo, urun⟩ := a1
  refine b111 ?_
  rw [u0, u1, u3, u9]
  refine ⟨rfl, a4.1.1, p_ctrk (by omega) a2 a4.1 a9.2 (fun τ g1 g2 g3 g4 g5 => ?_)⟩
  rw [zqv_s]
  obtain ⟨υ, f1, f2⟩ := zFtx_s g1 (by omega)
  have fo := g1.2.2.2.2
  have e1 := fo 1 (by omega) (by omega)
  have q0 : zQ τ 1 0 = 2 := by rw [e1.2.2.1]; exact u1
  have q2 : zQ τ 1 2 = 9 := by rw [e1.2.2.1]; exact u3
  have q7 : zQ τ 1 7 = T := by rw [e1.2.2.1]; exact u8
  have q8 : zQ τ 1 8 = T' := by rw [e1.2.2.1]; exact u9
  have k1 : zK τ 1 = 12 := by rw [g1.1]; exact u0
  have b2 : zTp τ (zmB m) := zTp_f f2 (by omega) (zTp_f f1 (by omega) a2)
  rw [q0, q2, q7, q8, zIo (by omega)]
  refine ⟨k1, b2.1, g2.1, ?_⟩
  have b1 : zc1 τ T T' o o' (zmR m) := zc1_f f2 (by omega) (zc1_f f1 (by omega) ⟨⟨u0, u1, u2, u3, u4, u5, u6, u7, u8, u9, u10, u11⟩, hTT, hoo, urun⟩)
  have b3 := zc4_f f2 (by omega) (zc4_f f1 (by omega) a3)
  have b5 := zTb_fr f2 (t := 14) (by omega) (zTb_fr f1 (by omega) a5)
  have b6 := zc18_f f2 (by omega) (zc18_f f1 (by omega) a6)
  have b7 := zc54_f f2 (by omega) (zc54_f f1 (by omega) a7)
  have b8 := zc59_f f2 (zc59_f f1 a8)
  have b9 := zTrk_fr f2 (T := T) (by omega) (zTrk_fr f1 (by omega) a9.1)
  have b10 := zcC_f f2 hoo (by omega) (zcC_f f1 hoo (by omega) a10)
  have F : zFr 1 160 σ τ := zFr_t (zFr_m f1 (by omega) (by omega)) (zFr_m f2 (by omega) (by omega))
  have F2 : zFr 2 4 τ (zsI τ 2 1 (nI 0)) := zFr_sI 1 _ (by omega) (by omega)
  unfold zstk zatk at hQ
  cases hz : ztrt (zmB m) with
  | error e =>
    rw [hz] at hQ g4
    obtain ⟨v1, v2, v3, v4⟩ := g4
    rw [v1, if_neg (by rw [← nI_0]; exact fun q => by have := (nI_eq (by omega) (by omega)).mp q; omega), v2]
    refine hQ _ ⟨T, T', o, o', zc1_f F2 (by omega) b1, zTp_nil b2, zc4_f F2 (by omega) b3, ⟨zRd_f F2 (by omega) g2, ?_⟩, zTb_fr F2 (by omega) b5, zc18_f F2 (by omega) b6, zc54_f F2 (by omega) b7, zc59_f F2 b8, zcTr_f F2 hTT (by omega) ⟨b9, g3⟩, zcC_f F2 hoo (by omega) b10⟩ (zFr_t F (zFr_m F2 (by omega) (by omega)))
    rw [zIo (by omega)]
    exact v1
  | ok S =>
    rw [hz] at hQ g4
    have g4' : zI τ 9 5 = nI 0 := g4
    have t9 := g5 S hz
    rw [g4', if_pos nI_0]
    have ez : zQ (zsQ (zsQ τ 1 7 T') 1 8 T) 1 7 = T' := by
      rw [zQ_sQ, if_neg (by omega), zQ_sQ, if_pos ⟨rfl, rfl⟩]
    rw [ez, zIo (by omega), t9.2.1]
    refine ⟨t9.1.1, ?_⟩
    obtain ⟨κ, hκ⟩ : ∃ κ, κ = zsQ (zsQ (zsI τ 2 1 (nI 0)) 1 7 T') 1 8 T := ⟨_, rfl⟩
    rw [← hκ]
    have F3 : zFr 1 2 (zsI τ 2 1 (nI 0)) κ := by
      rw [hκ]
      exact zFr_t (zFr_sQ 7 _ (by omega) (by omega)) (zFr_sQ 8 _ (by omega) (by omega))
    refine hQ κ ⟨T', T, o, o', ⟨⟨?_, ?_, ?_, ?_, ?_, ?_, ?_, ?_, ?_, ?_, ?_, ?_⟩, by omega, hoo, ?_⟩, zTp_f F3 (by omega) (zTp_nil b2), zc4_f F3 (by omega) (zc4_f F2 (by omega) b3), ⟨zRd_f F3 (by omega) (zRd_f F2 (by omega) g2), ?_⟩, zTb_fr F3 (by omega) (zTb_fr F2 (by omega) b5), zc18_f F3 (by omega) (zc18_f F2 (by omega) b6), zc54_f F3 (by omega) (zc54_f F2 (by omega) b7), zc59_f F3 (zc59_f F2 b8), ⟨zTrk_fr F3 (by omega) (zTrk_fr F2 (by omega) t9), zTs_fr F3 (by omega) (zTs_fr F2 (by omega) b9.1)⟩, zcC_f F3 hoo (by omega) (zcC_f F2 hoo (by omega) b10)⟩ (zFr_t F (zFr_t (zFr_m F2 (by omega) (by omega)) (zFr_m F3 (by omega) (by omega))))
    · rw [hκ]; exact k1
    · rw [hκ, zQ_sQ, if_neg (by omega), zQ_sQ, if_neg (by omega)]; exact q0
    · rw [hκ, zQ_sQ, if_neg (by omega), zQ_sQ, if_neg (by omega)]; exact b1.1.2.2.1
    · rw [hκ, zQ_sQ, if_neg (by omega), zQ_sQ, if_neg (by omega)]; exact b1.1.2.2.2.1
    · rw [hκ, zQ_sQ, if_neg (by omega), zQ_sQ, if_neg (by omega)]; exact b1.1.2.2.2.2.1
    · rw [hκ, zQ_sQ, if_neg (by omega), zQ_sQ, if_neg (by omega)]; exact b1.1.2.2.2.2.2.1
    · rw [hκ, zQ_sQ, if_neg (by omega), zQ_sQ, if_neg (by omega)]; exact b1.1.2.2.2.2.2.2.1
    · rw [hκ, zQ_sQ, if_neg (by omega), zQ_sQ, if_neg (by omega)]; exact b1.1.2.2.2.2.2.2.2.1
    · rw [hκ, zQ_sQ, if_neg (by omega), zQ_sQ, if_pos ⟨rfl, rfl⟩]
    · rw [hκ, zQ_sQ, if_pos ⟨rfl, rfl⟩]
    · rw [hκ, zQ_sQ, if_neg (by omega), zQ_sQ, if_neg (by omega)]; exact b1.1.2.2.2.2.2.2.2.2.2.2.1
    · rw [hκ, zQ_sQ, if_neg (by omega), zQ_sQ, if_neg (by omega)]; exact b1.1.2.2.2.2.2.2.2.2.2.2.2
    · have := b1.2.2.2
      have eI : zI κ 1 = zI τ 1 := by rw [hκ, zI_sQ, zI_sQ, zIo (by omega)]
      have eJ : zJ κ 1 = zJ τ 1 := by rw [hκ]; rfl
      rw [eI, eJ]
      exact this
    · rw [hκ, zI_sQ, zI_sQ, zIo (by omega)]; exact g4'
def zscl (m : zMS) : zMS := match zclt (zmB m) with
  | .error e => ([], zmN m, zmD m, zmr m, zmS m, zmC m, e.1, zmR m, zmP m, zmT m)
  | .ok cs => ([], zmN m, zmD m, zmr m, zmS m, cs, 0, zmR m, zmP m, zmT m)
def zacl (m : zMS) : Int32 := match zclt (zmB m) with
  | .error e => -1 - nI e.2
  | .ok _ => nI 0
set_option maxHeartbeats 2000000 in
theorem pc_claim {d : Nat} {σ : zH} {m : zMS} (hI : zIC σ m) {Q : Option Value → zH → Prop} (hQ : ∀ τ, zIC τ (zscl m) → zFr 1 160 σ τ → Q (some (.int (zacl m))) τ) : zM (d + 40) 112 [.ref 1] σ Q := by
  obtain ⟨T, T', o, o', a1, a2, a3, a4, a5, a6, a7, a8, a9, a10⟩ := hI
  obtain ⟨⟨u0, u1, u2, u3, u4, u5, u6, u7, u8, u9, u10, u11⟩, hTT, hoo, urun⟩ := a1
  refine b112 ?_
  rw [u0, u1, u3, u11]
  refine ⟨rfl, a4.1.1, p_cclm (by omega) a2 a4.1 a10.2 (fun τ g1 g2 g3 g4 g5 => ?_)⟩
  rw [zqv_s]
  obtain ⟨υ, f1, f2⟩ := zFtx_s g1 (by omega)
  have fo := g1.2.2.2.2
  have e1 := fo 1 (by omega) (by omega)
  have q0 : zQ τ 1 0 = 2 := by rw [e1.2.2.1]; exact u1
  have q2 : zQ τ 1 2 = 9 := by rw [e1.2.2.1]; exact u3
  have q9 : zQ τ 1 9 = o := by rw [e1.2.2.1]; exact u10
  have q10 : zQ τ 1 10 = o' := by rw [e1.2.2.1]; exact u11
  have k1 : zK τ 1 = 12 := by rw [g1.1]; exact u0
  have b2 : zTp τ (zmB m) := zTp_f f2 (by omega) (zTp_f f1 (by omega) a2)
  rw [q0, q2, q9, q10, zIo (by omega)]
  refine ⟨k1, b2.1, g2.1, ?_⟩
  have b1 : zc1 τ T T' o o' (zmR m) := zc1_f f2 (by omega) (zc1_f f1 (by omega) ⟨⟨u0, u1, u2, u3, u4, u5, u6, u7, u8, u9, u10, u11⟩, hTT, hoo, urun⟩)
  have b3 := zc4_f f2 (by omega) (zc4_f f1 (by omega) a3)
  have b5 := zTb_fr f2 (t := 14) (by omega) (zTb_fr f1 (by omega) a5)
  have b6 := zc18_f f2 (by omega) (zc18_f f1 (by omega) a6)
  have b7 := zc54_f f2 (by omega) (zc54_f f1 (by omega) a7)
  have b8 := zc59_f f2 (zc59_f f1 a8)
  have b9 := zcTr_f f2 hTT (by omega) (zcTr_f f1 hTT (by omega) a9)
  have b10 := zClm_fr f2 (o := o) (by omega) (zClm_fr f1 (by omega) a10.1)
  have F : zFr 1 160 σ τ := zFr_t (zFr_m f1 (by omega) (by omega)) (zFr_m f2 (by omega) (by omega))
  have F2 : zFr 2 4 τ (zsI τ 2 1 (nI 0)) := zFr_sI 1 _ (by omega) (by omega)
  unfold zscl zacl at hQ
  cases hz : zclt (zmB m) with
  | error e =>
    rw [hz] at hQ g4
    obtain ⟨v1, v2, v3, v4⟩ := g4
    rw [v1, if_neg (by rw [← nI_0]; exact fun q => by have := (nI_eq (by omega) (by omega)).mp q; omega), v2]
    refine hQ _ ⟨T, T', o, o', zc1_f F2 (by omega) b1, zTp_nil b2, zc4_f F2 (by omega) b3, ⟨zRd_f F2 (by omega) g2, ?_⟩, zTb_fr F2 (by omega) b5, zc18_f F2 (by omega) b6, zc54_f F2 (by omega) b7, zc59_f F2 b8, zcTr_f F2 hTT (by omega) b9, zcC_f F2 hoo (by omega) ⟨b10, g3⟩⟩ (zFr_t F (zFr_m F2 (by omega) (by omega)))
    rw [zIo (by omega)]
    exact v1
  | ok cs =>
    rw [hz] at hQ g4
    have g4' : zI τ 9 5 = nI 0 := g4
    have t9 := g5 cs hz
    rw [g4', if_pos nI_0]
    obtain ⟨κ, hκ⟩ : ∃ κ, κ = zsQ (zsQ (zsI τ 2 1 (nI 0)) 1 9 o') 1 10 o := ⟨_, rfl⟩
    rw [← hκ]
    have F3 : zFr 1 2 (zsI τ 2 1 (nI 0)) κ := by
      rw [hκ]
      exact zFr_t (zFr_sQ 9 _ (by omega) (by omega)) (zFr_sQ 10 _ (by omega) (by omega))
    refine hQ κ ⟨T, T', o', o, ⟨⟨?_, ?_, ?_, ?_, ?_, ?_, ?_, ?_, ?_, ?_, ?_, ?_⟩, hTT, by omega, ?_⟩, zTp_f F3 (by omega) (zTp_nil b2), zc4_f F3 (by omega) (zc4_f F2 (by omega) b3), ⟨zRd_f F3 (by omega) (zRd_f F2 (by omega) g2), ?_⟩, zTb_fr F3 (by omega) (zTb_fr F2 (by omega) b5), zc18_f F3 (by omega) (zc18_f F2 (by omega) b6), zc54_f F3 (by omega) (zc54_f F2 (by omega) b7), zc59_f F3 (zc59_f F2 b8), zcTr_f F3 hTT (by omega) (zcTr_f F2 hTT (by omega) b9), ⟨zClm_fr F3 (by omega) (zClm_fr F2 (by omega) t9), zCo_fr F3 (by omega) (zCo_fr F2 (by omega) b10.1)⟩⟩ (zFr_t F (zFr_t (zFr_m F2 (by omega) (by omega)) (zFr_m F3 (by omega) (by omega))))
    · rw [hκ]; exact k1
    · rw [hκ, zQ_sQ, if_neg (by omega), zQ_sQ, if_neg (by omega)]; exact q0
    · rw [hκ, zQ_sQ, if_neg (by omega), zQ_sQ, if_neg (by omega)]; exact b1.1.2.2.1
    · rw [hκ, zQ_sQ, if_neg (by omega), zQ_sQ, if_neg (by omega)]; exact b1.1.2.2.2.1
    · rw [hκ, zQ_sQ, if_neg (by omega), zQ_sQ, if_neg (by omega)]; exact b1.1.2.2.2.2.1
    · rw [hκ, zQ_sQ, if_neg (by omega), zQ_sQ, if_neg (by omega)]; exact b1.1.2.2.2.2.2.1
    · rw [hκ, zQ_sQ, if_neg (by omega), zQ_sQ, if_neg (by omega)]; exact b1.1.2.2.2.2.2.2.1
    · rw [hκ, zQ_sQ, if_neg (by omega), zQ_sQ, if_neg (by omega)]; exact b1.1.2.2.2.2.2.2.2.1
    · rw [hκ, zQ_sQ, if_neg (by omega), zQ_sQ, if_neg (by omega)]; exact b1.1.2.2.2.2.2.2.2.2.1
    · rw [hκ, zQ_sQ, if_neg (by omega), zQ_sQ, if_neg (by omega)]; exact b1.1.2.2.2.2.2.2.2.2.2.1
    · rw [hκ, zQ_sQ, if_neg (by omega), zQ_sQ, if_pos ⟨rfl, rfl⟩]
    · rw [hκ, zQ_sQ, if_pos ⟨rfl, rfl⟩]
    · have := b1.2.2.2
      have eI : zI κ 1 = zI τ 1 := by rw [hκ, zI_sQ, zI_sQ, zIo (by omega)]
      have eJ : zJ κ 1 = zJ τ 1 := by rw [hκ]; rfl
      rw [eI, eJ]
      exact this
    · rw [hκ, zI_sQ, zI_sQ, zIo (by omega)]; exact g4'
