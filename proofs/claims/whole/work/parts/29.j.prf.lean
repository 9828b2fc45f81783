/-! perform, holds, look -/
def zpfm (m : zMS) : zPf := zpf (zmD m) (zmS m) (zmB m) (zmS m).length 0 (zmS m).length (false, (zmr m, [], [], [], 0), 0, 0)
def zmsP (P : Option zTS) (tk : Nat) (m : zMS) : zMS := ([], zmN m, zmD m, zmr m, zmS m, zmC m, zmf m, zmR m, P, tk)
def zspf (m : zMS) : zMS := zmsP (some (zpfm m).2.1) (zpfm m).2.2.1 m
def zapf (m : zMS) : Int32 := if (zpfm m).1 then (-1) - nI (zpfm m).2.2.2 else nI (zpfm m).2.2.2
set_option maxHeartbeats 2000000 in
theorem pc_perform {d : Nat} {σ : zH} {m : zMS} (hI : zIC σ m) (hm : zMok m) {Q : Option Value → zH → Prop} (hQ : ∀ τ, zIC τ (zspf m) → zFr 1 160 σ τ → zMok (zspf m) → Q (some (.int (zapf m))) τ) : zM (d + 15) 117 [.ref 1] σ Q := by
  obtain ⟨T, T', o, o', a1, a2, a3, a4, a5, a6, a7, a8, a9, a10⟩ := hI
  have a1' := a1
  obtain ⟨⟨u0, u1, u2, u3, u4, u5, u6, u7, u8, u9, u10, u11⟩, hTT, hoo, urun⟩ := a1
  obtain ⟨h1, h2, h3, h4, ⟨h5, dn, ch, hseg, hch⟩, h6, h7, h8⟩ := hm
  obtain ⟨hwf, hce⟩ := zSeg_wf _ _ _ _ _ _ _ hseg
  refine b117 ?_
  rw [u0, u6, u8]
  refine ⟨rfl, a7.1.1, ?_⟩
  refine p_play (f := (zmS m).length) (pl0 := nI 0) (st0 := (false, (zmr m, [], [], [], 0), 0, 0)) h3 (by omega) a9.1 a3.1 a2 h2.2 a3.2 hwf ⟨a7.1, a7.2.1⟩ (fun τ g1 g2 => ?_)
  rw [zqv_s]
  have g1' : zSh τ (zmN m) (zmB m) (nI 1) (zpfm m) := g1
  obtain ⟨s1, s2, s3, s4, s5, s6, s7, s8⟩ := g1'
  have e1 := zFr_o g2 (a := 1) (by omega)
  have q0 : zQ τ 1 0 = 2 := by rw [e1.2.2.1]; exact u1
  have q5 : zQ τ 1 5 = 54 := by rw [e1.2.2.1]; exact u6
  have b2 := zTp_f g2 (by omega) a2
  rw [q0, q5, zIo (by omega), s3, s4]
  refine ⟨by rw [g2.1]; exact u0, b2.1, s1.1, ?_⟩
  have F2 : zFr 2 4 τ (zsI τ 2 1 (nI 0)) := zFr_sI 1 _ (by omega) (by omega)
  have ea : (if nI (zbn1 (zpfm m).1) = 0 then nI (zpfm m).2.2.2 else (-1) - nI (zpfm m).2.2.2) = zapf m := by
    unfold zapf
    cases (zpfm m).1
    · rw [if_pos (by decide)]; rfl
    · rw [if_neg (by decide)]; rfl
  rw [ea]
  have b7 : zc54 τ (some (zpfm m).2.1) (zpfm m).2.2.1 := ⟨s1, s6.1, s5, s2, s6⟩
  refine hQ _ ⟨T, T', o, o', zc1_f F2 (by omega) (zc1_f g2 (by omega) a1'), zTp_nil b2, zc4_f F2 (by omega) (zc4_f g2 (by omega) a3), zc9_f F2 (by omega) (zc9_f g2 (by omega) a4), zTb_fr F2 (by omega) (zTb_fr g2 (by omega) a5), zc18_f F2 (by omega) (zc18_f g2 (by omega) a6), zc54_f F2 (by omega) b7, zc59_f F2 (zc59_f g2 a8), zcTr_f F2 hTT (by omega) (zcTr_f g2 hTT (by omega) a9), zcC_f F2 hoo (by omega) (zcC_f g2 hoo (by omega) a10)⟩ (zFr_t (zFr_m g2 (by omega) (by omega)) (zFr_m F2 (by omega) (by omega))) ⟨zB_nil, h2, h3, h4, ⟨h5, dn, ch, hseg, hch⟩, h6, ?_, ?_⟩
  · intro x hx
    have : (zpfm m).2.1 = x := by
      simp only [zspf, zmsP, zmP, Option.some.injEq] at hx
      exact hx
    rw [← this]
    exact s8
  · show (zpfm m).2.2.1 ≤ 900
    have := h1.1
    omega
theorem pr_perform {d : Nat} {σ : zH} {m : zMS} (hI : zIR σ m) (hm : zMok m) {Q : Option Value → zH → Prop} (hQ : ∀ τ, zIR τ (zspf m) → zFr 160 187 σ τ → Q (some (.int (zapf m))) τ) : zM (d + 27) 197 [.ref 160] σ Q := by
  obtain ⟨bk, cb, a1, a2, a3, a4, a5, a6, a7, a8⟩ := hI
  obtain ⟨h1, h2, h3, h4, ⟨h5, dn, ch, hseg, hch⟩, h6, h7, h8⟩ := hm
  obtain ⟨hwf, hce⟩ := zSeg_wf _ _ _ _ _ _ _ hseg
  refine p_rperf (f := (zmS m).length) a1 a3.1 h3 (zRkb_k a4) a2.1 a2.2 h2.2 h4.1 a3.2 h4.2 hwf (fun τ g1 g2 => ?_)
  have F := zFm_v g1
  obtain ⟨s1, s2, s3, s4, s5, s6, s7, s8⟩ := g2
  refine hQ τ ⟨bk, cb, zMb_m F a1, ⟨zRtp_nil, s2⟩, zrD_m F (by omega) (fun a _ _ => by omega) a3, zrK_m F (by omega) (fun a _ _ => by omega) a4, zrC_m F (by omega) (fun a _ _ => by omega) a5, by rw [F.2.2.2.2.2.2.2.2.1 16 (by omega)]; exact a6, ⟨s6, s3, s5⟩, zrRn_m F (by omega) (by omega) a8⟩ (zFm_fr F (fun a q => by omega))
def zlay (m : zMS) : zTS := match zmP m with | some x => x | none => (zmr m, [], [], [], 0)
def zahd (m : zMS) : Int32 := nI (zbn1 (zmeet (zmD m) (zmC m) (zlay m)))
theorem zbn1_01 (b : Bool) : nI (zbn1 b) = 0 ∨ nI (zbn1 b) = 1 := by cases b <;> decide
set_option maxHeartbeats 2000000 in
theorem pc_holds {d : Nat} {σ : zH} {m : zMS} (hI : zIC σ m) (hm : zMok m) {Q : Option Value → zH → Prop} (hQ : ∀ τ, zIC τ m → zFr 1 160 σ τ → Q (some (.int (zahd m))) τ) : zM (d + 5) 119 [.ref 1] σ Q := by
  have hI' := hI
  obtain ⟨T, T', o, o', a1, a2, a3, a4, a5, a6, a7, a8, a9, a10⟩ := hI
  have a1' := a1
  obtain ⟨⟨u0, u1, u2, u3, u4, u5, u6, u7, u8, u9, u10, u11⟩, hTT, hoo, urun⟩ := a1
  obtain ⟨h1, h2, h3, h4, ⟨h5, dn, ch, hseg, hch⟩, h6, h7, h8⟩ := hm
  unfold zahd zlay at hQ
  refine b119 ?_
  rw [u0, u2, u4, u6, u10, a7.1.2.2.2]
  refine ⟨rfl, a7.1.1, ?_⟩
  have q43 : zQ σ 4 3 = 8 := a3.1.2.2.2.2.1
  cases hP : zmP m with
  | none =>
    rw [hP] at hQ a7
    have a7' : zI σ 54 3 = nI 0 := a7.2.2.2
    rw [a7', if_pos (by decide), q43]
    refine ⟨a3.1.1, a5.1, ?_⟩
    refine p_layRow a5 a3.1 (by omega) (by omega) a3.1.2.2.2.2.2.2.2.2.1 a3.1.2.2.2.2.2.2.2.2.2.2.2.2.1 h2.2 a3.2.1 a3.2.2.1 (fun τ g1 g2 => ?_)
    rw [zqv_s]
    have e1 := zFr_o g1 (a := 1) (by omega)
    have b10 := zcC_f g1 hoo (by omega) a10
    have b3 := zc4_f g1 (by omega) a3
    have q9 : zQ τ 1 9 = o := by rw [e1.2.2.1]; exact u10
    have q3 : zQ τ 1 3 = 14 := by rw [e1.2.2.1]; exact u4
    rw [q9, q3, b10.1.2.1]
    refine ⟨by rw [g1.1]; exact u0, b10.1.1.1, ?_⟩
    refine p_met0 g2 (by omega) b3.1 (zVS_row h2.2 h4.1 h4.2) h3 b10.1 (by omega) ?_
    rw [zqi_s]
    refine ⟨zbn1_01 _, hQ τ ⟨T, T', o, o', zc1_f g1 (by omega) a1', zTp_f g1 (by omega) a2, b3, zc9_f g1 (by omega) a4, g2.1, zc18_f g1 (by omega) a6, zc54_f g1 (by omega) (by rw [hP]; exact a7), zc59_f g1 a8, zcTr_f g1 hTT (by omega) a9, b10⟩ (zFr_m g1 (by omega) (by omega))⟩
  | some x =>
    rw [hP] at hQ a7
    obtain ⟨p1, p2, p3, p4, p5⟩ := a7
    rw [p4, if_neg (by decide), a10.1.2.1]
    refine ⟨a10.1.1.1, ?_⟩
    refine p_met0 p5 (by omega) a3.1 (h7 x hP) h3 a10.1 (by omega) ?_
    rw [zqi_s]
    exact ⟨zbn1_01 _, hQ σ hI' (zFr_r _ _ _)⟩
theorem pr_holds {d : Nat} {σ : zH} {m : zMS} (hI : zIR σ m) (hm : zMok m) {Q : Option Value → zH → Prop} (hQ : ∀ τ, zIR τ m → zFr 160 187 σ τ → Q (some (.int (zahd m))) τ) : zM (d + 22) 200 [.ref 160] σ Q := by
  have hI0 := zIR_0 (nI 0) hI
  obtain ⟨bk, cb, a1, a2, a3, a4, a5, a6, a7, a8⟩ := hI
  have ⟨mK0, mQ1, mK1, mN1, mQ6, mK6, mN6, mQ7, mK7, mN7, mQ8, mK8, mN8, mQ9, mK9, mN9, mQ10, mK10, mN10, mQ11, mK11, mN11, mQ21, mK21, mN21, mQ22, mK22, mN22, mQ23, mK23, mN23, mQ24, mK24, mN24, mQ25, mK25, mN25, mQ26, mK26, mN26, mQ27, mK27, mN27, mQ28, mK28, mN28, mQ32, mK32, mN32, mQ33, mK33, mN33, mQ34, mK34, mN34, mQ35, mK35, mN35, mQ40, mK40, mN40, mQ41, mK41, mN41, mQ42, mK42, mN42, mQ43, mK43, mN43, mQ44, mK44, mN44, mQ45, mK45, mN45, mQ62, mK62, mN62⟩ := a1
  obtain ⟨h1, h2, h3, h4, ⟨h5, dn, ch, hseg, hch⟩, h6, h7, h8⟩ := hm
  unfold zahd zlay at hQ
  refine b200 ⟨mK0, ?_⟩
  rw [zIs (by omega), mQ9]
  have F0 : zFm (fun i => i = 0 ∨ i = 12) zN0 (fun a => a = 166 ∨ a = 167 ∨ (180 ≤ a ∧ a ≤ 185)) σ (zsI σ 160 0 (nI 0)) := zFm_I _ (by omega)
  have fin : ∀ τ x, zFu (zsI σ 160 0 (nI 0)) τ → zRt τ (zpl x) (zmk x) → zVS (zmN m) x → (∀ υ, zIR υ m → zFr 160 187 σ υ → Q (some (.int (nI (zbn1 (zmeet (zmD m) (zmC m) x))))) υ) → (zK τ 160 = 13) ∧ zM (d + 21) 173 [.ref 160] τ (fun r σ105 => zqi r (fun x106 => (x106 = 0 ∨ x106 = 1) ∧ Q (some (.int x106)) σ105)) := by
    intro τ x g1 g2 g3 hq
    have F1 : zFm (fun i => i = 0 ∨ i = 12) zN0 (fun a => a = 166 ∨ a = 167 ∨ (180 ≤ a ∧ a ≤ 185)) σ τ := zFm_t F0 (zFm_m (zFm_u g1) (fun i q => Or.inr q) (fun _ q => q) (fun _ q => q))
    refine ⟨by rw [F1.1]; exact mK0, ?_⟩
    refine p_rclaim (zMb_m F1 a1) (zrD_m F1 (by omega) (fun a _ _ => by omega) a3).1 h3 g2 g3 (zRcb_cl (zrC_m F1 (by omega) (fun a _ _ => by omega) a5)) ?_
    rw [zqi_s]
    exact ⟨zbn1_01 _, hq τ (zIR_m F1 (by omega) ⟨id, id⟩ (fun a _ _ _ _ => by omega) ⟨bk, cb, a1, a2, a3, a4, a5, a6, a7, a8⟩) (zFm_fr F1 (fun a q => by omega))⟩
  cases hP : zmP m with
  | none =>
    rw [hP] at hQ a7
    have a7' : zI σ 160 56 = nI 0 := a7.2
    rw [a7', if_pos (by decide)]
    refine p_rlay (zMb_m F0 a1) (by rw [zIs (by omega)]; exact a3.1.1) h2.2 (Or.inl rfl) h4.1 a3.2 (fun c hc => (h4.2 c hc).1) (fun τ g1 g2 => ?_)
    rw [zqv_s]
    exact fin τ (zmr m, [], [], [], 0) g1 g2 (zVS_row h2.2 h4.1 h4.2) hQ
  | some x =>
    rw [hP] at hQ a7
    obtain ⟨p1, p2, p3⟩ := a7
    rw [p2, if_neg (by decide), p3]
    refine p_untold (zMb_m F0 a1) (zrD_m F0 (by omega) (fun a _ _ => by omega) a3).1 (h7 x hP) (fun τ g1 g2 => ?_)
    rw [zqv_s]
    exact fin τ x g1 g2 (h7 x hP) hQ
