/-! the class's steps, whole -/
theorem l_free {d st : Nat} {σ : zH} (hk : zK σ st = 6) {Q : Option Value → zH → Prop} (hQ : ∀ y, (∀ w p q g h, zSr σ st w p q g h → zSw w p q g h → y = nI (if zfree w h then 1 else 0)) → Q (some (.int y)) σ) : zM d 54 [.ref st] σ Q := by
  by_cases hh : ∃ w p q g h, zSr σ st w p q g h ∧ zSw w p q g h
  · obtain ⟨w, p, q, g, h, h1, h2⟩ := hh
    have h0 : zM d 54 [.ref st] σ (fun r τ => r = some (.int (nI (if zfree w h then 1 else 0))) ∧ τ = σ) := e_isFree h1 h2 ⟨rfl, rfl⟩
    refine b54 ⟨hk, ?_⟩
    have e : ∀ w' p' q' g' h', zSr σ st w' p' q' g' h' → zSw w' p' q' g' h' → zfree w' h' = zfree w h := by
      intro w' p' q' g' h' a1 a2
      have e1 : nI w' = nI w := a1.2.1.symm.trans h1.2.1
      have e2 : zhw h' = zhw h := a1.2.2.2.2.2.symm.trans h1.2.2.2.2.2
      have w1 := a2.1
      have w2 := h2.1
      have e3 : w' = w := (nI_eq (by omega) (by omega)).mp e1
      have h6 := a2.2.2.2.2.2.1
      have h7 := h2.2.2.2.2.2.1
      have e4 : (h' == 11) = (h == 11) := by
        have : ∀ a, a ≤ 11 → ∀ b, b ≤ 11 → zhw a = zhw b → (a == 11) = (b == 11) := by decide
        exact this h' h6 h h7 e2
      unfold zfree
      rw [e3, e4]
    have f0 := h1.2.1
    have f4 := h1.2.2.2.2.2
    have hz : ∀ y, y = nI (if zfree w h then 1 else 0) → Q (some (.int y)) σ := fun y hy => hQ y (fun w' p' q' g' h' a1 a2 => by rw [e w' p' q' g' h' a1 a2]; exact hy)
    have hw10 := h2.1
    have hh11 := h2.2.2.2.2.2.1
    have key : ∀ w, w ≤ 10 → ∀ h, h ≤ 11 → (nI w = nI 6 → nI 1 = nI (if zfree w h then 1 else 0)) ∧ (¬ nI w = nI 6 → (if ¬ zhw h = -1 then nI 0 else nI 1) = nI (if zfree w h then 1 else 0)) := by decide
    rw [f0, f4]
    by_cases c : nI w = nI 6
    · rw [if_pos c]
      exact hz _ ((key w hw10 h hh11).1 c)
    · rw [if_neg c]
      exact hz _ ((key w hw10 h hh11).2 c)
  · refine b54 ⟨hk, ?_⟩
    have hz : ∀ y, Q (some (.int y)) σ := fun y => hQ y (fun w p q g h a1 a2 => absurd ⟨w, p, q, g, h, a1, a2⟩ hh)
    by_cases c : zI σ st 0 = nI 6
    · rw [if_pos c]; exact hz _
    · rw [if_neg c]; exact hz _
theorem nI_z (x : Int32) : x + nI 0 = x := by simp [nI_0]
set_option maxHeartbeats 4000000 in
theorem p_cstp {d n Tr o k m : Nat} {σ : zH} {T : List zTok} {x : Int32} {blk : Nat → List zTok → zPS} (hT : zTok1 T n) (ht : 13 < Tr) (hk : k ≤ 40) (hm : m ≤ 450) (hTs : zTs σ Tr) (h2 : zI σ Tr 2 = nI k) (h3 : zI σ (Tr + 2) 3 = nI m) {Q : Option Value → zH → Prop} {R : List zTok} (hS : zRS σ T n (.ok R)) (hw : (zhdt R).1 ≤ 12) (hP : ∀ e, zPblk T n Tr (d + e + 38) 24 x blk) (hQ : ∀ τ k' m', zAs T n Tr o k k k' m m' σ τ (zstp blk k R) → Q none τ) : zM (d + 40) 22 [.ref 9, .ref Tr, .int x, .int (nI o)] σ Q := by
  obtain ⟨k1, k2, k3⟩ := zRS_k hT hS
  have hq : zQ σ Tr 0 = Tr + 1 := hTs.2.1
  have hn : zN σ (Tr + 1) = 40 := hTs.2.2.2.2.1
  refine b22 ⟨hTs.1, ?_⟩
  rw [h2]
  by_cases hk4 : 40 ≤ k
  · rw [if_neg (nI_nlt (by omega) (by omega))]
    refine ⟨k1, p_cfail hT hS (by omega) (fun τ g1 g2 => ?_)⟩
    rw [zqv_s]
    have e : zstp blk k R = .error (zflt 4 R) := by unfold zstp; rw [if_pos hk4]
    rw [e] at hQ
    exact hQ τ k m (zAs_n ht hk hm h2 h3 g2 g1 (fun _ _ _ _ q => by cases q))
  · have hst := hTs.2.2.2.2.2.1 k (by omega)
    rw [if_pos (nI_lt (by omega) (by omega)), hq, zcl k (by omega), hst.1, hn, nI_add, zIo (by omega), k2]
    refine ⟨Or.inl hTs.2.2.2.1, vp_in_nI (by omega) (by omega), k1, hst.2, ?_⟩
    obtain ⟨w, hwd⟩ : ∃ w, w = (zhdt R).1 := ⟨_, rfl⟩
    have ek : zKd (.ok R) = w := hwd.symm
    rw [ek]
    have S1 : zRS (zsI (zsI (zsI σ Tr 2 (nI (k + 1))) (Tr + 6 + k) 0 (nI w)) (Tr + 6 + k) 4 (nI 0)) T n (.ok R) := zRS_I 4 _ (by omega) (zRS_I 0 _ (by omega) (zRS_I 2 _ (by omega) hS))
    have F1 : zFg Tr (Tr + 46) zJ6 σ (zsI (zsI (zsI σ Tr 2 (nI (k + 1))) (Tr + 6 + k) 0 (nI w)) (Tr + 6 + k) 4 (nI 0)) := zFg_t (zFg_t (zFg_I 2 _ (by omega) (by omega) (by omega)) (zFg_I 0 _ (by omega) (by omega) (by omega))) (zFg_I 4 _ (by omega) (by omega) (by omega))
    refine p_goonS S1 (fun σ2 g1 g2 => ?_)
    rw [zqv_s]
    have g1' : zRS σ2 T n (.ok (zgn R)) := g1
    have F2 := zFg_t F1 (zFg_J (lo := Tr) (hi := Tr + 46) g2)
    have gI : ∀ a, a ≠ 9 → zI σ2 a = zI (zsI (zsI (zsI σ Tr 2 (nI (k + 1))) (Tr + 6 + k) 0 (nI w)) (Tr + 6 + k) 4 (nI 0)) a ∧ zA σ2 a = zA σ a := fun a ha => ⟨(g2.1.2.2.2.2 a (by omega)).1, (g2.1.2.2.2.2 a (by omega)).2.2.2.1⟩
    have hTs2 := zTs_g F2 ht hTs
    refine ⟨(zRS_k hT g1').1, (hTs2.2.2.2.2.2.1 k (by omega)).2, ?_⟩
    have e93 : zI σ2 9 3 = zI σ 9 3 := by rw [g2.2.2 3 (by unfold zJ4; omega), zIo (by omega), zIo (by omega), zIo (by omega)]
    have e94 : zI σ2 9 4 = zI σ 9 4 := by rw [g2.2.2 4 (by unfold zJ4; omega), zIo (by omega), zIo (by omega), zIo (by omega)]
    rw [e93]
    obtain ⟨τ, hτ⟩ : ∃ τ, τ = zsI σ2 9 3 (zI σ 9 3 + nI o) := ⟨_, rfl⟩
    rw [← hτ]
    have F3 : zFg Tr (Tr + 46) zJ6 σ τ := by
      rw [hτ]
      exact zFg_t F2 (zFg_m (zFg_c (lo := Tr) (hi := Tr + 46) (J := zJ6) (zFc_I _ (by unfold zJ6; omega))) (Nat.le_refl _) (Nat.le_refl _) (fun _ h => h))
    have tI : ∀ a, a ≠ 9 → zI τ a = zI (zsI (zsI (zsI σ Tr 2 (nI (k + 1))) (Tr + 6 + k) 0 (nI w)) (Tr + 6 + k) 4 (nI 0)) a := fun a ha => by rw [hτ, zIo ha]; exact (gI a ha).1
    have hS3 : zRS τ T n (.ok (zgn R)) := by
      rw [hτ]
      exact zRS_c (lo := 14) (hi := 14) (J := fun i => i = 3) (by omega) (zFg_c (zFc_I _ rfl)) (by omega) g1'
    have hB : zBg T n Tr o k m w σ τ (.ok (zgn R)) := by
      refine ⟨hS3, F3, fun a l1 l2 => ?_, fun i hi => ?_, ?_, ?_, ?_, ?_, ?_, ?_⟩
      · rw [hτ]; exact (gI a (by omega)).2
      · rw [tI _ (by omega), zIo (by omega), zIo (by omega), zIo (by omega)]
      · rw [tI _ (by omega), zIo (by omega), zIo (by omega), zIe]
      · rw [tI _ (by omega), zIo (by omega), zIo (by omega), zIo (by omega)]; exact h3
      · rw [tI _ (by omega), zIs (by omega), zIe]
      · rw [tI _ (by omega), zIe]
      · rw [hτ, zIe]
      · rw [hτ, zIs (by omega)]; exact e94
    have hw0 : zI τ (Tr + 6 + k) 0 = nI w := hB.2.2.2.2.2.2.1
    rw [hw0]
    by_cases h11 : w = 11
    · rw [if_neg (by rw [h11]; exact fun q => q rfl)]
      have e : zstp blk k R = (Except.ok (zgn R) : zPs).bind (zstm blk k) := by
        unfold zstp
        rw [if_neg hk4, if_pos (by omega)]
        rfl
      rw [e] at hQ
      rw [h11] at hB
      exact l_stm (d := d + 38) hT ht (by omega) hm hTs hB (by have := hP 1; rw [show d + 38 + 1 = d + 1 + 38 by omega]; exact this) hQ
    · rw [if_pos (fun q => h11 ((nI_eq (by omega) (by omega)).mp q))]
      by_cases h12 : w = 12
      · rw [if_neg (by rw [h12]; exact fun q => q rfl)]
        have e : zstp blk k R = (Except.ok (zgn R) : zPs).bind (zsif blk k) := by
          unfold zstp
          rw [if_neg hk4, if_neg (by omega), if_pos (by omega)]
          rfl
        rw [e] at hQ
        rw [h12] at hB
        exact l_sif hT ht (by omega) hm hTs hB (hP 0) hQ
      · rw [if_pos (fun q => h12 ((nI_eq (by omega) (by omega)).mp q))]
        have hTs3 := zTs_g F3 ht hTs
        have e : zstp blk k R = zspl w k (zgn R) := by
          unfold zstp
          rw [if_neg hk4, if_neg (by omega), if_neg (by omega), hwd]
        rw [e] at hQ
        refine p_cplain (d := d + 35) hT (by omega) (hTs3.2.2.2.2.2.1 k (by omega)).2 (by omega) hS3 hw0 hB.2.2.2.2.2.2.2.1 (fun υ f => ?_)
        rw [zqv_s]
        have F4 : zFg Tr (Tr + 46) zJ6 τ υ := zFg_m f.2.1 (by omega) (by omega) (fun i q => by unfold zJ4 at q; unfold zJ6; omega)
        have hTs4 := zTs_g F4 ht hTs3
        have hK6 := (hTs4.2.2.2.2.2.1 k (by omega)).2
        refine ⟨(zRS_k hT f.1).1, hK6, l_free hK6 (fun y hy => ?_)⟩
        rw [zqi_s]
        refine ⟨(zRS_k hT f.1).1, hTs4.1, hK6, ?_⟩
        have fI := f.2.1.2.2.2.2.2.2.1
        have f9 := f.2.1.2.2.2.2.2.2.2
        have eT : zI υ Tr 2 = nI (k + 1) := by rw [(fI Tr (by omega) (by omega)).1]; exact hB.2.2.2.2.1
        rw [zIo (by omega), eT]
        have fz := f.2.2.2
        have fs : zRS υ T n (zPt (zpln w (zgn R))) := f.1
        refine hQ _ (k + 1) m ⟨?_, ?_, ?_, ?_, by omega, by omega, Nat.le_refl _, hm, ?_, ?_, ?_⟩
        · refine zRS_I 6 _ (by omega) (zRS_c (σ := υ) (lo := 14) (hi := 14) (J := fun i => i = 4) (by omega) (zFg_c (zFc_I _ rfl)) (by omega) ?_)
          unfold zspl
          cases hz : zpln w (zgn R) with
          | error e => rw [hz] at fs; exact fs
          | ok a => rw [hz] at fs; exact fs
        · exact zFg_t (zFg_t (zFg_t F3 F4) (zFg_m (zFg_c (lo := Tr) (hi := Tr + 46) (J := zJ6) (zFc_I _ (by unfold zJ6; omega))) (Nat.le_refl _) (Nat.le_refl _) (fun _ h => h))) (zFg_I 6 _ (by omega) (by omega) (by omega))
        · intro a l1 l2 i hi
          show zA υ a i = _
          rw [(fI a (by omega) (by omega)).2.2.1]
          have := hB.2.2.1 a (by omega) (by omega)
          rw [this]
        · intro i hi
          rw [zIo (by omega), zIo (by omega), (fI _ (by omega) (by omega)).1]
          exact hB.2.2.2.1 i hi
        · rw [zIo (by omega), zIo (by omega)]; exact eT
        · rw [zIo (by omega), zIo (by omega), (fI (Tr + 2) (by omega) (by omega)).1]; exact hB.2.2.2.2.2.1
        · intro S dn ch R' hr
          unfold zspl at hr
          cases hz : zpln w (zgn R) with
          | error e => rw [hz] at hr; cases hr
          | ok a =>
            obtain ⟨⟨p, q, g, h⟩, R2⟩ := a
            rw [hz] at hr
            simp only [Except.ok.injEq, Prod.mk.injEq] at hr
            obtain ⟨⟨rfl, rfl, rfl⟩, rfl⟩ := hr
            have hsw := zpln_sw (by omega) hz
            obtain ⟨q1, q2, q3, q4⟩ := fz p q g h R2 hz
            have q0 : zI υ (Tr + 6 + k) 0 = nI w := f.2.2.1.trans hw0
            have hsr : zSr υ (Tr + 6 + k) w p q g h := ⟨hK6, q0, q1, q2, q3, q4⟩
            have yv := hy w p q g h hsr hsw
            refine ⟨rfl, ?_, ?_, fun _ => ⟨?_, fun i hi => ?_⟩⟩
            · rw [zIo (by omega), zIs (by omega), f9 3 (by unfold zJ4; omega), Nat.mul_one]
              exact hB.2.2.2.2.2.2.2.2.1
            · rw [zIo (by omega), zIe, f9 4 (by unfold zJ4; omega), hB.2.2.2.2.2.2.2.2.2, yv]
              cases hfz : zfree w h
              · rw [if_pos (by decide)]; simp
              · rw [if_neg (by decide)]; simp
            · unfold zcdn
              simp [zpC]
            · have hi0 : i = 0 := by simpa using hi
              rw [hi0]
              show zCSb _ Tr k (w, p, q, g, h, 0, k + 1, []) m
              have eS : ∀ j, j ≠ 6 → zI (zsI (zsI υ 9 4 (zI υ 9 4 + if y = 0 then nI 0 else nI o)) (Tr + 6 + k) 6 (nI (k + 1))) (Tr + 6 + k) j = zI υ (Tr + 6 + k) j := fun j hj => by rw [zIs hj, zIo (by omega)]
              refine ⟨?_, ?_, ?_, ?_, ?_, fun _ => ⟨⟨hK6, ?_, ?_, fun c => ?_, fun c => ?_, ?_⟩, hsw⟩, fun c => ?_, fun c => ?_⟩
              · rw [eS 0 (by omega)]; exact q0
              · rw [zIe]; rfl
              · show w ≤ 12; omega
              · show k + 1 ≤ 40; omega
              · show 0 ≤ 40; omega
              · rw [eS 0 (by omega)]; exact q0
              · rw [eS 1 (by omega)]; exact q1
              · rw [eS 2 (by omega)]; exact q2 c
              · rw [eS 3 (by omega)]; exact q3 c
              · rw [eS 4 (by omega)]; exact q4
              · exact absurd c (by show ¬ w = 11; omega)
              · exact absurd c (by show ¬ w = 12; omega)
