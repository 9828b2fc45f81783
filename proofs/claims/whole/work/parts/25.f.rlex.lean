/-! the reference's next, whole -/
theorem zTk_1 (B : List Nat) (i : Nat) : 1 ≤ (zTk B i).length := (zTk_len (B := B) (B.length - i) i (Nat.le_refl _)).2
set_option maxHeartbeats 2000000 in
theorem l_rnext {d : Nat} {σ0 : zH} {B : List Nat} (hx0 : zRx σ0 B) {Q : Option Value → zH → Prop} : ∀ (m i : Nat) (σ : zH), B.length - i ≤ m → i ≤ B.length → zFy σ0 σ → zI σ 160 4 = nI i → (∀ τ e, zFy σ0 τ → zRtk τ (zhdt (zTk B i)) → zI τ 160 4 = nI e → e ≤ B.length → zTk B e = zgn (zTk B i) → Q none τ) → zW (d + 2) 142 0 [(0, .ref 160)] [] σ Q := by
  have hB := hx0.2.1.2.2
  have hB9 := hx0.2.1.1
  intro m
  induction m with
  | zero =>
    intro i σ hm hi hF h4 hQ
    have hx := zRx_l hF hx0
    have k0 := hx.1.1
    have hzh : zhr B i = -1 := by unfold zhr; rw [if_neg (by omega)]
    refine b142_0 ?_
    refine ⟨k0, e_here hx h4 hi ?_⟩
    rw [zqi_s, hzh, if_neg (by decide)]
    refine ⟨k0, e_here hx h4 hi ?_⟩
    rw [zqi_s, hzh, if_pos (by decide), h4]
    have hF1 : zFy σ (zsI σ 160 14 (nI i)) := zFy_I _ (by omega)
    refine ⟨k0, e_here (zRx_l hF1 hx) (by simp only [zh]; simpa using h4) hi ?_⟩
    rw [zqi_s, hzh, if_neg (by decide)]
    refine ⟨k0, ?_⟩
    have eT : zTk B i = [(49, 0, B.length)] := by rw [zTk_u, if_pos (by omega)]
    rw [eT] at hQ
    refine hQ _ B.length (zFy_t hF (zFy_t hF1 (zFy_I _ (by omega)))) ⟨?_, ?_, ?_, ?_, ?_, ?_⟩ ?_ (by omega) ?_
    · simp only [zh]
      simp
      show nI i = nI B.length
      rw [show i = B.length by omega]
    · intro _
      simp only [zh]
      simp
    · exact fun h => absurd (show 49 ≤ 35 from h) (by decide)
    · exact fun h => absurd (show 49 = 36 from h) (by decide)
    · exact fun _ h => absurd (show 49 ≤ 47 from h) (by decide)
    · exact fun h => absurd (show 49 = 48 from h) (by decide)
    · simp only [zh]
      simp
      rw [h4, show i = B.length by omega]
    · rw [zTk_u, if_pos (by omega)]
      rfl
  | succ m ih =>
    intro i σ hm hi hF h4 hQ
    by_cases hiB : B.length ≤ i
    · exact ih i σ (by omega) hi hF h4 hQ
    have hlt : i < B.length := by omega
    have hx := zRx_l hF hx0
    have k0 := hx.1.1
    have hzh : zhr B i = nI (B.getD i 0) := by unfold zhr; rw [if_pos hlt]
    have hzA : zhA B i = zcA (B.getD i 0) := by unfold zhA; rw [decide_eq_true hlt, Bool.true_and]
    have hzD : zhD B i = zcD (B.getD i 0) := by unfold zhD; rw [decide_eq_true hlt, Bool.true_and]
    have hc := hB _ (zgd_mem hlt)
    have hT := zTk_u B i
    rw [if_neg hiB] at hT
    have hte := ztk_e hlt
    have blank : zcB (B.getD i 0) = true → zW (d + 2) 142 0 [(0, .ref 160)] [] (zsI σ 160 4 (nI (i + 1))) Q := by
      intro h
      rw [if_pos h] at hT
      rw [hT] at hQ
      exact ih (i + 1) _ (by omega) (by omega) (zFy_t hF (zFy_I _ (by omega))) (by simp only [zh]; simp) hQ
    refine b142_0 ?_
    refine ⟨k0, e_here hx h4 hi ?_⟩
    rw [zqi_s, hzh]
    by_cases c32 : B.getD i 0 = 32
    · rw [if_pos (by rw [c32]), h4, nI_add]
      exact ⟨k0, blank (by rw [c32]; rfl)⟩
    rw [if_neg (fun q => c32 ((nI_eq (by omega) (by omega)).mp q))]
    refine ⟨k0, e_here hx h4 hi ?_⟩
    rw [zqi_s, hzh]
    by_cases c10 : B.getD i 0 = 10
    · rw [if_neg (by rw [c10]; exact fun q => q rfl), h4, nI_add]
      exact ⟨k0, blank (by rw [c10]; rfl)⟩
    rw [if_pos (fun q => c10 ((nI_eq (by omega) (by omega)).mp q)), h4]
    have hnb : zcB (B.getD i 0) = false := by unfold zcB; rw [decide_eq_false c32, decide_eq_false c10]; rfl
    rw [if_neg (by rw [hnb]; decide)] at hT
    have hgn : zgn (zTk B i) = zTk B (ztk B i).2 := by rw [hT]; exact zgn_c (zTk_1 _ _)
    have hhd : zhdt (zTk B i) = (ztk B i).1 := by rw [hT]; rfl
    rw [hgn, hhd] at hQ
    have hF1 : zFy σ0 (zsI σ 160 14 (nI i)) := zFy_t hF (zFy_I _ (by omega))
    have g4 : zI (zsI σ 160 14 (nI i)) 160 4 = nI i := by simp only [zh]; simpa using h4
    have g14 : zI (zsI σ 160 14 (nI i)) 160 14 = nI i := by simp only [zh]; simp
    generalize zsI σ 160 14 (nI i) = σ1 at hF1 g4 g14 ⊢
    have hx1 := zRx_l hF1 hx0
    have k1 := hx1.1.1
    refine ⟨k0, e_here hx1 g4 hi ?_⟩
    rw [zqi_s]
    have at70 : zcR (B.getD i 0) = true → zW (d + 2) 142 70 [(0, .ref 160), (1, .int (zhr B i))] [] σ1 Q := by
      intro hr
      refine b142_70 ?_
      refine e_rlet hB ?_
      rw [zqi_s, hzA]
      refine ⟨k1, p_rrun hx1 g4 g14 hi (fun τ u1 u2 => ?_)⟩
      rw [zqv_s]
      have hz : ztk B i = ((zwdk (zWd B i), zwdv (zWd B i), i), i + (zWd B i).length) := by unfold ztk; rw [if_pos hr]
      have hk := zRtk_run hlt hr rfl u1 u2
      rw [hz] at hQ hte
      exact hQ τ _ (zFy_t hF1 u1.1) hk u1.2.1 hte.2 rfl
    rw [if_pos (by rw [hzh, ← nI_0]; exact nI_le (by omega) (by omega))]
    refine e_rlet hB ?_
    rw [zqi_s, hzA]
    cases ca : zcA (B.getD i 0) with
    | true =>
      rw [if_pos (by decide)]
      exact at70 (by unfold zcR; rw [ca]; rfl)
    | false =>
      rw [if_neg (by decide)]
      refine e_rdgt hB ?_
      rw [zqi_s, hzD]
      cases cd : zcD (B.getD i 0) with
      | true =>
        rw [if_neg (by decide)]
        exact at70 (by unfold zcR; rw [ca, cd]; rfl)
      | false =>
        have hr : zcR (B.getD i 0) = false := by unfold zcR; rw [ca, cd]; rfl
        have hz : ztk B i = ((zsk (B.getD i 0) (zeqn B i), 0, i), i + zsl (zsk (B.getD i 0) (zeqn B i))) := by unfold ztk; rw [if_neg (by rw [hr]; decide)]
        rw [hz] at hQ hte
        rw [if_pos (by decide), g4, nI_add, hzh]
        refine ⟨k1, ?_⟩
        have hF2 : zFy σ0 (zsI σ1 160 4 (nI (i + 1))) := zFy_t hF1 (zFy_I _ (by omega))
        have j4 : zI (zsI σ1 160 4 (nI (i + 1))) 160 4 = nI (i + 1) := by simp only [zh]; simp
        have j14 : zI (zsI σ1 160 4 (nI (i + 1))) 160 14 = nI i := by simp only [zh]; simpa using g14
        generalize zsI σ1 160 4 (nI (i + 1)) = σ2 at hF2 j4 j14 ⊢
        have hx2 := zRx_l hF2 hx0
        generalize B.getD i 0 = c at *
        have sl1 : zsl (zsk c false) = 1 := by
          have h1 := zsl_12 (zsk c false)
          by_cases h2 : zsl (zsk c false) = 2
          · exact absurd (zsk_eq h2) (by decide)
          · omega
        have at109 : zdb c = true → zW (d + 2) 142 109 [(0, .ref 160), (1, .int (nI c))] [] σ2 Q := by
          intro hd
          refine b142_109 ?_
          refine ⟨hx2.1.1, e_here hx2 j4 (by omega) ?_⟩
          have e : (if ¬ zhr B (i + 1) = nI 61 then nI 0 else nI 1) = nI (zbn1 (zeqn B i)) := by
            unfold zhr zeqn
            by_cases h1 : i + 1 < B.length
            · have h256' : B.getD (i + 1) 0 < 256 := hB _ (zgd_mem h1)
              rw [if_pos h1]
              by_cases h61 : B.getD (i + 1) 0 = 61
              · rw [if_neg (by rw [h61]; exact fun q => q rfl), decide_eq_true h1, decide_eq_true h61]
                rfl
              · rw [if_pos (fun q => h61 ((nI_eq (by omega) (by omega)).mp q)), decide_eq_true h1, decide_eq_false h61]
                rfl
            · rw [if_neg h1, if_pos (by decide), decide_eq_false h1]
              rfl
          rw [zqi_s, e]
          cases hq : zeqn B i with
          | false =>
            rw [hq] at hQ hte
            rw [if_pos (by decide)]
            refine l_rsg hc hx2.1 j14 (fun τ q1 q2 q3 => ?_) (fun h => absurd h (by decide))
            exact hQ τ _ (zFy_t hF2 q1) q3 (by rw [q2, j4]; simp only [sl1]) hte.2 rfl
          | true =>
            rw [hq] at hQ hte
            rw [if_neg (by decide), j4, nI_add]
            have hF3 : zFy σ0 (zsI σ2 160 4 (nI (i + 1 + 1))) := zFy_t hF2 (zFy_I _ (by omega))
            have sl2 : zsl (zsk c true) = 2 := by
              unfold zdb at hd
              simp only [Bool.or_eq_true, decide_eq_true_eq] at hd
              rcases hd with (h | h) | h <;> rw [h] <;> rfl
            refine ⟨hx2.1.1, l_rsg hc (zRx_l hF3 hx0).1 (by simp only [zh]; simpa using j14) (fun τ q1 q2 q3 => ?_) (fun _ => hd)⟩
            refine hQ τ _ (zFy_t hF3 q1) q3 ?_ hte.2 rfl
            rw [q2]
            simp only [zh, sl2]
            simp
        have at122 : zdb c = false → zW (d + 2) 142 122 [(0, .ref 160), (1, .int (nI c))] [] σ2 Q := by
          intro hd
          refine b142_122 ?_
          rw [if_pos (by decide)]
          have es : ∀ b, zsk c b = zsk c false := by
            intro b
            unfold zdb at hd
            simp only [Bool.or_eq_false_iff, decide_eq_false_iff_not] at hd
            unfold zsk
            rw [if_neg hd.1.1, if_neg hd.1.1, if_neg hd.1.2, if_neg hd.1.2, if_neg hd.2, if_neg hd.2]
          rw [es (zeqn B i)] at hQ hte
          refine l_rsg (eq := false) hc hx2.1 j14 (fun τ q1 q2 q3 => ?_) (fun h => absurd h (by decide))
          exact hQ τ _ (zFy_t hF2 q1) q3 (by rw [q2, j4]; simp only [sl1]) hte.2 rfl
        by_cases c33 : c = 33
        · rw [if_pos (by rw [c33])]
          exact at109 (by rw [c33]; rfl)
        rw [if_neg (fun q => c33 ((nI_eq (by omega) (by omega)).mp q))]
        by_cases c60 : c = 60
        · rw [if_pos (by rw [c60])]
          exact at109 (by rw [c60]; rfl)
        rw [if_neg (fun q => c60 ((nI_eq (by omega) (by omega)).mp q))]
        by_cases c62 : c = 62
        · rw [if_neg (by rw [c62]; exact fun q => q rfl)]
          exact at109 (by rw [c62]; rfl)
        · rw [if_pos (fun q => c62 ((nI_eq (by omega) (by omega)).mp q))]
          exact at122 (by unfold zdb; rw [decide_eq_false c33, decide_eq_false c60, decide_eq_false c62]; rfl)
theorem p_rnext {d i : Nat} {σ : zH} {B : List Nat} (hx : zRx σ B) (hi : i ≤ B.length) (h4 : zI σ 160 4 = nI i) {Q : Option Value → zH → Prop} (hQ : ∀ τ e, zFy σ τ → zRtk τ (zhdt (zTk B i)) → zI τ 160 4 = nI e → e ≤ B.length → zTk B e = zgn (zTk B i) → Q none τ) : zM (d + 2) 142 [.ref 160] σ Q := b142 (l_rnext hx (B.length - i) i σ (Nat.le_refl _) hi (zFy_r σ) h4 hQ)
