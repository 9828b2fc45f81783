/-! run, ends, choice, on -/
def zJrun (i : Nat) : Prop := i = 0 ∨ i = 12 ∨ (46 ≤ i ∧ i ≤ 49) ∨ (51 ≤ i ∧ i ≤ 54)
def zLrun (i : Nat) : Prop := i = 50 ∨ i = 55
def zArun (a : Nat) : Prop := a = 166 ∨ a = 167 ∨ (180 ≤ a ∧ a ≤ 185)
theorem zIR_R {σ τ : zH} {m : zMS} {run : Option (Option (Nat × Nat × Option (List Nat)))} (h : zFm zJrun zLrun zArun σ τ) (hR : zrRn τ run) (hI : zIR σ m) : zIR τ (zmsR run m) := by
  obtain ⟨bk, cb, a1, a2, a3, a4, a5, a6, a7, a8⟩ := hI
  exact ⟨bk, cb, zMb_m h a1, zrT_m h (by unfold zJrun; omega) (by unfold zArun; omega) a2, zrD_m h (by unfold zJrun; omega) (fun a _ _ => by unfold zArun; omega) a3, zrK_m h (by unfold zJrun; omega) (fun a _ _ => by unfold zArun; omega) a4, zrC_m h (by unfold zJrun; omega) (fun a _ _ => by unfold zArun; omega) a5, by rw [h.2.2.2.2.2.2.2.2.1 16 (by unfold zJrun; omega)]; exact a6, zrP_m h (by unfold zJrun; omega) (by unfold zLrun; omega) a7, hR⟩
theorem zFm_run {σ τ : zH} (h : zFq σ τ) : zFm zJrun zLrun zArun σ τ := zFm_m (zFm_q h) (fun i q => by unfold zJrun; omega) (fun _ q => q.elim) (fun a q => q)
set_option maxHeartbeats 4000000 in
theorem pr_run {d : Nat} {σ : zH} {m : zMS} (hI : zIR σ m) (hm : zMok m) {Q : Option Value → zH → Prop} (hQ : ∀ τ, zIR τ (zsrn m) → zFr 160 187 σ τ → Q (some (.int (zarn m))) τ) : zM (d + 28) 193 [.ref 160] σ Q := by
  have hI' := hI
  obtain ⟨bk, cb, a1, a2, a3, a4, a5, a6, a7, a8⟩ := hI
  have ⟨mK0, mQ1, mK1, mN1, mQ6, mK6, mN6, mQ7, mK7, mN7, mQ8, mK8, mN8, mQ9, mK9, mN9, mQ10, mK10, mN10, mQ11, mK11, mN11, mQ21, mK21, mN21, mQ22, mK22, mN22, mQ23, mK23, mN23, mQ24, mK24, mN24, mQ25, mK25, mN25, mQ26, mK26, mN26, mQ27, mK27, mN27, mQ28, mK28, mN28, mQ32, mK32, mN32, mQ33, mK33, mN33, mQ34, mK34, mN34, mQ35, mK35, mN35, mQ40, mK40, mN40, mQ41, mK41, mN41, mQ42, mK42, mN42, mQ43, mK43, mN43, mQ44, mK44, mN44, mQ45, mK45, mN45, mQ62, mK62, mN62⟩ := a1
  obtain ⟨h1, h2, h3, h4, ⟨h5, dn, ch, hseg, hch⟩, h6, h7, h8⟩ := hm
  obtain ⟨hwf, hce⟩ := zSeg_wf _ _ _ _ _ _ _ hseg
  have F0 : zFm zJrun zLrun zArun σ (zsI σ 160 0 (nI 0)) := zFm_I _ (by unfold zJrun; omega)
  have hA : ∀ a, zArun a → 160 ≤ a ∧ a < 187 := fun a q => by unfold zArun at q; omega
  unfold zsrn zarn zrn at hQ
  refine b193 ⟨mK0, ?_⟩
  rw [mQ9]
  refine p_rlook (f := (zmS m).length) (zMb_m F0 a1) (zrD_m F0 (by unfold zJrun; omega) (fun a _ _ => by unfold zArun; omega) a3).1 h3 (zRkb_k (zrK_m F0 (by unfold zJrun; omega) (fun a _ _ => by unfold zArun; omega) a4)) (zRcb_cl (zrC_m F0 (by unfold zJrun; omega) (fun a _ _ => by unfold zArun; omega) a5)) h2.2 (Or.inl rfl) h4.1 a3.2 h4.2 hwf (by omega) (fun L hL τ g1 g2 => ?_) (fun hL τ g1 => ?_)
  · rw [hL] at hQ
    obtain ⟨n1, n2⟩ := zbk_n (zmD m) (zmC m) L
    rw [zqi_s]
    have k0 : zK τ 160 = 13 := by rw [g1.1]; exact mK0
    obtain ⟨rr, hrr⟩ : ∃ rr, rr = (if zcnt (zmD m) (zmC m) L = L.length then nI 0 else nI 1) := ⟨_, rfl⟩
    obtain ⟨ω, hω⟩ : ∃ ω, ω = zsJ (zsI (zsI τ 160 48 (nI L.length)) 160 49 (nI (zcnt (zmD m) (zmC m) L))) 160 50 (zbR (zbk (zmD m) (zmC m) none L)) := ⟨_, rfl⟩
    simp only at hQ
    rw [← hrr] at hQ ⊢
    rw [← hω]
    have kω : zK ω 160 = 13 := by rw [hω]; exact k0
    have w48 : zI ω 160 48 = nI L.length := by rw [hω, zI_sJ, zIs (by omega), zIe]
    have w49 : zI ω 160 49 = nI (zcnt (zmD m) (zmC m) L) := by rw [hω, zI_sJ, zIe]
    have w50 : zJ ω 160 50 = zbR (zbk (zmD m) (zmC m) none L) := by rw [hω, zJe]
    have Fω : zFm zJrun zLrun zArun σ ω := by
      rw [hω]
      exact zFm_t (zFm_t (zFm_t (zFm_t F0 (zFm_run g1)) (zFm_I _ (by unfold zJrun; omega))) (zFm_I _ (by unfold zJrun; omega))) (zFm_J _ (by unfold zLrun; omega))
    rw [zIs (i := 52) (by omega), zIs (i := 52) (by omega), zIs (i := 52) (by omega), zIe, zIs (i := 48) (by omega), zIs (i := 48) (by omega), w48, zIs (i := 49) (by omega), zIs (i := 49) (by omega), zIs (i := 49) (by omega), w49, w50]
    refine ⟨kω, ?_⟩
    obtain ⟨κ, hκ⟩ : ∃ κ, κ = zsJ (zsI (zsI (zsI (zsI ω 160 52 rr) 160 51 (nI 1)) 160 53 (nI L.length)) 160 54 (nI (zcnt (zmD m) (zmC m) L))) 160 55 (zbR (zbk (zmD m) (zmC m) none L)) := ⟨_, rfl⟩
    rw [← hκ]
    have Fκ : zFm zJrun zLrun zArun σ κ := by
      rw [hκ]
      exact zFm_t (zFm_t (zFm_t (zFm_t (zFm_t Fω (zFm_I _ (by unfold zJrun; omega))) (zFm_I _ (by unfold zJrun; omega))) (zFm_I _ (by unfold zJrun; omega))) (zFm_I _ (by unfold zJrun; omega))) (zFm_J _ (by unfold zLrun; omega))
    refine hQ κ (zIR_R Fκ ⟨?_, ?_, ?_, ?_, ?_⟩ hI') (zFm_fr Fκ hA)
    · rw [hκ, zI_sJ, zIs (by omega), zIs (by omega), zIe]
    · rw [hκ, zI_sJ, zIs (by omega), zIs (by omega), zIs (by omega), zIe, hrr]
      split <;> rfl
    · rw [hκ, zI_sJ, zIs (by omega), zIe]
    · rw [hκ, zI_sJ, zIe]
    · rw [hκ, zJe]
  · rw [hL] at hQ
    rw [zqi_s]
    have k0 : zK τ 160 = 13 := by rw [g1.1]; exact mK0
    rw [zIs (i := 52) (by omega), zIs (i := 52) (by omega), zIs (i := 52) (by omega), zIe]
    refine ⟨k0, hQ _ (zIR_R ?_ ⟨?_, ?_⟩ hI') (zFm_fr (J := zJrun) (L := zLrun) ?_ hA)⟩
    · exact zFm_t (zFm_t (zFm_t (zFm_t (zFm_t (zFm_t F0 (zFm_run g1)) (zFm_I _ (by unfold zJrun; omega))) (zFm_I _ (by unfold zJrun; omega))) (zFm_I _ (by unfold zJrun; omega))) (zFm_I _ (by unfold zJrun; omega))) (zFm_J _ (by unfold zLrun; omega))
    · rw [zI_sJ, zIs (by omega), zIs (by omega), zIe]
    · rw [zI_sJ, zIs (by omega), zIs (by omega), zIs (by omega), zIe]
    · exact zFm_t (J := zJrun) (L := zLrun) (A := zArun) (zFm_t (zFm_t (zFm_t (zFm_t (zFm_t F0 (zFm_run g1)) (zFm_I _ (by unfold zJrun; omega))) (zFm_I _ (by unfold zJrun; omega))) (zFm_I _ (by unfold zJrun; omega))) (zFm_I _ (by unfold zJrun; omega))) (zFm_J _ (by unfold zLrun; omega))
def zaen (m : zMS) (x : Int32) : Int32 := match zmR m with
  | some (some (e, g, br)) => if x = nI 0 then nI e else if x = nI 1 then nI g else if x = nI 2 then (match br with | none => -1 | some r => nI r.length) else -1
  | _ => -1
def zach (m : zMS) (x : Int32) : Int32 := match zmR m with
  | some (some (_, _, some r)) => if x < 0 then -1 else if x < nI r.length then nI (r.getD x.toNatClampNeg 0) else -1
  | _ => -1
theorem p_rwlen {d : Nat} {σ : zH} {r : List Nat} (h : zrok 8 r) {Q : Option Value → zH → Prop} (hQ : Q (some (.int (nI r.length))) σ) : zM d 102 [.long (lN (zrC r))] σ Q := by
  refine b102 ?_
  rw [lN_i, zand15]
  have h8 := h.1
  have e : zrC r % 16 = r.length := by unfold zrC; omega
  rw [e]
  exact hQ
theorem z128c : ∀ k, k < 8 → 2 ^ (53 - 7 * k) = 16 * 128 ^ (8 - 1 - k) := by decide
theorem p_rwch {d k : Nat} {σ : zH} {r : List Nat} (h : zrok 8 r) (hk : k < r.length) {Q : Option Value → zH → Prop} (hQ : Q (some (.int (nI (r.getD k 0)))) σ) : zM d 103 [.long (lN (zrC r)), .int (nI k)] σ Q := by
  have h8 := h.1
  refine b103 ?_
  have hl := zrC_lt h
  rw [pk_mul, pk_sub (by omega), zlus_N (Nat.lt_trans hl (by decide)) (by omega), lN_i, zand127, z128c k (by omega)]
  have e : zrC r / (16 * 128 ^ (8 - 1 - k)) % 128 = r.getD k 0 + 1 := by
    have e1 : zrC r / 16 = zdv 128 8 r := by unfold zrC; omega
    rw [← Nat.div_div_eq_div_mul, e1]
    have := zdv_dig (B := 128) (by decide) 8 k r (by omega) h
    rw [if_pos hk] at this
    exact this
  rw [e, pk_sub (by omega)]
  exact hQ
theorem pc_ends {d : Nat} {σ : zH} {m : zMS} {x : Int32} (hI : zIC σ m) (hm : zMok m) {Q : Option Value → zH → Prop} (hQ : Q (some (.int (zaen m x))) σ) : zM (d + 1) 115 [.ref 1, .int x] σ Q := by
  obtain ⟨T, T', o, o', a1, a2, a3, a4, a5, a6, a7, a8, a9, a10⟩ := hI
  obtain ⟨⟨u0, u1, u2, u3, u4, u5, u6, u7, u8, u9, u10, u11⟩, hTT, hoo, urun⟩ := a1
  unfold zaen at hQ
  refine b115 ⟨u0, ?_⟩
  have h6 := hm.2.2.2.2.2.1
  cases hr : zmR m with
  | none =>
    rw [hr] at urun hQ
    have urun' : zI σ 1 11 = nI 0 := urun
    rw [urun', if_neg (by decide)]
    exact hQ
  | some r1 =>
    cases r1 with
    | none =>
      rw [hr] at urun hQ
      have urun' : zI σ 1 11 = nI 0 := urun
      rw [urun', if_neg (by decide)]
      exact hQ
    | some t =>
      obtain ⟨e, g, br⟩ := t
      rw [hr] at urun hQ
      obtain ⟨v1, v2, v3, v4⟩ := urun
      obtain ⟨-, -, -, hz⟩ := h6 e g br hr
      rw [v1, if_pos (by decide), v2, v3, v4]
      simp only at hQ
      by_cases c0 : x = nI 0
      · rw [if_pos c0] at hQ ⊢; exact hQ
      rw [if_neg c0] at hQ ⊢
      by_cases c1 : x = nI 1
      · rw [if_pos c1] at hQ ⊢; exact hQ
      rw [if_neg c1] at hQ ⊢
      by_cases c2 : x = nI 2
      · rw [if_pos c2] at hQ ⊢
        cases br with
        | none =>
          rw [show zbC none = Int64.ofInt (-1) from rfl, if_neg (fun q => q ((lg_cmp_eq _ _).mpr rfl))]
          exact hQ
        | some r =>
          rw [show zbC (some r) = lN (zrC r) from rfl, if_pos (fun q => zbC_m1 (hz r rfl) ((lg_cmp_eq _ _).mp q))]
          refine p_rwlen (hz r rfl) ?_
          rw [zqi_s]
          exact hQ
      · rw [if_neg c2] at hQ ⊢
        exact hQ
theorem pc_choice {d : Nat} {σ : zH} {m : zMS} {x : Int32} (hI : zIC σ m) (hm : zMok m) {Q : Option Value → zH → Prop} (hQ : Q (some (.int (zach m x))) σ) : zM (d + 1) 116 [.ref 1, .int x] σ Q := by
  obtain ⟨T, T', o, o', a1, a2, a3, a4, a5, a6, a7, a8, a9, a10⟩ := hI
  obtain ⟨⟨u0, u1, u2, u3, u4, u5, u6, u7, u8, u9, u10, u11⟩, hTT, hoo, urun⟩ := a1
  unfold zach at hQ
  refine b116 ⟨u0, ?_⟩
  have h6 := hm.2.2.2.2.2.1
  cases hr : zmR m with
  | none =>
    rw [hr] at urun hQ
    have urun' : zI σ 1 11 = nI 0 := urun
    rw [urun', if_pos (by decide)]
    exact hQ
  | some r1 =>
    cases r1 with
    | none =>
      rw [hr] at urun hQ
      have urun' : zI σ 1 11 = nI 0 := urun
      rw [urun', if_pos (by decide)]
      exact hQ
    | some t =>
      obtain ⟨e, g, br⟩ := t
      rw [hr] at urun hQ
      obtain ⟨v1, v2, v3, v4⟩ := urun
      obtain ⟨-, -, -, hz⟩ := h6 e g br hr
      rw [v1, if_neg (by decide), v4]
      cases br with
      | none =>
        rw [show zbC none = Int64.ofInt (-1) from rfl, if_pos ((lg_cmp_eq _ _).mpr rfl)]
        exact hQ
      | some r =>
        simp only at hQ
        have hk := hz r rfl
        rw [show zbC (some r) = lN (zrC r) from rfl, if_neg (fun q => zbC_m1 hk ((lg_cmp_eq _ _).mp q))]
        by_cases c0 : x < 0
        · rw [if_pos c0] at hQ ⊢; exact hQ
        rw [if_neg c0] at hQ ⊢
        refine p_rwlen hk ?_
        rw [zqi_s]
        by_cases c1 : x < nI r.length
        · rw [if_pos c1] at hQ ⊢
          obtain ⟨e1, e2⟩ := zI_nat c0
          have h8 := hk.1
          have hlt : x.toNatClampNeg < r.length := by
            by_cases q : x.toNatClampNeg < r.length
            · exact q
            · rw [← e1] at c1
              exact absurd c1 (nI_nlt (by omega) (by omega))
          rw [v4, show zbC (some r) = lN (zrC r) from rfl]
          refine ⟨u0, ?_⟩
          have := p_rwch (d := d) (σ := σ) hk hlt (Q := fun r σ109 => zqi r (fun x110 => Q (some (.int x110)) σ109)) (by rw [zqi_s]; exact hQ)
          rw [e1] at this
          exact this
        · rw [if_neg c1] at hQ ⊢
          exact hQ
