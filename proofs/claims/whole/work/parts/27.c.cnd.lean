/-! the class's conditions -/
theorem zAd_n {T : List zTok} {n o m : Nat} {σ τ : zH} {r : zPC} (ho : 13 < o) (hm : m ≤ 450) (hi : zI σ o 3 = nI m) (h2 : zFc zJ4 σ τ) (h1 : zRS τ T n (zPq r)) (h3 : ∀ cs R, r = .ok (cs, R) → cs = []) : zAd T n o m m σ τ r := by
  have hF : zFg o (o + 4) zJ4 σ τ := zFg_c h2
  have hx := h2.1.2.2.2.2
  refine ⟨h1, hF, fun a l h i hi => by rw [(hx a (by omega)).2.2.2.1], Nat.le_refl _, hm, by rw [(hx o (by omega)).1]; exact hi, fun cs R hr hc => ?_⟩
  rw [h3 cs R hr]
  exact ⟨rfl, trivial⟩
theorem zAd_f {T : List zTok} {n o m m' : Nat} {σ τ υ : zH} {r : zPC} (ho : 13 < o) (h2 : zFc zJ4 σ τ) (h : zAd T n o m m' τ υ r) : zAd T n o m m' σ υ r := by
  have hF : zFg o (o + 4) zJ4 σ τ := zFg_c h2
  have hx := h2.1.2.2.2.2
  obtain ⟨a1, a2, a3, a4, a5, a6, a7⟩ := h
  exact ⟨a1, zFg_t hF a2, fun a l h i hi => by rw [a3 a l h i hi, (hx a (by omega)).2.2.2.1], a4, a5, a6, a7⟩
theorem zcI {σ τ : zH} {o m : Nat} (ho : 13 < o) (h2 : zFc zJ4 σ τ) (hi : zI σ o 3 = nI m) : zI τ o 3 = nI m := by
  rw [(h2.1.2.2.2.2 o (by omega)).1]; exact hi
theorem zcO {σ τ : zH} {o : Nat} (h2 : zFc zJ4 σ τ) (hO : zCo σ o) : zCo τ o := zCo_g (zFg_c (lo := 0) (hi := 0) h2) hO
set_option maxHeartbeats 1000000 in
theorem p_ccmp {d n o m : Nat} {σ : zH} {T : List zTok} {s : zPs} (hT : zTok1 T n) (hS : zRS σ T n s) (ho : 13 < o) (hO : zCo σ o) (hm : m ≤ 450) (hi : zI σ o 3 = nI m) {Q : Option Value → zH → Prop} (hQ : ∀ τ m', zAd T n o m m' σ τ (s.bind zacm) → Q none τ) : zM (d + 3) 38 [.ref 9, .ref o] σ Q := by
  refine b38 ⟨(zRS_k hT hS).1, p_cnmm hT hS (fun τ x g1 g2 g3 => ?_)⟩
  rw [zqi_s]
  obtain ⟨k1, k2, k3⟩ := zRS_k hT g1
  refine ⟨k1, ?_⟩
  rw [k2]
  have bad : ¬ (42 ≤ zKd (zPo (s.bind znm)) ∧ zKd (zPo (s.bind znm)) ≤ 47) → zM (d + 2) 19 [.ref 9, .int (nI 2)] τ (fun r υ => zqv r (Q none υ)) := by
    intro h
    refine p_cfail hT g1 (by omega) (fun υ f1 f2 => ?_)
    rw [zqv_s]
    have hz : ∃ e, s.bind zacm = .error e ∧ (zPo (s.bind znm)).bind (fun R => (.error (zflt 2 R) : zPs)) = .error e := by
      cases s with
      | error e => exact ⟨e, rfl, rfl⟩
      | ok R =>
        have e1 : (Except.ok R : zPs).bind znm = znm R := rfl
        rw [e1] at h ⊢
        show ∃ e, zacm R = .error e ∧ _
        unfold zacm
        cases hz : znm R with
        | error e => exact ⟨e, rfl, rfl⟩
        | ok a =>
          obtain ⟨v, R1⟩ := a
          rw [hz] at h
          refine ⟨zflt 2 R1, ?_, rfl⟩
          simp only [zSqc]
          exact if_neg h
    obtain ⟨e, z1, z2⟩ := hz
    rw [z2] at f1
    rw [z1] at hQ
    exact hQ υ m (zAd_n ho hm hi (zFc_t g2 f2) f1 (fun cs R hr => by cases hr))
  by_cases h1 : zKd (zPo (s.bind znm)) < 42
  · rw [if_pos (nI_lt h1 (by omega))]
    exact bad (by omega)
  · rw [if_neg (nI_nlt (by omega) (by omega))]
    by_cases h2 : zKd (zPo (s.bind znm)) ≤ 47
    · rw [if_pos (nI_le h2 (by omega))]
      cases s with
      | error e => exact absurd h2 (by show ¬ 49 ≤ 47; omega)
      | ok R =>
        have e1 : (Except.ok R : zPs).bind znm = znm R := rfl
        rw [e1] at g1 g3 h1 h2 k2
        cases hz : znm R with
        | error e => rw [hz] at h2; exact absurd h2 (by show ¬ 49 ≤ 47; omega)
        | ok a =>
          obtain ⟨v, R1⟩ := a
          rw [hz] at g1 g3 h1 h2 k2
          have g1' : zRS τ T n (.ok R1) := g1
          have h1' : 42 ≤ (zhdt R1).1 := Nat.le_of_not_lt h1
          have h2' : (zhdt R1).1 ≤ 47 := h2
          have hx := g3 v R1 rfl
          have ez : (Except.ok R : zPs).bind zacm = zSqc (znm (zgn R1)) (fun b R2 => .ok ([((zhdt R1).1, v, b)], R2)) := by
            show zacm R = _
            unfold zacm
            rw [hz]
            simp only [zSqc]
            rw [if_pos ⟨h1', h2'⟩]
          rw [ez] at hQ
          refine p_goonS g1' (fun υ f1 f2 => ?_)
          rw [zqv_s]
          have f1' : zRS υ T n (.ok (zgn R1)) := f1
          refine ⟨(zRS_k hT f1').1, p_cnmm hT f1' (fun ρ y q1 q2 q3 => ?_)⟩
          rw [zqi_s]
          have hF := zFc_t (zFc_t g2 f2) q2
          have hO2 := zcO hF hO
          refine ⟨hO2.1, ?_⟩
          have e3 : (Except.ok (zgn R1) : zPs).bind znm = znm (zgn R1) := rfl
          rw [e3] at q1 q3
          have ek : zKd (zPo ((Except.ok R : zPs).bind znm)) = (zhdt R1).1 := by rw [e1, hz]; rfl
          rw [ek]
          refine p_cadd (c := ((zhdt R1).1, v, zPx 0 (znm (zgn R1)))) ho hO2 hm (zcI ho hF hi) q1 (fun R' hR => ⟨rfl, hx, ?_⟩) (fun w m' r1 => ?_)
          · cases hz2 : znm (zgn R1) with
            | error e => rw [hz2] at hR; cases hR
            | ok b =>
              rw [q3 b.1 b.2 hz2]
              rfl
          · rw [zqv_s]
            refine hQ w m' (zAd_f ho hF ?_)
            have e4 : zSqc (znm (zgn R1)) (fun b R2 => .ok ([((zhdt R1).1, v, b)], R2)) = (zPo (znm (zgn R1))).bind (zOc ((zhdt R1).1, v, zPx 0 (znm (zgn R1)))) := by
              cases znm (zgn R1) <;> rfl
            rw [e4]
            exact r1
    · rw [if_neg (nI_ge (by omega) (by omega))]
      exact bad (by omega)
def zats3 (k pr g : Nat) (R : List zTok) : zPC := zSqc (zpile 9 R) (fun p R4 => .ok ([(k, pr, p * 16 + g)], R4))
def zats2 (k g : Nat) (R : List zTok) : zPC := zSqc (if k = 26 then .ok (31, R) else zprp R) (fun pr R3 => zats3 k pr g R3)
theorem l_ts3 {d n o m : Nat} {σ : zH} {T : List zTok} {s : zPs} (hT : zTok1 T n) (hS : zRS σ T n s) (ho : 13 < o) (hO : zCo σ o) (hm : m ≤ 450) (hi : zI σ o 3 = nI m) {Q : Option Value → zH → Prop} {k pr g : Nat} (hg : g < 10) (hQ : ∀ τ m', zAd T n o m m' σ τ (s.bind (zats3 k pr g)) → Q none τ) : zW (d + 2) 36 42 [(0, .ref 9), (1, .ref o), (2, .int (nI k)), (3, .int (nI g))] [.int (nI pr)] σ Q := by
  refine b36_42 ⟨(zRS_k hT hS).1, p_cpl (fb := 9) hT hS (fun τ g1 g2 => ?_)⟩
  rw [zqi_s]
  refine p_pan zpile_lt hg ?_
  rw [zqi_s]
  have hO2 := zcO g2 hO
  refine ⟨hO2.1, p_cadd (c := (k, pr, zPx 0 (s.bind (zpile 9)) * 16 + g)) ho hO2 hm (zcI ho g2 hi) g1 (fun _ _ => ⟨rfl, rfl, rfl⟩) (fun υ m' r1 => ?_)⟩
  rw [zqv_s]
  refine hQ υ m' (zAd_f ho g2 ?_)
  have e : s.bind (zats3 k pr g) = (zPo (s.bind (zpile 9))).bind (zOc (k, pr, zPx 0 (s.bind (zpile 9)) * 16 + g)) := by
    cases s with
    | error e => rfl
    | ok R =>
      show zats3 k pr g R = (zPo (zpile 9 R)).bind (zOc (k, pr, zPx 0 (zpile 9 R) * 16 + g))
      unfold zats3
      cases zpile 9 R <;> rfl
  rw [e]
  exact r1
theorem l_ts2 {d n o m : Nat} {σ : zH} {T : List zTok} {s : zPs} (hT : zTok1 T n) (hS : zRS σ T n s) (ho : 13 < o) (hO : zCo σ o) (hm : m ≤ 450) (hi : zI σ o 3 = nI m) {Q : Option Value → zH → Prop} {k g : Nat} (hk : k < 50) (hg : g < 10) (hQ : ∀ τ m', zAd T n o m m' σ τ (s.bind (zats2 k g)) → Q none τ) : zW (d + 2) 36 26 [(0, .ref 9), (1, .ref o), (2, .int (nI k))] [.int (nI g)] σ Q := by
  refine b36_26 ?_
  by_cases h : k = 26
  · rw [if_neg (by rw [h]; exact fun q => q rfl)]
    refine l_ts3 hT hS ho hO hm hi hg (fun τ m' r1 => hQ τ m' ?_)
    have e : s.bind (zats2 k g) = s.bind (zats3 k 31 g) := by
      cases s with
      | error e => rfl
      | ok R =>
        show zats2 k g R = zats3 k 31 g R
        unfold zats2
        rw [if_pos h]
        rfl
    rw [e]
    exact r1
  · rw [if_pos (fun q => h ((nI_eq (by omega) (by omega)).mp q))]
    refine ⟨(zRS_k hT hS).1, p_cprp hT hS (fun τ g1 g2 => ?_)⟩
    rw [zqi_s]
    refine l_ts3 hT g1 ho (zcO g2 hO) hm (zcI ho g2 hi) hg (fun υ m' r1 => hQ υ m' (zAd_f ho g2 ?_))
    have e : s.bind (zats2 k g) = (zPo (s.bind zprp)).bind (zats3 k (zPx 31 (s.bind zprp)) g) := by
      cases s with
      | error e => rfl
      | ok R =>
        show zats2 k g R = (zPo (zprp R)).bind (zats3 k (zPx 31 (zprp R)) g)
        unfold zats2
        rw [if_neg h]
        cases zprp R <;> rfl
    rw [e]
    exact r1
theorem p_ctest {d n o m : Nat} {σ : zH} {T : List zTok} {s : zPs} (hT : zTok1 T n) (hS : zRS σ T n s) (ho : 13 < o) (hO : zCo σ o) (hm : m ≤ 450) (hi : zI σ o 3 = nI m) {Q : Option Value → zH → Prop} (hk : zKd s = 24 ∨ zKd s = 25 ∨ zKd s = 26) (hQ : ∀ τ m', zAd T n o m m' σ τ (s.bind zats) → Q none τ) : zM (d + 2) 36 [.ref 9, .ref o] σ Q := by
  obtain ⟨k1, k2, k3⟩ := zRS_k hT hS
  refine b36 ⟨k1, p_goonS hS (fun τ g1 g2 => ?_)⟩
  rw [zqv_s, k2]
  cases s with
  | error e => exact absurd hk (by show ¬ (49 = 24 ∨ 49 = 25 ∨ 49 = 26); omega)
  | ok R =>
    have g1' : zRS τ T n (.ok (zgn R)) := g1
    have e0 : (Except.ok R : zPs).bind zats = zats R := rfl
    rw [e0] at hQ
    by_cases h : (zhdt R).1 = 25
    · rw [if_neg (by rw [show zKd (.ok R) = 25 from h]; exact fun q => q rfl)]
      refine ⟨(zRS_k hT g1').1, p_cnm (lo := 2) (hi := 9) hT g1' (by omega) (by omega) (fun υ f1 f2 => ?_)⟩
      rw [zqi_s]
      have hx := znum_le (lo := 2) (hi := 9) (s := .ok (zgn R)) (by omega)
      have hF := zFc_t g2 f2
      refine l_ts2 hT f1 ho (zcO hF hO) hm (zcI ho hF hi) k3 (by omega) (fun ρ m' r1 => hQ ρ m' (zAd_f ho hF ?_))
      have e : zats R = (zPo (znum 2 9 (zgn R))).bind (zats2 (zhdt R).1 (zPx 2 (znum 2 9 (zgn R)))) := by
        unfold zats
        rw [if_pos h]
        cases znum 2 9 (zgn R) <;> rfl
      rw [e]
      exact r1
    · rw [if_pos (fun q => h ((nI_eq (show (zhdt R).1 < 2 ^ 31 from Nat.lt_trans k3 (by decide)) (by omega)).mp q))]
      refine l_ts2 hT g1' ho (zcO g2 hO) hm (zcI ho g2 hi) k3 (by omega) (fun ρ m' r1 => hQ ρ m' (zAd_f ho g2 ?_))
      have e : zats R = zats2 (zhdt R).1 0 (zgn R) := by
        unfold zats
        rw [if_neg h]
        rfl
      rw [e]
      exact r1
