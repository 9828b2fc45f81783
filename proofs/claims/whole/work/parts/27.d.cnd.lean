/-! the class's conditions, whole -/
def zPone (T : List zTok) (n D M : Nat) (x : Int32) (f : List zTok → zPC) : Prop := ∀ (o m : Nat) (σ : zH) (s : zPs) (Q : Option Value → zH → Prop), 13 < o → zCo σ o → m ≤ 450 → zI σ o 3 = nI m → zRS σ T n s → (∀ τ m', zAd T n o m m' σ τ (s.bind f) → Q none τ) → zM D M [.ref 9, .ref o, .int x] σ Q
theorem zAd_nil {T : List zTok} {n o m : Nat} {σ : zH} {s : zPs} {r : zPC} (ho : 13 < o) (hm : m ≤ 450) (hi : zI σ o 3 = nI m) (hS : zRS σ T n s) (hr : r = s.bind (fun R => .ok ([], R))) : zAd T n o m m σ σ r := by
  refine zAd_n ho hm hi (zFc_r _ σ) ?_ (fun cs R h => ?_)
  · rw [hr]
    cases s <;> exact hS
  · rw [hr] at h
    cases s with
    | error e => cases h
    | ok R1 =>
      have e : (Except.ok R1 : zPs).bind (fun R => (.ok ([], R) : zPC)) = .ok ([], R1) := rfl
      rw [e] at h
      simp only [Except.ok.injEq, Prod.mk.injEq] at h
      exact h.1.symm
theorem l_lop33 {n D o : Nat} {T : List zTok} {x : Int32} {f : List zTok → zPC} (hT : zTok1 T n) (hP : zPone T n D 34 x f) (ho : 13 < o) : ∀ (c i m : Nat) (σ : zH) (s : zPs) (Q : Option Value → zH → Prop), i + c = 900 → zCo σ o → m ≤ 450 → zI σ o 3 = nI m → zRS σ T n s → (∀ τ m', zAd T n o m m' σ τ (s.bind (zlop f 22 c)) → Q none τ) → zW (D + 1) 33 8 [(0, .ref 9), (1, .ref o), (2, .int x), (3, .int (nI i))] [] σ Q := by
  intro c
  induction c with
  | zero =>
    intro i m σ s Q hc hO hm hi hS hQ
    refine b33_8 ?_
    rw [if_pos (nI_le (by omega) (by omega))]
    exact hQ σ m (zAd_nil ho hm hi hS (by cases s <;> rfl))
  | succ c ih =>
    intro i m σ s Q hc hO hm hi hS hQ
    obtain ⟨k1, k2, k3⟩ := zRS_k hT hS
    refine b33_8 ?_
    rw [if_neg (nI_ge (by omega) (by omega)), k2]
    refine ⟨k1, ?_⟩
    by_cases h : zKd s = 22
    · rw [if_neg (by rw [h]; exact fun q => q rfl)]
      cases s with
      | error e => exact absurd h (by show ¬ 49 = 22; omega)
      | ok R =>
        refine p_goonS hS (fun τ g1 g2 => ?_)
        rw [zqv_s]
        have g1' : zRS τ T n (.ok (zgn R)) := g1
        refine ⟨(zRS_k hT g1').1, hP o m τ _ _ ho (zcO g2 hO) hm (zcI ho g2 hi) g1' (fun υ m1 f1 => ?_)⟩
        rw [zqv_s]
        have e1 : (Except.ok (zgn R) : zPs).bind f = f (zgn R) := rfl
        rw [e1] at f1
        have hO2 := zCo_g f1.2.1 (zcO g2 hO)
        refine ⟨hO2.1, p_cadd (c := (22, 0, 0)) ho hO2 f1.2.2.2.2.1 f1.2.2.2.2.2.1 f1.1 (fun _ _ => ⟨rfl, rfl, rfl⟩) (fun ρ m2 q1 => ?_)⟩
        rw [zqv_s, nI_add]
        have q2 := zAd_s f1 q1
        have hO3 := zCo_g q1.2.1 hO2
        refine ih (i + 1) m2 ρ _ _ (by omega) hO3 q2.2.2.2.2.1 q2.2.2.2.2.2.1 q2.1 (fun w m3 r1 => hQ w m3 (zAd_f ho g2 ?_))
        have e2 : (Except.ok R : zPs).bind (zlop f 22 (c + 1)) = zSq (zSq (f (zgn R)) (zOc (22, 0, 0))) (zlop f 22 c) := by
          show zlop f 22 (c + 1) R = _
          rw [zlop, if_pos h]
        rw [e2]
        exact zAd_s q2 r1
    · rw [if_pos (fun q => h ((nI_eq (by omega) (by omega)).mp q))]
      refine hQ σ m (zAd_nil ho hm hi hS ?_)
      cases s with
      | error e => rfl
      | ok R =>
        show zlop f 22 (c + 1) R = _
        rw [zlop, if_neg h]
        rfl
theorem p_l33 {n D : Nat} {T : List zTok} {x : Int32} {f : List zTok → zPC} (hT : zTok1 T n) (hP : zPone T n D 34 x f) : zPone T n (D + 1) 33 x (fun R => zSq (f R) (zlop f 22 900)) := by
  intro o m σ s Q ho hO hm hi hS hQ
  refine b33 ⟨(zRS_k hT hS).1, hP o m σ s _ ho hO hm hi hS (fun τ m1 g1 => ?_)⟩
  rw [zqv_s]
  refine l_lop33 hT hP ho 900 0 m1 τ _ Q (by omega) (zCo_g g1.2.1 hO) g1.2.2.2.2.1 g1.2.2.2.2.2.1 g1.1 (fun υ m2 f1 => hQ υ m2 ?_)
  have e : s.bind (fun R => zSq (f R) (zlop f 22 900)) = zSq (s.bind f) (zlop f 22 900) := by cases s <;> rfl
  rw [e]
  exact zAd_s g1 f1

theorem l_lop32 {n D o : Nat} {T : List zTok} {x : Int32} {f : List zTok → zPC} (hT : zTok1 T n) (hP : zPone T n D 33 x f) (ho : 13 < o) : ∀ (c i m : Nat) (σ : zH) (s : zPs) (Q : Option Value → zH → Prop), i + c = 900 → zCo σ o → m ≤ 450 → zI σ o 3 = nI m → zRS σ T n s → (∀ τ m', zAd T n o m m' σ τ (s.bind (zlop f 21 c)) → Q none τ) → zW (D + 1) 32 8 [(0, .ref 9), (1, .ref o), (2, .int x), (3, .int (nI i))] [] σ Q := by
  intro c
  induction c with
  | zero =>
    intro i m σ s Q hc hO hm hi hS hQ
    refine b32_8 ?_
    rw [if_pos (nI_le (by omega) (by omega))]
    exact hQ σ m (zAd_nil ho hm hi hS (by cases s <;> rfl))
  | succ c ih =>
    intro i m σ s Q hc hO hm hi hS hQ
    obtain ⟨k1, k2, k3⟩ := zRS_k hT hS
    refine b32_8 ?_
    rw [if_neg (nI_ge (by omega) (by omega)), k2]
    refine ⟨k1, ?_⟩
    by_cases h : zKd s = 21
    · rw [if_neg (by rw [h]; exact fun q => q rfl)]
      cases s with
      | error e => exact absurd h (by show ¬ 49 = 21; omega)
      | ok R =>
        refine p_goonS hS (fun τ g1 g2 => ?_)
        rw [zqv_s]
        have g1' : zRS τ T n (.ok (zgn R)) := g1
        refine ⟨(zRS_k hT g1').1, hP o m τ _ _ ho (zcO g2 hO) hm (zcI ho g2 hi) g1' (fun υ m1 f1 => ?_)⟩
        rw [zqv_s]
        have e1 : (Except.ok (zgn R) : zPs).bind f = f (zgn R) := rfl
        rw [e1] at f1
        have hO2 := zCo_g f1.2.1 (zcO g2 hO)
        refine ⟨hO2.1, p_cadd (c := (21, 0, 0)) ho hO2 f1.2.2.2.2.1 f1.2.2.2.2.2.1 f1.1 (fun _ _ => ⟨rfl, rfl, rfl⟩) (fun ρ m2 q1 => ?_)⟩
        rw [zqv_s, nI_add]
        have q2 := zAd_s f1 q1
        have hO3 := zCo_g q1.2.1 hO2
        refine ih (i + 1) m2 ρ _ _ (by omega) hO3 q2.2.2.2.2.1 q2.2.2.2.2.2.1 q2.1 (fun w m3 r1 => hQ w m3 (zAd_f ho g2 ?_))
        have e2 : (Except.ok R : zPs).bind (zlop f 21 (c + 1)) = zSq (zSq (f (zgn R)) (zOc (21, 0, 0))) (zlop f 21 c) := by
          show zlop f 21 (c + 1) R = _
          rw [zlop, if_pos h]
        rw [e2]
        exact zAd_s q2 r1
    · rw [if_pos (fun q => h ((nI_eq (by omega) (by omega)).mp q))]
      refine hQ σ m (zAd_nil ho hm hi hS ?_)
      cases s with
      | error e => rfl
      | ok R =>
        show zlop f 21 (c + 1) R = _
        rw [zlop, if_neg h]
        rfl
theorem p_l32 {n D : Nat} {T : List zTok} {x : Int32} {f : List zTok → zPC} (hT : zTok1 T n) (hP : zPone T n D 33 x f) : zPone T n (D + 1) 32 x (fun R => zSq (f R) (zlop f 21 900)) := by
  intro o m σ s Q ho hO hm hi hS hQ
  refine b32 ⟨(zRS_k hT hS).1, hP o m σ s _ ho hO hm hi hS (fun τ m1 g1 => ?_)⟩
  rw [zqv_s]
  refine l_lop32 hT hP ho 900 0 m1 τ _ Q (by omega) (zCo_g g1.2.1 hO) g1.2.2.2.2.1 g1.2.2.2.2.2.1 g1.1 (fun υ m2 f1 => hQ υ m2 ?_)
  have e : s.bind (fun R => zSq (f R) (zlop f 21 900)) = zSq (s.bind f) (zlop f 21 900) := by cases s <;> rfl
  rw [e]
  exact zAd_s g1 f1

theorem p_cbth {n D : Nat} {T : List zTok} {x : Int32} {f : List zTok → zPC} (hT : zTok1 T n) (hP : zPone T n D 34 x f) : zPone T n (D + 1) 33 x (zbth f) := p_l33 hT hP
theorem p_ccnd {n D : Nat} {T : List zTok} {x : Int32} {f : List zTok → zPC} (hT : zTok1 T n) (hP : zPone T n D 34 x f) : zPone T n (D + 2) 32 x (zcnd f) := p_l32 hT (p_cbth hT hP)
/-- what stands in a condition that is neither not nor ( -/
def zatm (R : List zTok) : zPC := if (zhdt R).1 = 24 ∨ (zhdt R).1 = 25 ∨ (zhdt R).1 = 26 then zats R else zacm R
theorem p_catm {d n o m : Nat} {σ : zH} {T : List zTok} {s : zPs} {x : Int32} (hT : zTok1 T n) (hS : zRS σ T n s) (ho : 13 < o) (hO : zCo σ o) (hm : m ≤ 450) (hi : zI σ o 3 = nI m) {Q : Option Value → zH → Prop} (hk : zKd s ≠ 23 ∧ zKd s ≠ 39) (hQ : ∀ τ m', zAd T n o m m' σ τ (s.bind zatm) → Q none τ) : zM (d + 4) 34 [.ref 9, .ref o, .int x] σ Q := by
  obtain ⟨k1, k2, k3⟩ := zRS_k hT hS
  refine b34 ⟨k1, ?_⟩
  rw [k2]
  have ne : ∀ k, k < 50 → zKd s ≠ k → ¬ nI (zKd s) = nI k := fun k hk h q => h ((nI_eq (by omega) (by omega)).mp q)
  rw [if_neg (ne 23 (by omega) hk.1)]
  have tst : zKd s = 24 ∨ zKd s = 25 ∨ zKd s = 26 → zM (d + 3) 36 [.ref 9, .ref o] σ (fun r τ => zqv r (Q none τ)) := by
    intro h
    refine p_ctest hT hS ho hO hm hi h (fun τ m' g => ?_)
    rw [zqv_s]
    have e : s.bind zatm = s.bind zats := by
      cases s with
      | error e => rfl
      | ok R =>
        show zatm R = zats R
        unfold zatm
        rw [if_pos h]
    rw [e] at hQ
    exact hQ τ m' g
  by_cases h24 : zKd s = 24
  · rw [if_pos (by rw [h24])]
    exact tst (by omega)
  · rw [if_neg (ne 24 (by omega) h24)]
    by_cases h25 : zKd s = 25
    · rw [if_pos (by rw [h25])]
      exact tst (by omega)
    · rw [if_neg (ne 25 (by omega) h25)]
      by_cases h26 : zKd s = 26
      · rw [if_pos (by rw [h26])]
        exact tst (by omega)
      · rw [if_neg (ne 26 (by omega) h26), if_neg (ne 39 (by omega) hk.2)]
        refine p_ccmp hT hS ho hO hm hi (fun τ m' g => ?_)
        rw [zqv_s]
        have e : s.bind zatm = s.bind zacm := by
          cases s with
          | error e => rfl
          | ok R =>
            show zatm R = zacm R
            unfold zatm
            rw [if_neg (by show ¬ (zKd (.ok R) = 24 ∨ zKd (.ok R) = 25 ∨ zKd (.ok R) = 26); omega)]
        rw [e] at hQ
        exact hQ τ m' g
theorem zone_a {j : Nat} {s : zPs} (hk : zKd s ≠ 23 ∧ zKd s ≠ 39) : s.bind (zone j) = s.bind zatm := by
  cases s with
  | error e => rfl
  | ok R =>
    have h1 : ¬ (zhdt R).1 = 23 := hk.1
    have h2 : ¬ (zhdt R).1 = 39 := hk.2
    show zone j R = zatm R
    cases j with
    | zero => rw [zone, if_neg (by omega)]; rfl
    | succ j => rw [zone, if_neg h1, if_neg h2]; rfl
set_option maxHeartbeats 1000000 in
theorem p_cone {n : Nat} {T : List zTok} (hT : zTok1 T n) : ∀ j, j ≤ 8 → ∀ d, zPone T n (d + 4 + 4 * j) 34 (nI (8 - j)) (zone j) := by
  intro j
  induction j with
  | zero =>
    intro _ d o m σ s Q ho hO hm hi hS hQ
    by_cases hk : zKd s ≠ 23 ∧ zKd s ≠ 39
    · rw [zone_a hk] at hQ
      exact p_catm hT hS ho hO hm hi hk hQ
    · have hk' : zKd s = 23 ∨ zKd s = 39 := by omega
      obtain ⟨k1, k2, k3⟩ := zRS_k hT hS
      have nst : zM (d + 3) 35 [.ref 9, .ref o, .int (nI (8 - 0))] σ (fun r τ => zqv r (Q none τ)) := by
        refine b35 ?_
        rw [if_neg (nI_nlt (by omega) (by omega))]
        refine ⟨k1, p_cfail hT hS (by omega) (fun τ g1 g2 => ?_)⟩
        rw [zqv_s, zqv_s]
        cases s with
        | error e => exact absurd hk' (by show ¬ (49 = 23 ∨ 49 = 39); omega)
        | ok R =>
          have e : (Except.ok R : zPs).bind (zone 0) = .error (zflt 4 R) := by
            show zone 0 R = _
            rw [zone, if_pos hk']
          rw [e] at hQ
          exact hQ τ m (zAd_n ho hm hi g2 g1 (fun cs R hr => by cases hr))
      refine b34 ⟨k1, ?_⟩
      rw [k2]
      rcases hk' with h | h
      · rw [if_pos (by rw [h])]
        exact nst
      · rw [h, if_neg (by decide), if_neg (by decide), if_neg (by decide), if_neg (by decide), if_pos rfl]
        exact nst
  | succ j ih =>
    intro hj d o m σ s Q ho hO hm hi hS hQ
    by_cases hk : zKd s ≠ 23 ∧ zKd s ≠ 39
    · rw [zone_a hk] at hQ
      exact p_catm (d := d + 4 * (j + 1)) hT hS ho hO hm hi hk hQ |> fun h => by rw [show d + 4 + 4 * (j + 1) = d + 4 * (j + 1) + 4 by omega]; exact h
    · have hk' : zKd s = 23 ∨ zKd s = 39 := by omega
      obtain ⟨k1, k2, k3⟩ := zRS_k hT hS
      have hP := ih (by omega) d
      have ex : nI (8 - (j + 1)) + nI 1 = nI (8 - j) := by rw [nI_add, show 8 - (j + 1) + 1 = 8 - j by omega]
      have nst : zM (d + 4 + 4 * j + 3) 35 [.ref 9, .ref o, .int (nI (8 - (j + 1)))] σ (fun r τ => zqv r (Q none τ)) := by
        refine b35 ?_
        rw [if_pos (nI_lt (by omega) (by omega)), k2, ex]
        refine ⟨k1, ?_⟩
        cases s with
        | error e => exact absurd hk' (by show ¬ (49 = 23 ∨ 49 = 39); omega)
        | ok R =>
          rcases hk' with h | h
          · rw [if_neg (by rw [h]; exact fun q => q rfl)]
            refine p_goonS hS (fun τ g1 g2 => ?_)
            rw [zqv_s]
            have g1' : zRS τ T n (.ok (zgn R)) := g1
            have hP' : zPone T n (d + 4 + 4 * j + 2) 34 (nI (8 - j)) (zone j) := by
              rw [show d + 4 + 4 * j + 2 = d + 2 + 4 + 4 * j by omega]
              exact ih (by omega) (d + 2)
            refine ⟨(zRS_k hT g1').1, hP' o m τ _ _ ho (zcO g2 hO) hm (zcI ho g2 hi) g1' (fun υ m1 f1 => ?_)⟩
            rw [zqv_s]
            have e1 : (Except.ok (zgn R) : zPs).bind (zone j) = zone j (zgn R) := rfl
            rw [e1] at f1
            have hO2 := zCo_g f1.2.1 (zcO g2 hO)
            refine ⟨hO2.1, p_cadd (c := (23, 0, 0)) ho hO2 f1.2.2.2.2.1 f1.2.2.2.2.2.1 f1.1 (fun _ _ => ⟨rfl, rfl, rfl⟩) (fun ρ m2 q1 => ?_)⟩
            rw [zqv_s, zqv_s]
            have e : (Except.ok R : zPs).bind (zone (j + 1)) = zSq (zone j (zgn R)) (zOc (23, 0, 0)) := by
              show zone (j + 1) R = _
              rw [zone, if_pos h]
            rw [e] at hQ
            exact hQ ρ m2 (zAd_f ho g2 (zAd_s f1 q1))
          · have h23 : ¬ (zhdt R).1 = 23 := by intro q; have h' : (zhdt R).1 = 39 := h; omega
            rw [if_pos (by rw [h]; decide)]
            refine p_goonS hS (fun τ g1 g2 => ?_)
            rw [zqv_s]
            have g1' : zRS τ T n (.ok (zgn R)) := g1
            refine ⟨(zRS_k hT g1').1, p_ccnd hT hP o m τ _ _ ho (zcO g2 hO) hm (zcI ho g2 hi) g1' (fun υ m1 f1 => ?_)⟩
            rw [zqv_s]
            have e1 : (Except.ok (zgn R) : zPs).bind (zcnd (zone j)) = zcnd (zone j) (zgn R) := rfl
            rw [e1] at f1
            refine ⟨(zRS_k hT f1.1).1, p_cexp (k := 40) hT f1.1 (by omega) (fun ρ q1 q2 => ?_)⟩
            rw [zqv_s, zqv_s]
            have e : (Except.ok R : zPs).bind (zone (j + 1)) = zSq (zcnd (zone j) (zgn R)) (zNl (zexp 40)) := by
              show zone (j + 1) R = _
              rw [zone, if_neg h23, if_pos h]
            rw [e] at hQ
            exact hQ ρ m1 (zAd_f ho g2 (zAd_s f1 (zAd_0 ho f1.2.2.2.2.1 f1.2.2.2.2.2.1 q1 q2)))
      rw [show d + 4 + 4 * (j + 1) = d + 4 + 4 * j + 3 + 1 by omega]
      refine b34 ⟨k1, ?_⟩
      rw [k2]
      rcases hk' with h | h
      · rw [if_pos (by rw [h])]
        exact nst
      · rw [h, if_neg (by decide), if_neg (by decide), if_neg (by decide), if_neg (by decide), if_pos rfl]
        exact nst
/-- a whole condition: method 32 from nested 0 -/
def zcon (R : List zTok) : zPC := zcnd (zone 8) R
theorem p_ccon {n : Nat} {T : List zTok} (hT : zTok1 T n) (d : Nat) : zPone T n (d + 38) 32 (nI 0) zcon := p_ccnd hT (p_cone hT 8 (by omega) d)
