/-! the class's small readers -/
/-- kind of the token before the cursor -/
abbrev zKd : zPs → Nat
  | .ok R => (zhdt R).1
  | .error _ => 49
theorem zRS_k {σ : zH} {T : List zTok} {n : Nat} {s : zPs} (hT : zTok1 T n) (hS : zRS σ T n s) : zK σ 9 = 3 ∧ zI σ 9 2 = nI (zKd s) ∧ zKd s < 50 := by
  cases s with
  | error e => exact ⟨hS.1.1, hS.1.2.2.2.2.1, (by decide : 49 < 50)⟩
  | ok R => exact ⟨hS.1.1, hS.1.2.2.2.2.1, (zCu_hd hT hS.1).1⟩
theorem p_cfail {d n : Nat} {σ : zH} {T : List zTok} {s : zPs} (hT : zTok1 T n) (hS : zRS σ T n s) {Q : Option Value → zH → Prop} {f : Nat} (hf : 0 < f ∧ f < 10) (hQ : ∀ τ, zRS τ T n (s.bind (fun R => .error (zflt f R))) → zFc zJ4 σ τ → Q none τ) : zM d 19 [.ref 9, .int (nI f)] σ Q :=
  p_fail hT hf hS (fun τ g1 g2 => hQ τ g1 (zFc_m g2 (fun _ h => h)))
theorem p_cexp {d n : Nat} {σ : zH} {T : List zTok} {s : zPs} (hT : zTok1 T n) (hS : zRS σ T n s) {Q : Option Value → zH → Prop} {k : Nat} (hk : k < 50) (hQ : ∀ τ, zRS τ T n (s.bind (zexp k)) → zFc zJ4 σ τ → Q none τ) : zM (d + 1) 20 [.ref 9, .int (nI k)] σ Q :=
  p_expect hT hk hS (fun τ g1 g2 => hQ τ g1 (zFc_m g2 (fun _ h => h)))
theorem p_cnm {d n : Nat} {σ : zH} {T : List zTok} {s : zPs} (hT : zTok1 T n) (hS : zRS σ T n s) {Q : Option Value → zH → Prop} {lo hi : Nat} (hlo : lo < 100) (hhi : hi < 100) (hQ : ∀ τ, zRS τ T n (zPo (s.bind (znum lo hi))) → zFc zJ4 σ τ → Q (some (.int (nI (zPx lo (s.bind (znum lo hi)))))) τ) : zM (d + 1) 31 [.ref 9, .int (nI lo), .int (nI hi)] σ Q :=
  p_cnum hT hlo hhi hS (fun τ g1 g2 => hQ τ g1 (zFc_m g2 (fun _ h => h)))
theorem p_cpl {d n : Nat} {σ : zH} {T : List zTok} {s : zPs} (hT : zTok1 T n) (hS : zRS σ T n s) {Q : Option Value → zH → Prop} {fb : Nat} (hQ : ∀ τ, zRS τ T n (zPo (s.bind (zpile fb))) → zFc zJ4 σ τ → Q (some (.int (nI (zPx 0 (s.bind (zpile fb)))))) τ) : zM (d + 1) 26 [.ref 9, .int (zfbI fb)] σ Q :=
  p_cpile hT hS (fun τ g1 g2 => hQ τ g1 (zFc_m g2 (fun _ h => h)))
theorem zPo_ok {r : zPv} {v : Nat} {R : List zTok} (h : r = .ok (v, R)) : zPo r = .ok R := by rw [h]; rfl
/-- to a pile -/
def ztgt (fb : Nat) (R : List zTok) : zPv := match zexp 14 R with
  | .ok R1 => zpile fb R1
  | .error e => .error e
theorem p_ctgt {d n : Nat} {σ : zH} {T : List zTok} {s : zPs} (hT : zTok1 T n) (hS : zRS σ T n s) {Q : Option Value → zH → Prop} {fb : Nat} (hQ : ∀ τ, zRS τ T n (zPo (s.bind (ztgt fb))) → zFc zJ4 σ τ → Q (some (.int (nI (zPx 0 (s.bind (ztgt fb)))))) τ) : zM (d + 2) 27 [.ref 9, .int (zfbI fb)] σ Q := by
  refine b27 ⟨(zRS_k hT hS).1, p_cexp hT hS (by omega) (fun τ g1 g2 => ?_)⟩
  rw [zqv_s]
  refine ⟨(zRS_k hT g1).1, p_cpl hT g1 (fun υ f1 f2 => ?_)⟩
  rw [zqi_s]
  have e : (s.bind (zexp 14)).bind (zpile fb) = s.bind (ztgt fb) := by
    cases s with
    | error e => rfl
    | ok R =>
      show (zexp 14 R).bind (zpile fb) = ztgt fb R
      unfold ztgt
      cases zexp 14 R <;> rfl
  rw [e] at f1 ⊢
  exact hQ υ f1 (zFc_t g2 f2)
/-- a number, or free -/
def zfon (lo : Nat) (R : List zTok) : zPv := if (zhdt R).1 = 16 then .ok (11, zgn R) else znum lo 9 R
def zman (R : List zTok) : zPv := if (zhdt R).1 = 15 then .ok (10, zgn R) else zfon 0 R
theorem p_cfon {d n : Nat} {σ : zH} {T : List zTok} {s : zPs} (hT : zTok1 T n) (hS : zRS σ T n s) {Q : Option Value → zH → Prop} {lo : Nat} (hlo : lo < 10) (hQ : ∀ τ x, zRS τ T n (zPo (s.bind (zfon lo))) → zFc zJ4 σ τ → (∀ v R, s.bind (zfon lo) = .ok (v, R) → x = zhw v) → Q (some (.int x)) τ) : zM (d + 2) 30 [.ref 9, .int (nI lo)] σ Q := by
  obtain ⟨k1, k2, k3⟩ := zRS_k hT hS
  refine b30 ⟨k1, ?_⟩
  rw [k2]
  by_cases h : zKd s = 16
  · rw [if_neg (by rw [h]; exact fun q => q rfl)]
    refine p_goonS hS (fun τ g1 g2 => ?_)
    rw [zqv_s]
    cases s with
    | error e => cases h
    | ok R =>
      have e : (Except.ok R : zPs).bind (zfon lo) = .ok (11, zgn R) := by
        show zfon lo R = _
        unfold zfon
        rw [if_pos h]
      rw [e] at hQ
      refine hQ τ (-1) g1 g2 (fun v R' hv => ?_)
      simp only [Except.ok.injEq, Prod.mk.injEq] at hv
      rw [← hv.1]
      rfl
  · rw [if_pos (fun q => h ((nI_eq (by omega) (by omega)).mp q))]
    refine p_cnm hT hS (by omega) (by omega) (fun τ g1 g2 => ?_)
    rw [zqi_s]
    have e : s.bind (zfon lo) = s.bind (znum lo 9) := by
      cases s with
      | error e => rfl
      | ok R =>
        show zfon lo R = znum lo 9 R
        unfold zfon
        rw [if_neg h]
    rw [e] at hQ
    refine hQ τ _ g1 g2 (fun v R' hv => ?_)
    rw [hv]
    have hv9 : v ≤ 9 := by
      cases s with
      | error e => cases hv
      | ok R =>
        have hv' : znum lo 9 R = .ok (v, R') := hv
        unfold znum at hv'
        split at hv'
        · split at hv'
          · simp only [Except.ok.injEq, Prod.mk.injEq] at hv'
            omega
          · cases hv'
        · cases hv'
    show nI v = zhw v
    unfold zhw
    rw [if_neg (by omega), if_neg (by omega)]
theorem p_cman {d n : Nat} {σ : zH} {T : List zTok} {s : zPs} (hT : zTok1 T n) (hS : zRS σ T n s) {Q : Option Value → zH → Prop} (hQ : ∀ τ x, zRS τ T n (zPo (s.bind zman)) → zFc zJ4 σ τ → (∀ v R, s.bind zman = .ok (v, R) → x = zhw v) → Q (some (.int x)) τ) : zM (d + 3) 28 [.ref 9] σ Q := by
  obtain ⟨k1, k2, k3⟩ := zRS_k hT hS
  refine b28 ⟨k1, ?_⟩
  rw [k2]
  by_cases h : zKd s = 15
  · rw [if_neg (by rw [h]; exact fun q => q rfl)]
    refine p_goonS hS (fun τ g1 g2 => ?_)
    rw [zqv_s]
    cases s with
    | error e => cases h
    | ok R =>
      have e : (Except.ok R : zPs).bind zman = .ok (10, zgn R) := by
        show zman R = _
        unfold zman
        rw [if_pos h]
      rw [e] at hQ
      refine hQ τ (nI 9) g1 g2 (fun v R' hv => ?_)
      simp only [Except.ok.injEq, Prod.mk.injEq] at hv
      rw [← hv.1]
      rfl
  · rw [if_pos (fun q => h ((nI_eq (by omega) (by omega)).mp q))]
    refine p_cfon (lo := 0) hT hS (by omega) (fun τ x g1 g2 g3 => ?_)
    rw [zqi_s]
    have e : s.bind zman = s.bind (zfon 0) := by
      cases s with
      | error e => rfl
      | ok R =>
        show zman R = zfon 0 R
        unfold zman
        rw [if_neg h]
    rw [e] at hQ
    exact hQ τ x g1 g2 g3
theorem p_cplace {d n : Nat} {σ : zH} {T : List zTok} {s : zPs} (hT : zTok1 T n) (hS : zRS σ T n s) {Q : Option Value → zH → Prop} (hQ : ∀ τ x, zRS τ T n (zPo (s.bind (zfon 1))) → zFc zJ4 σ τ → (∀ v R, s.bind (zfon 1) = .ok (v, R) → x = zhw v) → Q (some (.int x)) τ) : zM (d + 3) 29 [.ref 9] σ Q := by
  refine b29 ⟨(zRS_k hT hS).1, p_cfon (lo := 1) hT hS (by omega) (fun τ x g1 g2 g3 => ?_)⟩
  rw [zqi_s]
  exact hQ τ x g1 g2 g3
theorem p_cprp {d n : Nat} {σ : zH} {T : List zTok} {s : zPs} (hT : zTok1 T n) (hS : zRS σ T n s) {Q : Option Value → zH → Prop} (hQ : ∀ τ, zRS τ T n (zPo (s.bind zprp)) → zFc zJ4 σ τ → Q (some (.int (nI (zPx 31 (s.bind zprp))))) τ) : zM (d + 1) 37 [.ref 9] σ Q := by
  obtain ⟨k1, k2, k3⟩ := zRS_k hT hS
  refine b37 ⟨k1, ?_⟩
  rw [k2]
  have bad : ¬ (31 ≤ zKd s ∧ zKd s ≤ 33) → zM d 19 [.ref 9, .int (nI 2)] σ (fun r τ => zqv r (Q (some (.int (nI 31))) τ)) := by
    intro h
    refine p_cfail hT hS (by omega) (fun τ g1 g2 => ?_)
    rw [zqv_s]
    cases s with
    | error e => exact hQ τ g1 g2
    | ok R =>
      have e : (Except.ok R : zPs).bind zprp = .error (zflt 2 R) := by
        show zprp R = _
        unfold zprp
        rw [if_neg h]
      rw [e] at hQ
      exact hQ τ g1 g2
  by_cases h1 : zKd s < 31
  · rw [if_pos (nI_lt h1 (by omega))]
    exact bad (by omega)
  · rw [if_neg (nI_nlt (by omega) (by omega))]
    by_cases h2 : zKd s ≤ 33
    · rw [if_pos (nI_le h2 (by omega))]
      refine p_goonS hS (fun τ g1 g2 => ?_)
      rw [zqv_s]
      cases s with
      | error e => exact absurd h2 (by show ¬ 49 ≤ 33; omega)
      | ok R =>
        have e : (Except.ok R : zPs).bind zprp = .ok ((zhdt R).1, zgn R) := by
          show zprp R = _
          unfold zprp
          rw [if_pos ⟨by exact Nat.le_of_not_lt h1, h2⟩]
        rw [e] at hQ
        exact hQ τ g1 g2
    · rw [if_neg (nI_ge (by omega) (by omega))]
      exact bad (by omega)
theorem zpile_lt {fb : Nat} {s : zPs} : zPx 0 (s.bind (zpile fb)) < 4 := by
  cases s with
  | error e => exact (by decide : 0 < 4)
  | ok R =>
    show zPx 0 (zpile fb R) < 4
    unfold zpile
    split
    · split
      · exact (by decide : 0 < 4)
      · show (zhdt R).1 - 17 < 4
        omega
    · exact (by decide : 0 < 4)
theorem znum_le {lo hi : Nat} {s : zPs} (h : lo ≤ hi) : zPx lo (s.bind (znum lo hi)) ≤ hi := by
  cases s with
  | error e => exact h
  | ok R =>
    show zPx lo (znum lo hi R) ≤ hi
    unfold znum
    split
    · split
      · show (zhdt R).2.1 ≤ hi
        omega
      · exact h
    · exact h
theorem zor_16 : ∀ p, p < 4 → ∀ i, i < 10 → p * 16 ||| i = p * 16 + i := by decide
theorem p_pan {d : Nat} {σ : zH} {p i : Nat} (hp : p < 4) (hi : i < 10) {Q : Option Value → zH → Prop} (hQ : Q (some (.int (nI (p * 16 + i)))) σ) : zM d 4 [.int (nI p), .int (nI i)] σ Q := by
  refine b4 ?_
  rw [zsl4 (by omega), nI_or, zor_16 p hp i hi]
  exact hQ
theorem p_nof {d : Nat} {σ : zH} {k p i : Nat} (hk : k < 50) (hp : p < 4) (hi : i < 10) {Q : Option Value → zH → Prop} (hQ : Q (some (.int (nI (k * 256 + p * 16 + i)))) σ) : zM (d + 1) 3 [.int (nI k), .int (nI p), .int (nI i)] σ Q := by
  refine b3 (p_pan hp hi ?_)
  rw [zqi_s, zsl8 (by omega), nI_or, show k * 256 = k * 2 ^ 8 by omega, zor8 _ _ (by omega), ← Nat.add_assoc]
  exact hQ
theorem p_lit {d : Nat} {σ : zH} {v : Nat} (hv : v < 100) {Q : Option Value → zH → Prop} (hQ : Q (some (.int (nI (9216 + v)))) σ) : zM d 2 [.int (nI v)] σ Q := by
  refine b2 ?_
  rw [nI_or, show 9216 = 36 * 2 ^ 8 by decide, zor8 _ _ (by omega)]
  exact hQ
set_option maxHeartbeats 1000000 in
theorem p_cnmm {d n : Nat} {σ : zH} {T : List zTok} {s : zPs} (hT : zTok1 T n) (hS : zRS σ T n s) {Q : Option Value → zH → Prop} (hQ : ∀ τ x, zRS τ T n (zPo (s.bind znm)) → zFc zJ4 σ τ → (∀ v R, s.bind znm = .ok (v, R) → x = nI v) → Q (some (.int x)) τ) : zM (d + 2) 39 [.ref 9] σ Q := by
  obtain ⟨k1, k2, k3⟩ := zRS_k hT hS
  refine b39 ⟨k1, ?_⟩
  rw [k2]
  have bad : ¬ zKd s = 36 → ¬ (27 ≤ zKd s ∧ zKd s ≤ 34) → zM (d + 1) 19 [.ref 9, .int (nI 2)] σ (fun r τ => zqv r (Q (some (.int (nI 0))) τ)) := by
    intro h0 h
    refine p_cfail hT hS (by omega) (fun τ g1 g2 => ?_)
    rw [zqv_s]
    cases s with
    | error e => exact hQ τ _ g1 g2 (fun v R hv => by cases hv)
    | ok R =>
      have e : (Except.ok R : zPs).bind znm = .error (zflt 2 R) := by
        show znm R = _
        unfold znm
        rw [if_neg h0, if_neg h]
      rw [e] at hQ
      exact hQ τ _ g1 g2 (fun v R hv => by cases hv)
  by_cases h36 : zKd s = 36
  · rw [if_neg (by rw [h36]; exact fun q => q rfl)]
    refine p_cnm (lo := 0) (hi := 99) hT hS (by omega) (by omega) (fun τ g1 g2 => ?_)
    rw [zqi_s]
    have hx := znum_le (lo := 0) (hi := 99) (s := s) (by omega)
    refine p_lit (by omega) ?_
    rw [zqi_s]
    cases s with
    | error e => cases h36
    | ok R =>
      have e : (Except.ok R : zPs).bind znm = zSqp (znum 0 99 R) (fun v R' => .ok (9216 + v, R')) := by
        show znm R = _
        unfold znm
        rw [if_pos h36]
      rw [e] at hQ
      have e' : (Except.ok R : zPs).bind (znum 0 99) = znum 0 99 R := rfl
      rw [e'] at g1 ⊢
      cases hz : znum 0 99 R with
      | error e => rw [hz] at g1 hQ; exact hQ τ _ g1 g2 (fun v R hv => by cases hv)
      | ok a =>
        rw [hz] at g1 hQ
        refine hQ τ _ g1 g2 (fun v R hv => ?_)
        simp only [zSqp, Except.ok.injEq, Prod.mk.injEq] at hv
        rw [← hv.1]
        rfl
  · rw [if_pos (fun q => h36 ((nI_eq (by omega) (by omega)).mp q))]
    by_cases h1 : zKd s < 27
    · rw [if_pos (nI_lt h1 (by omega))]
      exact bad h36 (by omega)
    · rw [if_neg (nI_nlt (by omega) (by omega))]
      by_cases h2 : zKd s ≤ 34
      · rw [if_pos (nI_le h2 (by omega))]
        refine p_goonS hS (fun τ g1 g2 => ?_)
        rw [zqv_s]
        refine ⟨(zRS_k hT g1).1, p_cpl (fb := 9) hT g1 (fun υ f1 f2 => ?_)⟩
        rw [zqi_s]
        cases s with
        | error e => exact absurd h2 (by show ¬ 49 ≤ 34; omega)
        | ok R =>
          have e : (Except.ok R : zPs).bind znm = zSqp (zpile 9 (zgn R)) (fun p R1 => if (zhdt R).1 < 30 then .ok ((zhdt R).1 * 256 + p * 16, R1) else zSqp (znum 1 9 R1) (fun i R2 => .ok ((zhdt R).1 * 256 + p * 16 + i, R2))) := by
            show znm R = _
            unfold znm
            rw [if_neg h36, if_pos ⟨by exact Nat.le_of_not_lt h1, h2⟩]
          rw [e] at hQ
          have e' : ((Except.ok R : zPs).bind (fun R => .ok (zgn R))).bind (zpile 9) = zpile 9 (zgn R) := rfl
          have hp := zpile_lt (fb := 9) (s := (Except.ok R : zPs).bind (fun R => .ok (zgn R)))
          rw [e'] at f1 hp ⊢
          by_cases h30 : (zhdt R).1 < 30
          · rw [if_pos (nI_lt (show zKd (.ok R) < 30 from h30) (by omega))]
            refine p_nof (i := 0) k3 hp (by omega) ?_
            rw [zqi_s]
            cases hz : zpile 9 (zgn R) with
            | error e => rw [hz] at f1 hQ; exact hQ υ _ f1 (zFc_t g2 f2) (fun v R hv => by cases hv)
            | ok a =>
              rw [hz] at f1 hQ
              simp only [zSqp, if_pos h30] at hQ
              refine hQ υ _ f1 (zFc_t g2 f2) (fun v R2 hv => ?_)
              simp only [Except.ok.injEq, Prod.mk.injEq] at hv
              rw [← hv.1]
              show nI ((zhdt R).1 * 256 + a.1 * 16 + 0) = _
              rw [Nat.add_zero]
          · rw [if_neg (nI_nlt (show 30 ≤ zKd (.ok R) from Nat.le_of_not_lt h30) (by omega))]
            refine ⟨(zRS_k hT f1).1, p_cnm (lo := 1) (hi := 9) hT f1 (by omega) (by omega) (fun ρ q1 q2 => ?_)⟩
            rw [zqi_s]
            have hx := znum_le (lo := 1) (hi := 9) (s := zPo (zpile 9 (zgn R))) (by omega)
            refine p_nof k3 hp (by omega) ?_
            rw [zqi_s]
            cases hz : zpile 9 (zgn R) with
            | error e => rw [hz] at q1 hQ; exact hQ ρ _ q1 (zFc_t (zFc_t g2 f2) q2) (fun v R hv => by cases hv)
            | ok a =>
              rw [hz] at q1 hQ
              simp only [zSqp, if_neg h30] at hQ
              have e2 : (zPo (Except.ok a)).bind (znum 1 9) = znum 1 9 a.2 := rfl
              rw [e2] at q1 ⊢
              cases hz2 : znum 1 9 a.2 with
              | error e => rw [hz2] at q1 hQ; exact hQ ρ _ q1 (zFc_t (zFc_t g2 f2) q2) (fun v R hv => by cases hv)
              | ok b =>
                rw [hz2] at q1 hQ
                refine hQ ρ _ q1 (zFc_t (zFc_t g2 f2) q2) (fun v R hv => ?_)
                simp only [Except.ok.injEq, Prod.mk.injEq] at hv
                rw [← hv.1]
                rfl
      · rw [if_neg (nI_ge (by omega) (by omega))]
        exact bad h36 (by omega)
