/-! plain steps -/
abbrev zPp : Type := Except (Nat × Nat) ((Nat × Nat × Nat × Nat) × List zTok)
def zPt : zPp → zPs
  | .ok a => .ok a.2
  | .error e => .error e
def zSqt (r : zPv) (f : Nat → List zTok → zPp) : zPp := match r with
  | .error e => .error e
  | .ok (v, R) => f v R
def zfin (t : Nat × Nat × Nat × Nat) (R : List zTok) : zPp := match zexp 41 R with
  | .ok R' => .ok (t, R')
  | .error e => .error e
def zrd2 (w p : Nat) (R : List zTok) : zPv := if w = 6 ∨ w = 7 ∨ w = 9 then zpile p R else .ok (0, R)
def zrd3 (w : Nat) (R : List zTok) : zPv := if w = 0 ∨ w = 1 ∨ w = 2 ∨ w = 4 then zman R else if w = 3 ∨ w = 5 ∨ w = 10 then zfon 1 R else .ok (0, R)
def zrd4 (w p : Nat) (R : List zTok) : zPv := if w = 1 ∨ w = 2 ∨ w = 3 ∨ w = 8 then ztgt p R else if w = 6 ∨ w = 7 then ztgt 9 R else .ok (0, R)
/-- a plain step behind its word w: pile, second, target, amount -/
def zpln (w : Nat) (R : List zTok) : zPp := zSqt (zpile 9 R) (fun p R1 => zSqt (zrd2 w p R1) (fun q R2 => zSqt (zrd3 w R2) (fun h R3 => zSqt (zrd4 w p R3) (fun g R4 => zfin (p, q, g, h) R4))))
def zfld (υ : zH) (st w p q g h : Nat) : Prop := zI υ st 1 = nI p ∧ ((w = 6 ∨ w = 7 ∨ w = 9) → zI υ st 2 = nI q) ∧ ((w = 1 ∨ w = 2 ∨ w = 3 ∨ w = 6 ∨ w = 7 ∨ w = 8) → zI υ st 3 = nI g) ∧ zI υ st 4 = zhw h
def zFin (σ : zH) (T : List zTok) (n st w : Nat) (r : zPp) (υ : zH) : Prop := zRS υ T n (zPt r) ∧ zFg st (st + 1) zJ4 σ υ ∧ zI υ st 0 = zI σ st 0 ∧ ∀ p q g h R, r = .ok ((p, q, g, h), R) → zfld υ st w p q g h
theorem zFg_I {lo hi a : Nat} {J : Nat → Prop} {σ : zH} (j : Nat) (v : Int32) (h1 : lo ≤ a) (h2 : a < hi) (h9 : a ≠ 9) : zFg lo hi J σ (zsI σ a j v) := by
  refine ⟨rfl, rfl, rfl, rfl, rfl, fun _ _ => rfl, fun b _ hb => ⟨?_, rfl, rfl, rfl⟩, fun i _ => ?_⟩
  · funext i
    simp only [zh]
    rw [if_neg (by omega)]
  · simp only [zh]
    rw [if_neg (by omega)]
theorem zRS_I {T : List zTok} {n a : Nat} {σ : zH} {s : zPs} (j : Nat) (v : Int32) (ha : 13 < a) (hS : zRS σ T n s) : zRS (zsI σ a j v) T n s :=
  zRS_c (lo := a) (hi := a + 1) (J := fun _ => False) ha (zFg_I j v (Nat.le_refl _) (by omega) (by omega)) ⟨id, id, id, id⟩ hS
theorem l_px {d n st w : Nat} {σ τ : zH} {T : List zTok} {s : zPs} (hT : zTok1 T n) (hst : 13 < st) (hk : zK σ st = 6) (hS : zRS τ T n s) (hF : zFg st (st + 1) zJ4 σ τ) (h0 : zI τ st 0 = zI σ st 0) {Q : Option Value → zH → Prop} {p q g h : Nat} (hf : ∀ R, s = .ok R → zfld τ st w p q g h) (hQ : ∀ υ, zFin σ T n st w (s.bind (zfin (p, q, g, h))) υ → Q none υ) : zM (d + 1) 20 [.ref 9, .int (nI 41)] τ (fun r υ => zqv r (Q none υ)) := by
  refine p_cexp (k := 41) hT hS (by omega) (fun υ g1 g2 => ?_)
  rw [zqv_s]
  have e9 : zI υ st = zI τ st := (g2.1.2.2.2.2 st (by omega)).1
  refine hQ υ ⟨?_, zFg_t hF (zFg_c g2), by rw [e9]; exact h0, fun p' q' g' h' R hr => ?_⟩
  · cases s with
    | error e => exact g1
    | ok R =>
      have g1' : zRS υ T n (zexp 41 R) := g1
      show zRS υ T n (zPt (zfin (p, q, g, h) R))
      unfold zfin
      cases hz : zexp 41 R with
      | error e => rw [hz] at g1'; exact g1'
      | ok R' => rw [hz] at g1'; exact g1'
  · cases s with
    | error e => cases hr
    | ok R1 =>
      have hr' : zfin (p, q, g, h) R1 = .ok ((p', q', g', h'), R) := hr
      unfold zfin at hr'
      cases hz : zexp 41 R1 with
      | error e => rw [hz] at hr'; cases hr'
      | ok R' =>
        rw [hz] at hr'
        simp only [Except.ok.injEq, Prod.mk.injEq] at hr'
        obtain ⟨⟨rfl, rfl, rfl, rfl⟩, -⟩ := hr'
        have := hf R1 rfl
        unfold zfld at *
        rw [e9]
        exact this
theorem l_pg {d n st w : Nat} {σ τ : zH} {T : List zTok} {s : zPs} (hT : zTok1 T n) (hst : 13 < st) (hk : zK σ st = 6) (hS : zRS τ T n s) (hF : zFg st (st + 1) zJ4 σ τ) (h0 : zI τ st 0 = zI σ st 0) {Q : Option Value → zH → Prop} {p q h fb : Nat} {x : Int32} (hx : x = zfbI fb) (hf : ∀ R, s = .ok R → zI τ st 1 = nI p ∧ ((w = 6 ∨ w = 7 ∨ w = 9) → zI τ st 2 = nI q) ∧ zI τ st 4 = zhw h) (hQ : ∀ υ, zFin σ T n st w (s.bind (fun R => zSqt (ztgt fb R) (fun g R4 => zfin (p, q, g, h) R4))) υ → Q none υ) : zM (d + 2) 27 [.ref 9, .int x] τ (fun r σ118 => zqi r (fun x119 => (zK σ118 st = 6) ∧ (zK σ118 9 = 3) ∧ zM (d + 2) 20 [.ref 9, .int (nI 41)] (zsI σ118 st 3 x119) (fun r σ122 => zqv r (Q none σ122)))) := by
  rw [hx]
  refine p_ctgt hT hS (fun υ g1 g2 => ?_)
  rw [zqi_s]
  have k3 := (zRS_k hT g1).1
  have e9 : zI υ st = zI τ st := (g2.1.2.2.2.2 st (by omega)).1
  have hF2 := zFg_t hF (zFg_c g2)
  refine ⟨by rw [hF2.1]; exact hk, k3, ?_⟩
  refine l_px (w := w) (p := p) (q := q) (g := zPx 0 (s.bind (ztgt fb))) (h := h) hT hst hk (zRS_I 3 _ hst g1) (zFg_t hF2 (zFg_I 3 _ (Nat.le_refl _) (by omega) (by omega))) ?_ (fun R hR => ?_) (fun υ' g => hQ υ' ?_)
  · simp only [zh]
    rw [if_neg (by omega), e9]
    exact h0
  · have hs : ∃ R, s = .ok R := by
      cases s with
      | error e => cases hR
      | ok R => exact ⟨R, rfl⟩
    obtain ⟨R0, hR0⟩ := hs
    obtain ⟨f1, f2, f4⟩ := hf R0 hR0
    refine ⟨?_, fun hw => ?_, fun _ => ?_, ?_⟩
    · simp only [zh]; rw [if_neg (by omega), e9]; exact f1
    · simp only [zh]; rw [if_neg (by omega), e9]; exact f2 hw
    · simp only [zh]; simp
    · simp only [zh]; rw [if_neg (by omega), e9]; exact f4
  · have e : s.bind (fun R => zSqt (ztgt fb R) (fun g R4 => zfin (p, q, g, h) R4)) = (zPo (s.bind (ztgt fb))).bind (zfin (p, q, zPx 0 (s.bind (ztgt fb)), h)) := by
      cases s with
      | error e => rfl
      | ok R =>
        show zSqt (ztgt fb R) (fun g R4 => zfin (p, q, g, h) R4) = (zPo (ztgt fb R)).bind (zfin (p, q, zPx 0 (ztgt fb R), h))
        cases ztgt fb R <;> rfl
    rw [e]
    exact g
/-- behind a value x read to be the amount -/
theorem l_ph {n st w p : Nat} {σ τ υ : zH} {T : List zTok} {s : zPs} (hst : 13 < st) (hF : zFg st (st + 1) zJ4 σ τ) (h0 : zI τ st 0 = zI σ st 0) (h1 : ∀ R, s = .ok R → zI τ st 1 = nI p) {f : List zTok → zPv} {x : Int32} (g1 : zRS υ T n (zPo (s.bind f))) (g2 : zFc zJ4 τ υ) (g3 : ∀ v R, s.bind f = .ok (v, R) → x = zhw v) : zRS (zsI υ st 4 x) T n (zPo (s.bind f)) ∧ zFg st (st + 1) zJ4 σ (zsI υ st 4 x) ∧ zI (zsI υ st 4 x) st 0 = zI σ st 0 ∧ ∀ R, zPo (s.bind f) = .ok R → zI (zsI υ st 4 x) st 1 = nI p ∧ zI (zsI υ st 4 x) st 4 = zhw (zPx 0 (s.bind f)) := by
  have e9 : zI υ st = zI τ st := (g2.1.2.2.2.2 st (by omega)).1
  refine ⟨zRS_I 4 _ hst g1, zFg_t (zFg_t hF (zFg_c g2)) (zFg_I 4 _ (Nat.le_refl _) (by omega) (by omega)), ?_, fun R hR => ?_⟩
  · simp only [zh]; rw [if_neg (by omega), e9]; exact h0
  · cases s with
    | error e => cases hR
    | ok R0 =>
      refine ⟨?_, ?_⟩
      · simp only [zh]; rw [if_neg (by omega), e9]; exact h1 R0 rfl
      · simp only [zh]; simp only [and_self, if_true]
        cases hz : (Except.ok R0 : zPs).bind f with
        | error e => rw [hz] at hR; cases hR
        | ok a => exact g3 a.1 a.2 hz
theorem zbd (s : zPs) (f : List zTok → zPv) (F : Nat → List zTok → zPp) : s.bind (fun R => zSqt (f R) F) = (zPo (s.bind f)).bind (F (zPx 0 (s.bind f))) := by
  cases s with
  | error e => rfl
  | ok R =>
    show zSqt (f R) F = (zPo (f R)).bind (F (zPx 0 (f R)))
    cases f R <;> rfl
set_option maxHeartbeats 2000000 in
theorem p_cplain {d n st w : Nat} {σ : zH} {T : List zTok} {s : zPs} (hT : zTok1 T n) (hst : 13 < st) (hk : zK σ st = 6) (hw : w ≤ 10) (hS : zRS σ T n s) (h0 : zI σ st 0 = nI w) (h4 : zI σ st 4 = nI 0) {Q : Option Value → zH → Prop} (hQ : ∀ υ, zFin σ T n st w (s.bind (zpln w)) υ → Q none υ) : zM (d + 4) 25 [.ref 9, .ref st] σ Q := by
  refine b25 ⟨(zRS_k hT hS).1, p_cpl (fb := 9) hT hS (fun τ0 a1 a2 => ?_)⟩
  rw [zqi_s]
  obtain ⟨p, hp⟩ : ∃ p, p = zPx 0 (s.bind (zpile 9)) := ⟨_, rfl⟩
  have hp4 : p < 4 := by rw [hp]; exact zpile_lt
  have hfb : nI p = zfbI p := by unfold zfbI; rw [if_pos hp4]
  rw [← hp]
  have e9 : zI τ0 st = zI σ st := (a2.1.2.2.2.2 st (by omega)).1
  obtain ⟨s1, hs1⟩ : ∃ s1, s1 = zPo (s.bind (zpile 9)) := ⟨_, rfl⟩
  rw [← hs1] at a1
  have hpl : s.bind (zpln w) = s1.bind (fun R1 => zSqt (zrd2 w p R1) (fun q R2 => zSqt (zrd3 w R2) (fun h R3 => zSqt (zrd4 w p R3) (fun g R4 => zfin (p, q, g, h) R4)))) := by
    rw [hs1, hp]
    exact zbd s (zpile 9) _
  rw [hpl] at hQ
  have hK0 : zK τ0 st = 6 := by rw [a2.1.1]; exact hk
  have h93 : zK τ0 9 = 3 := (zRS_k hT a1).1
  obtain ⟨τ, hτ⟩ : ∃ τ, τ = zsI τ0 st 1 (nI p) := ⟨_, rfl⟩
  have hS1 : zRS τ T n s1 := by rw [hτ]; exact zRS_I 1 _ hst a1
  have hF1 : zFg st (st + 1) zJ4 σ τ := by rw [hτ]; exact zFg_t (zFg_c a2) (zFg_I 1 _ (Nat.le_refl _) (by omega) (by omega))
  have w0 : zI τ st 0 = zI σ st 0 := by rw [hτ]; simp only [zh]; rw [if_neg (by omega), e9]
  have w1 : zI τ st 1 = nI p := by rw [hτ]; simp only [zh]; simp
  have w4 : zI τ st 4 = zhw 0 := by rw [hτ]; simp only [zh]; rw [if_neg (by omega), e9, h4]; rfl
  have w00 : zI τ st 0 = nI w := w0.trans h0
  rw [← hτ, w00]
  refine ⟨hK0, ?_⟩
  have D3 : ∀ M (f : List zTok → zPv), (M = 28 ∧ f = zman) ∨ (M = 29 ∧ f = zfon 1) → (∀ υ x, zRS υ T n (zPo (s1.bind f)) → zFc zJ4 τ υ → (∀ v R, s1.bind f = .ok (v, R) → x = zhw v) → (zK υ st = 6) ∧ (zK υ 9 = 3) ∧ zM (d + 3) 20 [.ref 9, .int (nI 41)] (zsI υ st 4 x) (fun r σ111 => zqv r (Q none σ111))) → zM (d + 3) M [.ref 9] τ (fun r σ107 => zqi r (fun x108 => (zK σ107 st = 6) ∧ (zK σ107 9 = 3) ∧ zM (d + 3) 20 [.ref 9, .int (nI 41)] (zsI σ107 st 4 x108) (fun r σ111 => zqv r (Q none σ111)))) := by
    rintro M f (⟨rfl, rfl⟩ | ⟨rfl, rfl⟩) h
    · refine p_cman hT hS1 (fun υ x g1 g2 g3 => ?_)
      rw [zqi_s]
      exact h υ x g1 g2 g3
    · refine p_cplace hT hS1 (fun υ x g1 g2 g3 => ?_)
      rw [zqi_s]
      exact h υ x g1 g2 g3
  have D4 : ∀ M (f : List zTok → zPv), (M = 28 ∧ f = zman) ∨ (M = 29 ∧ f = zfon 1) → (∀ υ x, zRS υ T n (zPo (s1.bind f)) → zFc zJ4 τ υ → (∀ v R, s1.bind f = .ok (v, R) → x = zhw v) → (zK υ st = 6) ∧ (zK υ 9 = 3) ∧ zM (d + 3) 27 [.ref 9, .int (zI (zsI υ st 4 x) st 1)] (zsI υ st 4 x) (fun r σ118 => zqi r (fun x119 => (zK σ118 st = 6) ∧ (zK σ118 9 = 3) ∧ zM (d + 3) 20 [.ref 9, .int (nI 41)] (zsI σ118 st 3 x119) (fun r σ122 => zqv r (Q none σ122))))) → zM (d + 3) M [.ref 9] τ (fun r σ114 => zqi r (fun x115 => (zK σ114 st = 6) ∧ (zK σ114 9 = 3) ∧ zM (d + 3) 27 [.ref 9, .int (zI (zsI σ114 st 4 x115) st 1)] (zsI σ114 st 4 x115) (fun r σ118 => zqi r (fun x119 => (zK σ118 st = 6) ∧ (zK σ118 9 = 3) ∧ zM (d + 3) 20 [.ref 9, .int (nI 41)] (zsI σ118 st 3 x119) (fun r σ122 => zqv r (Q none σ122)))))) := by
    rintro M f (⟨rfl, rfl⟩ | ⟨rfl, rfl⟩) h
    · refine p_cman hT hS1 (fun υ x g1 g2 g3 => ?_)
      rw [zqi_s]
      exact h υ x g1 g2 g3
    · refine p_cplace hT hS1 (fun υ x g1 g2 g3 => ?_)
      rw [zqi_s]
      exact h υ x g1 g2 g3
  -- amount alone
  have SA : ∀ M (f : List zTok → zPv), (M = 28 ∧ f = zman) ∨ (M = 29 ∧ f = zfon 1) → ¬ (w = 1 ∨ w = 2 ∨ w = 3 ∨ w = 6 ∨ w = 7 ∨ w = 8) → ¬ (w = 6 ∨ w = 7 ∨ w = 9) → s.bind (zpln w) = s1.bind (fun R2 => zSqt (f R2) (fun h R3 => zfin (p, 0, 0, h) R3)) → zM (d + 3) M [.ref 9] τ (fun r σ107 => zqi r (fun x108 => (zK σ107 st = 6) ∧ (zK σ107 9 = 3) ∧ zM (d + 3) 20 [.ref 9, .int (nI 41)] (zsI σ107 st 4 x108) (fun r σ111 => zqv r (Q none σ111)))) := by
    intro M f hM n1 n2 hr
    refine D3 M f hM (fun υ x g1 g2 g3 => ?_)
    obtain ⟨q1, q2, q3, q4⟩ := l_ph (p := p) (w := w) hst hF1 w0 (fun _ _ => w1) g1 g2 g3
    refine ⟨by rw [g2.1.1, hF1.1]; exact hk, (zRS_k hT g1).1, ?_⟩
    rw [hpl.symm.trans hr, zbd s1 f] at hQ
    exact l_px (w := w) hT hst hk q1 q2 q3 (fun R hR => ⟨(q4 R hR).1, fun c => absurd c n2, fun c => absurd c n1, (q4 R hR).2⟩) hQ
  -- amount and target
  have SB : ∀ M (f : List zTok → zPv), (M = 28 ∧ f = zman) ∨ (M = 29 ∧ f = zfon 1) → ¬ (w = 6 ∨ w = 7 ∨ w = 9) → s.bind (zpln w) = s1.bind (fun R2 => zSqt (f R2) (fun h R3 => zSqt (ztgt p R3) (fun g R4 => zfin (p, 0, g, h) R4))) → zM (d + 3) M [.ref 9] τ (fun r σ114 => zqi r (fun x115 => (zK σ114 st = 6) ∧ (zK σ114 9 = 3) ∧ zM (d + 3) 27 [.ref 9, .int (zI (zsI σ114 st 4 x115) st 1)] (zsI σ114 st 4 x115) (fun r σ118 => zqi r (fun x119 => (zK σ118 st = 6) ∧ (zK σ118 9 = 3) ∧ zM (d + 3) 20 [.ref 9, .int (nI 41)] (zsI σ118 st 3 x119) (fun r σ122 => zqv r (Q none σ122)))))) := by
    intro M f hM n2 hr
    refine D4 M f hM (fun υ x g1 g2 g3 => ?_)
    obtain ⟨q1, q2, q3, q4⟩ := l_ph (p := p) (w := w) hst hF1 w0 (fun _ _ => w1) g1 g2 g3
    refine ⟨by rw [g2.1.1, hF1.1]; exact hk, (zRS_k hT g1).1, ?_⟩
    rw [hpl.symm.trans hr, zbd s1 f] at hQ
    have ex : zI (zsI υ st 4 x) st 1 = zfbI p := by
      simp only [zh]
      rw [if_neg (by omega), (g2.1.2.2.2.2 st (by omega)).1, w1, hfb]
    exact l_pg (d := d + 1) (w := w) (q := 0) hT hst hk q1 q2 q3 ex (fun R hR => ⟨(q4 R hR).1, fun c => absurd c n2, (q4 R hR).2⟩) hQ
  -- a second pile, and a target
  have SG : (w = 6 ∨ w = 7 ∨ w = 9) → ∀ υ, zRS υ T n (zPo (s1.bind (zpile p))) → zFc zJ4 τ υ → zRS (zsI υ st 2 (nI (zPx 0 (s1.bind (zpile p))))) T n (zPo (s1.bind (zpile p))) ∧ zFg st (st + 1) zJ4 σ (zsI υ st 2 (nI (zPx 0 (s1.bind (zpile p))))) ∧ zI (zsI υ st 2 (nI (zPx 0 (s1.bind (zpile p))))) st 0 = zI σ st 0 ∧ zI (zsI υ st 2 (nI (zPx 0 (s1.bind (zpile p))))) st 1 = nI p ∧ zI (zsI υ st 2 (nI (zPx 0 (s1.bind (zpile p))))) st 2 = nI (zPx 0 (s1.bind (zpile p))) ∧ zI (zsI υ st 2 (nI (zPx 0 (s1.bind (zpile p))))) st 4 = zhw 0 := by
    intro _ υ g1 g2
    have ee : zI υ st = zI τ st := (g2.1.2.2.2.2 st (by omega)).1
    refine ⟨zRS_I 2 _ hst g1, zFg_t (zFg_t hF1 (zFg_c g2)) (zFg_I 2 _ (Nat.le_refl _) (by omega) (by omega)), ?_, ?_, ?_, ?_⟩
    · simp only [zh]; rw [if_neg (by omega), ee]; exact w0
    · simp only [zh]; rw [if_neg (by omega), ee]; exact w1
    · simp only [zh]; simp
    · simp only [zh]; rw [if_neg (by omega), ee]; exact w4
  have SR : (w = 6 ∨ w = 7) → s.bind (zpln w) = s1.bind (fun R1 => zSqt (zpile p R1) (fun q R3 => zSqt (ztgt 9 R3) (fun g R4 => zfin (p, q, g, 0) R4))) → zM (d + 3) 26 [.ref 9, .int (zI τ st 1)] τ (fun r σ161 => zqi r (fun x162 => (zK σ161 st = 6) ∧ (zK σ161 9 = 3) ∧ zM (d + 3) 27 [.ref 9, .int (-1)] (zsI σ161 st 2 x162) (fun r σ165 => zqi r (fun x166 => (zK σ165 st = 6) ∧ (zK σ165 9 = 3) ∧ zM (d + 3) 20 [.ref 9, .int (nI 41)] (zsI σ165 st 3 x166) (fun r σ169 => zqv r (Q none σ169)))))) := by
    intro hw6 hr
    rw [w1, hfb]
    refine p_cpl (fb := p) hT hS1 (fun υ g1 g2 => ?_)
    rw [zqi_s]
    obtain ⟨q1, q2, q3, q4, q5, q6⟩ := SG (by omega) υ g1 g2
    refine ⟨by rw [g2.1.1, hF1.1]; exact hk, (zRS_k hT g1).1, ?_⟩
    rw [hpl.symm.trans hr, zbd s1 (zpile p)] at hQ
    exact l_pg (d := d + 1) (w := w) (fb := 9) hT hst hk q1 q2 q3 rfl (fun R hR => ⟨q4, fun _ => q5, q6⟩) hQ
  rcases (show w = 0 ∨ w = 1 ∨ w = 2 ∨ w = 3 ∨ w = 4 ∨ w = 5 ∨ w = 6 ∨ w = 7 ∨ w = 8 ∨ w = 9 ∨ w = 10 by omega) with rfl | rfl | rfl | rfl | rfl | rfl | rfl | rfl | rfl | rfl | rfl
  · rw [if_pos rfl]
    exact ⟨h93, SA 28 zman (Or.inl ⟨rfl, rfl⟩) (by omega) (by omega) hpl⟩
  · rw [if_neg (by decide), if_pos rfl]
    exact ⟨h93, SB 28 zman (Or.inl ⟨rfl, rfl⟩) (by omega) hpl⟩
  · rw [if_neg (by decide), if_neg (by decide), if_pos rfl]
    exact ⟨h93, SB 28 zman (Or.inl ⟨rfl, rfl⟩) (by omega) hpl⟩
  · rw [if_neg (by decide), if_neg (by decide), if_neg (by decide), if_pos rfl]
    exact ⟨h93, SB 29 (zfon 1) (Or.inr ⟨rfl, rfl⟩) (by omega) hpl⟩
  · rw [if_neg (by decide), if_neg (by decide), if_neg (by decide), if_neg (by decide), if_pos rfl]
    exact ⟨h93, SA 28 zman (Or.inl ⟨rfl, rfl⟩) (by omega) (by omega) hpl⟩
  · rw [if_neg (by decide), if_neg (by decide), if_neg (by decide), if_neg (by decide), if_neg (by decide), if_pos rfl]
    exact ⟨h93, SA 29 (zfon 1) (Or.inr ⟨rfl, rfl⟩) (by omega) (by omega) hpl⟩
  · rw [if_neg (by decide), if_neg (by decide), if_neg (by decide), if_neg (by decide), if_neg (by decide), if_neg (by decide), if_pos rfl]
    exact ⟨h93, SR (by omega) hpl⟩
  · rw [if_neg (by decide), if_neg (by decide), if_neg (by decide), if_neg (by decide), if_neg (by decide), if_neg (by decide), if_neg (by decide), if_pos rfl]
    exact ⟨h93, SR (by omega) hpl⟩
  · rw [if_neg (by decide), if_neg (by decide), if_neg (by decide), if_neg (by decide), if_neg (by decide), if_neg (by decide), if_neg (by decide), if_neg (by decide), if_pos rfl]
    refine ⟨h93, l_pg (d := d + 1) (w := 8) (fb := p) (p := p) (q := 0) (h := 0) hT hst hk hS1 hF1 w0 (w1.trans hfb) (fun R hR => ⟨w1, fun c => by omega, w4⟩) hQ⟩
  · rw [if_neg (by decide), if_neg (by decide), if_neg (by decide), if_neg (by decide), if_neg (by decide), if_neg (by decide), if_neg (by decide), if_neg (by decide), if_neg (by decide), if_pos rfl, w1, hfb]
    refine ⟨h93, p_cpl (fb := p) hT hS1 (fun υ g1 g2 => ?_)⟩
    rw [zqi_s]
    obtain ⟨q1, q2, q3, q4, q5, q6⟩ := SG (by omega) υ g1 g2
    refine ⟨by rw [g2.1.1, hF1.1]; exact hk, (zRS_k hT g1).1, ?_⟩
    have e : s1.bind (fun R1 => zSqt (zrd2 9 p R1) (fun q R2 => zSqt (zrd3 9 R2) (fun h R3 => zSqt (zrd4 9 p R3) (fun g R4 => zfin (p, q, g, h) R4)))) = s1.bind (fun R1 => zSqt (zpile p R1) (fun q R2 => zfin (p, q, 0, 0) R2)) := rfl
    rw [e, zbd s1 (zpile p)] at hQ
    exact l_px (w := 9) hT hst hk q1 q2 q3 (fun R hR => ⟨q4, fun _ => q5, fun c => by omega, q6⟩) hQ
  · rw [if_neg (by decide), if_neg (by decide), if_neg (by decide), if_neg (by decide), if_neg (by decide), if_neg (by decide), if_neg (by decide), if_neg (by decide), if_neg (by decide), if_neg (by decide), if_pos rfl]
    exact ⟨h93, SA 29 (zfon 1) (Or.inr ⟨rfl, rfl⟩) (by omega) (by omega) hpl⟩
