/-! the class's blocks and texts -/
theorem l_sts {d n Tr : Nat} {T : List zTok} {x : Int32} {blk : Nat → List zTok → zPS} (hT : zTok1 T n) (ht : 13 < Tr) (hP : ∀ e, zPblk T n Tr (d + e + 38) 24 x blk) : ∀ (c i k m o : Nat) (σ : zH) (s : zPs) (Q : Option Value → zH → Prop), i + c = 41 → k ≤ 40 → m ≤ 450 → zTs σ Tr → zI σ Tr 2 = nI k → zI σ (Tr + 2) 3 = nI m → zRS σ T n s → (∀ τ k' m', zAs T n Tr o k k k' m m' σ τ (s.bind (zsts blk c k)) → Q none τ) → zW (d + 41) 21 3 [(0, .ref 9), (1, .ref Tr), (2, .int x), (3, .int (nI o)), (4, .int (nI i))] [] σ Q := by
  intro c
  have nil : ∀ (k m o : Nat) (σ : zH) (s : zPs) (r : zPS), k ≤ 40 → m ≤ 450 → zI σ Tr 2 = nI k → zI σ (Tr + 2) 3 = nI m → zRS σ T n s → r = s.bind (fun R => .ok (([], 0, 0), R)) → zAs T n Tr o k k k m m σ σ r := by
    intro k m o σ s r hk hm h2 h3 hS hr
    refine zAs_n ht hk hm h2 h3 (zFc_r _ _) ?_ ?_
    · rw [hr]
      cases s <;> exact hS
    · intro S dn ch R q
      rw [hr] at q
      cases s with
      | error e => cases q
      | ok R1 =>
        have q' : (Except.ok (([], 0, 0), R1) : zPS) = .ok ((S, dn, ch), R) := q
        simp only [Except.ok.injEq, Prod.mk.injEq] at q'
        exact ⟨q'.1.1.symm, q'.1.2.1.symm, q'.1.2.2.symm⟩
  induction c with
  | zero =>
    intro i k m o σ s Q hc hk hm hTs h2 h3 hS hQ
    refine b21_3 ?_
    rw [if_pos (nI_lt (by omega) (by omega))]
    exact hQ σ k m (nil k m o σ s _ hk hm h2 h3 hS (by cases s <;> rfl))
  | succ c ih =>
    intro i k m o σ s Q hc hk hm hTs h2 h3 hS hQ
    obtain ⟨k1, k2, k3⟩ := zRS_k hT hS
    refine b21_3 ?_
    rw [if_neg (nI_nlt (by omega) (by omega)), k2]
    refine ⟨k1, ?_⟩
    by_cases h : zKd s ≤ 12
    · rw [if_neg (nI_nlt (by omega) (by omega))]
      cases s with
      | error e => exact absurd h (by show ¬ 49 ≤ 12; omega)
      | ok R =>
        refine p_cstp hT ht hk hm hTs h2 h3 hS h hP (fun τ k' m' g => ?_)
        rw [zqv_s, nI_add]
        refine ih (i + 1) k' m' o τ _ Q (by omega) g.2.2.2.2.2.1 g.2.2.2.2.2.2.2.1 (zTs_g g.2.1 ht hTs) g.2.2.2.2.2.2.2.2.1 g.2.2.2.2.2.2.2.2.2.1 g.1 (fun υ k2 m2 f => hQ υ k2 m2 ?_)
        have e : (Except.ok R : zPs).bind (zsts blk (c + 1) k) = zSqs (zstp blk k R) k (zsts blk c) := by
          show zsts blk (c + 1) k R = _
          rw [zsts, if_pos h]
        rw [e]
        exact zAs_s (Nat.le_refl _) g f
    · rw [if_pos (nI_lt (by omega) (by omega))]
      refine hQ σ k m (nil k m o σ s _ hk hm h2 h3 hS ?_)
      cases s with
      | error e => rfl
      | ok R =>
        show zsts blk (c + 1) k R = _
        rw [zsts, if_neg h]
        rfl
theorem p_csts {d n Tr : Nat} {T : List zTok} {x : Int32} {blk : Nat → List zTok → zPS} (hT : zTok1 T n) (ht : 13 < Tr) (hP : ∀ e, zPblk T n Tr (d + e + 38) 24 x blk) : zPblk T n Tr (d + 41) 21 x (zsts blk 41) := by
  intro k m o σ s Q hk hm hTs h2 h3 hS hQ
  exact b21 (l_sts hT ht hP 41 0 k m o σ s Q (by omega) hk hm hTs h2 h3 hS hQ)
theorem zSqy_e (r : zPS) (f : List zTok → zPs) : zPz (zSqy r f) = (zPz r).bind f := by
  cases r with
  | error e => rfl
  | ok a =>
    show zPz (match f a.2 with
      | .error e => .error e
      | .ok R2 => .ok (a.1, R2)) = f a.2
    cases f a.2 <;> rfl
theorem p_cblk {n Tr : Nat} {T : List zTok} (hT : zTok1 T n) (ht : 13 < Tr) : ∀ j, j ≤ 4 → ∀ e, zPblk T n Tr (e + 38 + 4 * j) 24 (nI (4 - j)) (zblk j) := by
  intro j
  induction j with
  | zero =>
    intro _ e k m o σ s Q hk hm hTs h2 h3 hS hQ
    obtain ⟨k1, k2, k3⟩ := zRS_k hT hS
    refine b24 ⟨k1, ?_⟩
    rw [k2]
    by_cases h : zKd s = 37
    · rw [if_neg (by rw [h]; exact fun q => q rfl), if_neg (nI_nlt (by omega) (by omega))]
      refine p_cfail hT hS (by omega) (fun τ g1 g2 => ?_)
      rw [zqv_s]
      cases s with
      | error e => exact absurd h (by show ¬ 49 = 37; omega)
      | ok R =>
        have e : (Except.ok R : zPs).bind (zblk 0 k) = .error (zflt 4 R) := by
          show zblk 0 k R = _
          rw [zblk, if_pos h]
        rw [e] at hQ
        exact hQ τ k m (zAs_n ht hk hm h2 h3 g2 g1 (fun _ _ _ _ q => by cases q))
    · rw [if_pos (fun q => h ((nI_eq (by omega) (by omega)).mp q))]
      refine b24_20 ⟨k1, p_cexp (k := 37) hT hS (by omega) (fun τ g1 g2 => ?_)⟩
      rw [zqv_s]
      have hz : ∃ e, s.bind (zexp 37) = .error e ∧ s.bind (zblk 0 k) = .error e := by
        cases s with
        | error e => exact ⟨e, rfl, rfl⟩
        | ok R =>
          refine ⟨zflt 2 R, ?_, ?_⟩
          · show zexp 37 R = _
            unfold zexp
            exact if_neg h
          · show zblk 0 k R = _
            rw [zblk, if_neg h]
      obtain ⟨e, z1, z2⟩ := hz
      rw [z1] at g1
      rw [z2] at hQ
      obtain ⟨q1, q2, q3⟩ := zRS_k hT g1
      refine ⟨q1, b21 (b21_3 ?_)⟩
      rw [if_neg (nI_nlt (by omega) (by omega)), q2, if_pos (by show nI 12 < nI 49; decide)]
      refine ⟨q1, ?_⟩
      rw [zqv_s]
      refine ⟨q1, p_cexp (k := 38) hT g1 (by omega) (fun υ f1 f2 => ?_)⟩
      rw [zqv_s]
      exact hQ υ k m (zAs_n ht hk hm h2 h3 (zFc_t g2 f2) f1 (fun _ _ _ _ q => by cases q))
  | succ j ih =>
    intro hj e k m o σ s Q hk hm hTs h2 h3 hS hQ
    obtain ⟨k1, k2, k3⟩ := zRS_k hT hS
    have hP := ih (by omega)
    have hP' : ∀ e', zPblk T n Tr (e + 4 * j + e' + 38) 24 (nI (4 - j)) (zblk j) := fun e' => by
      have := hP (e + e')
      rw [show e + 4 * j + e' + 38 = e + e' + 38 + 4 * j by omega]
      exact this
    have hQ' : zW (e + 4 * j + 41 + 1) 24 20 [(0, .ref 9), (1, .ref Tr), (2, .int (nI (4 - (j + 1)))), (3, .int (nI o))] [] σ Q := by
      refine b24_20 ⟨k1, p_cexp (k := 37) hT hS (by omega) (fun τ g1 g2 => ?_)⟩
      rw [zqv_s, nI_add, show 4 - (j + 1) + 1 = 4 - j by omega]
      refine ⟨(zRS_k hT g1).1, p_csts hT ht hP' k m o τ _ _ hk hm (zTs_g (zFg_c (lo := 0) (hi := 0) g2) ht hTs) (by rw [(g2.1.2.2.2.2 Tr (by omega)).1]; exact h2) (by rw [(g2.1.2.2.2.2 (Tr + 2) (by omega)).1]; exact h3) g1 (fun υ k' m' f => ?_)⟩
      rw [zqv_s]
      refine ⟨(zRS_k hT f.1).1, p_cexp (k := 38) hT f.1 (by omega) (fun ρ q1 q2 => ?_)⟩
      rw [zqv_s]
      refine hQ ρ k' m' ?_
      have e : s.bind (zblk (j + 1) k) = zSqy ((s.bind (zexp 37)).bind (zsts (zblk j) 41 k)) (zexp 38) := by
        cases s with
        | error e => rfl
        | ok R =>
          show zblk (j + 1) k R = zSqy ((zexp 37 R).bind (zsts (zblk j) 41 k)) (zexp 38)
          rw [zblk]
          cases zexp 37 R <;> rfl
      rw [e]
      exact zAs_f ht g2 (zAs_y ht f q2 q1)
    rw [show e + 38 + 4 * (j + 1) = e + 4 * j + 41 + 1 by omega]
    refine b24 ⟨k1, ?_⟩
    rw [k2]
    by_cases h : zKd s = 37
    · rw [if_neg (by rw [h]; exact fun q => q rfl), if_pos (nI_lt (by omega) (by omega))]
      exact hQ'
    · rw [if_pos (fun q => h ((nI_eq (by omega) (by omega)).mp q))]
      exact hQ'
/-- all the steps of a text -/
def zstx (R : List zTok) : zPS := zSqy (zsts (zblk 4) 41 0 R) (zexp 49)
