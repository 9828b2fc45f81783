/-! what the steps of a text keep -/
def zBk (n dp : Nat) (blk : Nat → List zTok → zPS) : Prop := ∀ k R S dn ch R', k ≤ 40 → zOrd n R → blk k R = .ok ((S, dn, ch), R') → dp ≤ 4 ∧ k + S.length ≤ 40 ∧ zStr S k dp dn ch ∧ zAdv n 0 R R' ∧ 5 * zcdn S + 2 * zplc R ≤ 2 * zplc R' ∧ 5 * zndS S + 4 * zplc R ≤ 4 * zplc R'
theorem zSqs_ok {r : zPS} {k : Nat} {g : Nat → List zTok → zPS} {S : List zStp} {dn ch : Nat} {R' : List zTok} (h : zSqs r k g = .ok ((S, dn, ch), R')) : ∃ S1 d1 c1 R1 S2 d2 c2, r = .ok ((S1, d1, c1), R1) ∧ g (k + S1.length) R1 = .ok ((S2, d2, c2), R') ∧ S = S1 ++ S2 ∧ dn = d1 + d2 ∧ ch = c1 + c2 := by
  cases r with
  | error e => cases h
  | ok a =>
    obtain ⟨⟨S1, d1, c1⟩, R1⟩ := a
    simp only [zSqs] at h
    cases hg : g (k + S1.length) R1 with
    | error e => rw [hg] at h; cases h
    | ok c =>
      obtain ⟨⟨S2, d2, c2⟩, R2⟩ := c
      rw [hg] at h
      simp only [Except.ok.injEq, Prod.mk.injEq] at h
      obtain ⟨⟨rfl, rfl, rfl⟩, rfl⟩ := h
      exact ⟨S1, d1, c1, R1, S2, d2, c2, rfl, hg, rfl, rfl, rfl⟩
theorem zSqy_ok {r : zPS} {f : List zTok → zPs} {b : (List zStp × Nat × Nat) × List zTok} (h : zSqy r f = .ok b) : ∃ R1, r = .ok (b.1, R1) ∧ f R1 = .ok b.2 := by
  cases r with
  | error e => cases h
  | ok a =>
    simp only [zSqy] at h
    cases hg : f a.2 with
    | error e => rw [hg] at h; cases h
    | ok R2 =>
      rw [hg] at h
      simp only [Except.ok.injEq] at h
      rw [← h]
      exact ⟨a.2, rfl, hg⟩
theorem zstp_ok {n dp : Nat} {blk : Nat → List zTok → zPS} (hb : zBk n (dp + 1) blk) {k : Nat} {R : List zTok} {S : List zStp} {dn ch : Nat} {R' : List zTok} (hR : zOrd n R) (hk : (zhdt R).1 ≤ 12) (h : zstp blk k R = .ok ((S, dn, ch), R')) : k + S.length ≤ 40 ∧ zHd S k dp dn ch ∧ zAdv n 1 R R' ∧ 5 * zcdn S + 2 * zplc R ≤ 2 * zplc R' ∧ 5 * zndS S + 4 * zplc R ≤ 4 * zplc R' := by
  have a0 := zAdv_1 hR (by omega)
  unfold zstp at h
  split at h
  · cases h
  · rename_i hk4
    split at h
    · unfold zstm at h
      cases h1 : znum 2 9 (zgn R) with
      | error e => rw [h1] at h; cases h
      | ok a =>
        obtain ⟨v, R1⟩ := a
        rw [h1] at h
        simp only at h
        cases h2 : blk (k + 1) R1 with
        | error e => rw [h2] at h; cases h
        | ok c =>
          obtain ⟨⟨C, d, c⟩, R2⟩ := c
          rw [h2] at h
          simp only [Except.ok.injEq, Prod.mk.injEq] at h
          obtain ⟨⟨rfl, rfl, rfl⟩, rfl⟩ := h
          have a1 := zAdv_t a0 (znum_adv a0.1 h1)
          obtain ⟨-, v2, v9, -⟩ := znum_ok h1
          obtain ⟨b0, b1, b2, b3, b4, b5⟩ := hb (k + 1) R1 C d c R2 (by omega) a1.1 h2
          have := a1.2.1
          refine ⟨by simp only [List.length_cons]; omega, ⟨_, C, rfl, ?_, Or.inr (Or.inl ⟨rfl, by omega, v9, v2, d, c, b2, rfl, rfl⟩)⟩, zAdv_m (zAdv_t a1 b3) (by omega), ?_, ?_⟩
          · show k + 1 + C.length = k + (C.length + 1)
            omega
          · rw [zcdn_c]
            show 5 * (0 + zcdn C) + _ ≤ _
            omega
          · rw [zndS_c]
            show 5 * (0 + zndS C) + _ ≤ _
            omega
    · split at h
      · obtain ⟨cs, R1, S1, d1, e1, R2, S2, d2, e2, y1, y2, y3, rfl, rfl, rfl⟩ := zsif_ok h
        obtain ⟨z1, z2, z3⟩ := zcon_bd n _ _ _ a0.1 y1
        obtain ⟨b0, b1, b2, b3, b4, b5⟩ := hb (k + 1) R1 S1 d1 e1 R2 (by omega) z1.1 y2
        have hel : k + 1 + S1.length + S2.length ≤ 40 ∧ zStr S2 (k + 1 + S1.length) (dp + 1) d2 e2 ∧ zAdv n 0 R2 R' ∧ 5 * zcdn S2 + 2 * zplc R2 ≤ 2 * zplc R' ∧ 5 * zndS S2 + 4 * zplc R2 ≤ 4 * zplc R' := by
          unfold zels at y3
          split at y3
          · rename_i h13
            have a5 := zAdv_1 b3.1 (by omega)
            obtain ⟨-, c1, c2, c3, c4, c5⟩ := hb (k + 1 + S1.length) (zgn R2) S2 d2 e2 R' (by omega) a5.1 y3
            have := a5.2.1
            exact ⟨c1, c2, zAdv_m (zAdv_t a5 c3) (by omega), by omega, by omega⟩
          · simp only [Except.ok.injEq, Prod.mk.injEq] at y3
            obtain ⟨⟨rfl, rfl, rfl⟩, rfl⟩ := y3
            exact ⟨by simpa using b1, zStr_nil _ _, zAdv_r b3.1, by simp [zcdn], by simp [zndS]⟩
        obtain ⟨c1, c2, c3, c4, c5⟩ := hel
        have := a0.2.1
        refine ⟨by simp only [List.length_cons, List.length_append]; omega, ⟨_, S1 ++ S2, rfl, ?_, Or.inr (Or.inr ⟨rfl, by omega, S1, S2, d1, e1, d2, e2, rfl, rfl, b2, c2, rfl, rfl⟩)⟩, zAdv_m (zAdv_t (zAdv_t (zAdv_t a0 z1) b3) c3) (by omega), ?_, ?_⟩
        · show k + 1 + S1.length + S2.length = k + (S1 ++ S2).length.succ
          rw [List.length_append]
          omega
        · rw [zcdn_c, zcdn_app]
          show 5 * (cs.length + (zcdn S1 + zcdn S2)) + _ ≤ _
          omega
        · rw [zndS_c, zndS_app]
          show 5 * (znd cs + (zndS S1 + zndS S2)) + _ ≤ _
          omega
      · unfold zspl at h
        cases h1 : zpln (zhdt R).1 (zgn R) with
        | error e => rw [h1] at h; cases h
        | ok a =>
          obtain ⟨⟨p, q, g, hh⟩, R1⟩ := a
          rw [h1] at h
          simp only [Except.ok.injEq, Prod.mk.injEq] at h
          obtain ⟨⟨rfl, rfl, rfl⟩, rfl⟩ := h
          have a1 := zAdv_t a0 (zpln_adv a0.1 h1)
          have := a1.2.1
          refine ⟨by simp only [List.length_cons, List.length_nil]; omega, ⟨_, [], rfl, rfl, Or.inl ⟨?_, rfl, rfl, rfl⟩⟩, zAdv_m a1 (by omega), ?_, ?_⟩
          · show (zhdt R).1 ≤ 10
            omega
          · simp only [zcdn, List.map_cons, List.map_nil, List.sum_cons, List.sum_nil]
            show 5 * (0 + 0) + _ ≤ _
            omega
          · simp only [zndS, List.map_cons, List.map_nil, List.sum_cons, List.sum_nil]
            show 5 * (0 + 0) + _ ≤ _
            omega
theorem zsts_ok {n dp : Nat} {blk : Nat → List zTok → zPS} (hb : zBk n (dp + 1) blk) : ∀ (c k : Nat) (R : List zTok) (S : List zStp) (dn ch : Nat) (R' : List zTok), k ≤ 40 → zOrd n R → zsts blk c k R = .ok ((S, dn, ch), R') → k + S.length ≤ 40 ∧ zStr S k dp dn ch ∧ zAdv n 0 R R' ∧ 5 * zcdn S + 2 * zplc R ≤ 2 * zplc R' ∧ 5 * zndS S + 4 * zplc R ≤ 4 * zplc R'
  | 0, k, R, S, dn, ch, R', hk, hR, h => by
    simp only [zsts, Except.ok.injEq, Prod.mk.injEq] at h
    obtain ⟨⟨rfl, rfl, rfl⟩, rfl⟩ := h
    exact ⟨by simpa using hk, zStr_nil _ _, zAdv_r hR, by simp [zcdn], by simp [zndS]⟩
  | c + 1, k, R, S, dn, ch, R', hk, hR, h => by
    rw [zsts] at h
    split at h
    · rename_i hk12
      obtain ⟨S1, d1, c1, R1, S2, d2, c2, e1, e2, rfl, rfl, rfl⟩ := zSqs_ok h
      obtain ⟨a1, a2, a3, a4, a5⟩ := zstp_ok hb hR hk12 e1
      obtain ⟨b1, b2, b3, b4, b5⟩ := zsts_ok hb c _ _ _ _ _ _ (by omega) a3.1 e2
      refine ⟨by rw [List.length_append]; omega, zStr_c a2 b2, zAdv_m (zAdv_t a3 b3) (by omega), ?_, ?_⟩
      · rw [zcdn_app]; omega
      · rw [zndS_app]; omega
    · simp only [Except.ok.injEq, Prod.mk.injEq] at h
      obtain ⟨⟨rfl, rfl, rfl⟩, rfl⟩ := h
      exact ⟨by simpa using hk, zStr_nil _ _, zAdv_r hR, by simp [zcdn], by simp [zndS]⟩
theorem zblk_ok (n : Nat) : ∀ j, j ≤ 4 → zBk n (5 - j) (zblk j)
  | 0, _ => by
    intro k R S dn ch R' hk hR h
    rw [zblk] at h
    cases h
  | j + 1, hj => by
    intro k R S dn ch R' hk hR h
    rw [zblk] at h
    cases h1 : zexp 37 R with
    | error e => rw [h1] at h; cases h
    | ok R1 =>
      rw [h1] at h
      simp only at h
      obtain ⟨R2, h2, h3⟩ := zSqy_ok h
      simp only at h2 h3
      have a1 := zexp_adv hR (by omega) h1
      have hb := zblk_ok n j (by omega)
      rw [show 5 - j = 5 - (j + 1) + 1 by omega] at hb
      obtain ⟨b1, b2, b3, b4, b5⟩ := zsts_ok hb 41 k R1 S dn ch R2 hk a1.1 h2
      have a2 := zexp_adv b3.1 (by omega) h3
      have := a1.2.1
      have := a2.2.1
      exact ⟨by omega, b1, b2, zAdv_m (zAdv_t (zAdv_t a1 b3) a2) (by omega), by omega, by omega⟩
/-- a whole text of steps -/
theorem zstx_ok {n : Nat} {R : List zTok} {S : List zStp} {dn ch : Nat} {R' : List zTok} (hR : zOrd n R) (h : zstx R = .ok ((S, dn, ch), R')) : S.length ≤ 40 ∧ zStr S 0 0 dn ch ∧ R' = [(49, 0, n)] ∧ 5 * zcdn S ≤ 2 * n ∧ 5 * zndS S ≤ 4 * n ∧ ch ≤ dn ∧ dn ≤ 262440 := by
  unfold zstx at h
  obtain ⟨R1, h1, h2⟩ := zSqy_ok h
  simp only at h1 h2
  have hb := zblk_ok n 4 (by omega)
  obtain ⟨b1, b2, b3, b4, b5⟩ := zsts_ok (dp := 0) hb 41 0 R S dn ch R1 (by omega) hR h1
  obtain ⟨e1, e2⟩ := zexp_ok h2
  obtain ⟨f1, f2⟩ := zOrd_e b3.1 e1
  have hn := zOrd_n b3.1
  have hs := b2 S S.length (fun i hi => by rw [Nat.zero_add]) (Nat.le_refl _)
  obtain ⟨l1, l2, l3⟩ := zSeg_le S _ _ _ _ _ _ hs (by omega)
  have l4 : dn ≤ 6561 * S.length := by
    have : (9 : Nat) ^ (4 - 0) = 6561 := by decide
    rw [this] at l3
    simpa using l3
  have hz : zplc R1 ≤ n := hn
  refine ⟨by omega, b2, by rw [e2, f2]; exact f1, by omega, by omega, l2, by omega⟩
