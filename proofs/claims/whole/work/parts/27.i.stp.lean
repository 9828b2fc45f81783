/-! the class's steps, on -/
theorem zsif_z (blk : Nat → List zTok → zPS) (k : Nat) (s : zPs) : zPz (s.bind (zsif blk k)) = zPz (zSqs ((zPq (s.bind zcon)).bind (blk (k + 1))) (k + 1) (zels blk)) := by
  cases s with
  | error e => rfl
  | ok R =>
    show zPz (zsif blk k R) = zPz (zSqs ((zPq (zcon R)).bind (blk (k + 1))) (k + 1) (zels blk))
    unfold zsif
    cases zcon R with
    | error e => rfl
    | ok a =>
      obtain ⟨cs, R1⟩ := a
      show zPz (match blk (k + 1) R1 with
        | .error e => .error e
        | .ok ((S1, d1, c1), R2) => match zels blk (k + 1 + S1.length) R2 with
          | .error e => .error e
          | .ok ((S2, d2, c2), R3) => .ok (((12, 0, 0, 0, 0, k + 1 + S1.length, k + 1 + S1.length + S2.length, cs) :: (S1 ++ S2), 1 + (d1 + d2), c1 + c2), R3)) = zPz (zSqs (blk (k + 1) R1) (k + 1) (zels blk))
      cases blk (k + 1) R1 with
      | error e => rfl
      | ok b =>
        obtain ⟨⟨S1, d1, c1⟩, R2⟩ := b
        show zPz (match zels blk (k + 1 + S1.length) R2 with
          | .error e => .error e
          | .ok ((S2, d2, c2), R3) => .ok (((12, 0, 0, 0, 0, k + 1 + S1.length, k + 1 + S1.length + S2.length, cs) :: (S1 ++ S2), 1 + (d1 + d2), c1 + c2), R3)) = zPz (match zels blk (k + 1 + S1.length) R2 with
          | .error e => .error e
          | .ok ((S2, d2, c2), R2) => .ok ((S1 ++ S2, d1 + d2, c1 + c2), R2))
        cases zels blk (k + 1 + S1.length) R2 <;> rfl
theorem zsif_ok {blk : Nat → List zTok → zPS} {k : Nat} {R : List zTok} {S : List zStp} {dn ch : Nat} {R' : List zTok} (h : zsif blk k R = .ok ((S, dn, ch), R')) : ∃ cs R1 S1 d1 c1 R2 S2 d2 c2, zcon R = .ok (cs, R1) ∧ blk (k + 1) R1 = .ok ((S1, d1, c1), R2) ∧ zels blk (k + 1 + S1.length) R2 = .ok ((S2, d2, c2), R') ∧ S = (12, 0, 0, 0, 0, k + 1 + S1.length, k + 1 + S1.length + S2.length, cs) :: (S1 ++ S2) ∧ dn = 1 + (d1 + d2) ∧ ch = c1 + c2 := by
  unfold zsif at h
  cases h1 : zcon R with
  | error e => rw [h1] at h; cases h
  | ok a =>
    obtain ⟨cs, R1⟩ := a
    rw [h1] at h
    simp only at h
    cases h2 : blk (k + 1) R1 with
    | error e => rw [h2] at h; cases h
    | ok b =>
      obtain ⟨⟨S1, d1, c1⟩, R2⟩ := b
      rw [h2] at h
      simp only at h
      cases h3 : zels blk (k + 1 + S1.length) R2 with
      | error e => rw [h3] at h; cases h
      | ok c =>
        obtain ⟨⟨S2, d2, c2⟩, R3⟩ := c
        rw [h3] at h
        simp only [Except.ok.injEq, Prod.mk.injEq] at h
        obtain ⟨⟨rfl, rfl, rfl⟩, rfl⟩ := h
        exact ⟨cs, R1, S1, d1, c1, R2, S2, d2, c2, rfl, h2, h3, rfl, rfl, rfl⟩
set_option maxHeartbeats 4000000 in
theorem l_sif {d n Tr o k m : Nat} {σ τ : zH} {T : List zTok} {s : zPs} {x : Int32} {blk : Nat → List zTok → zPS} (hT : zTok1 T n) (ht : 13 < Tr) (hk : k < 40) (hm : m ≤ 450) (hTs : zTs σ Tr) {Q : Option Value → zH → Prop} (hB : zBg T n Tr o k m 12 σ τ s) (hP : zPblk T n Tr (d + 38) 24 x blk) (hQ : ∀ υ k' m', zAs T n Tr o k k k' m m' σ υ (s.bind (zsif blk k)) → Q none υ) : zM (d + 39) 23 [.ref 9, .ref Tr, .ref (Tr + 6 + k), .int x, .int (nI o)] τ (fun r σ121 => zqv r ((zK σ121 Tr = 10) ∧ (zK σ121 (Tr + 6 + k) = 6) ∧ Q none (zsI σ121 (Tr + 6 + k) 6 (zI σ121 Tr 2)))) := by
  obtain ⟨c1, c2, c3, c4, c5, c6, c7, c8, c9, c10⟩ := hB
  have hTs1 := zTs_g c2 ht hTs
  have t1 : zQ τ Tr 1 = Tr + 2 := hTs1.2.2.1
  refine b23 ⟨hTs1.1, ?_⟩
  rw [t1, c6]
  refine ⟨hTs1.2.2.2.2.2.2.1, (hTs1.2.2.2.2.2.1 k hk).2, (zRS_k hT c1).1, ?_⟩
  have F0 : zFg Tr (Tr + 46) zJ6 τ (zsI τ (Tr + 6 + k) 7 (nI m)) := zFg_I 7 _ (by omega) (by omega) (by omega)
  have hTs2 := zTs_g F0 ht hTs1
  refine p_ccon hT d (Tr + 2) m _ s _ (by omega) hTs2.2.2.2.2.2.2 hm (by rw [zIo (by omega)]; exact c6) (zRS_I 7 _ (by omega) c1) (fun υ m1 g => ?_)
  rw [zqv_s]
  obtain ⟨rc, hrc⟩ : ∃ rc, rc = s.bind zcon := ⟨_, rfl⟩
  rw [← hrc] at g
  have F1 : zFg Tr (Tr + 46) zJ6 (zsI τ (Tr + 6 + k) 7 (nI m)) υ := zFg_m g.2.1 (by omega) (by omega) (fun i q => by unfold zJ4 at q; unfold zJ6; omega)
  have hTs3 := zTs_g F1 ht hTs2
  have u1 : zQ υ Tr 1 = Tr + 2 := hTs3.2.2.1
  have um : zI υ (Tr + 2) 3 = nI m1 := g.2.2.2.2.2.1
  have gI := g.2.1.2.2.2.2.2.2.1
  have g9 := g.2.1.2.2.2.2.2.2.2
  rw [u1, um]
  refine ⟨hTs3.1, hTs3.2.2.2.2.2.2.1, (hTs3.2.2.2.2.2.1 k hk).2, (zRS_k hT g.1).1, ?_⟩
  have F2 : zFg Tr (Tr + 46) zJ6 υ (zsI υ (Tr + 6 + k) 8 (nI m1)) := zFg_I 8 _ (by omega) (by omega) (by omega)
  have hTs4 := zTs_g F2 ht hTs3
  have eU : zI υ (Tr + 6 + k) = zI (zsI τ (Tr + 6 + k) 7 (nI m)) (Tr + 6 + k) := (gI _ (by omega) (by omega)).1
  refine hP (k + 1) m1 o _ (zPq rc) _ (by omega) g.2.2.2.2.1 hTs4 ?_ (by rw [zIo (by omega)]; exact um) (zRS_I 8 _ (by omega) g.1) (fun ρ k1 m2 q => ?_)
  · rw [zIo (by omega), (gI Tr (by omega) (by omega)).1, zIo (by omega)]; exact c5
  rw [zqv_s]
  have hTs5 := zTs_g q.2.1 ht hTs4
  have eT : zI ρ Tr 2 = nI k1 := q.2.2.2.2.2.2.2.2.1
  have est : zI ρ (Tr + 6 + k) = zI (zsI υ (Tr + 6 + k) 8 (nI m1)) (Tr + 6 + k) := q.2.2.2.1 k (by omega)
  rw [eT]
  have q1 := zAs_w (j := 5) (v := nI k1) ht (Nat.le_refl k) (by omega) (by omega) (zAs_b (b' := k) (by omega) q)
  have hTs6 := zTs_g q1.2.1 ht hTs4
  obtain ⟨z1, z2, z3⟩ := zRS_k hT q1.1
  refine ⟨hTs5.1, (hTs5.2.2.2.2.2.1 k hk).2, (zRS_k hT q.1).1, ?_⟩
  obtain ⟨r1, hr1⟩ : ∃ r1, r1 = (zPq rc).bind (blk (k + 1)) := ⟨_, rfl⟩
  rw [← hr1] at q q1 z2 z3
  have k1k : k + 1 ≤ k1 := q.2.2.2.2.1
  -- the end
  have fin : ∀ ω k2 m3, zAs T n Tr o k1 k1 k2 m2 m3 (zsI ρ (Tr + 6 + k) 5 (nI k1)) ω ((zPz r1).bind (zels blk k1)) → (zK ω Tr = 10) ∧ (zK ω (Tr + 6 + k) = 6) ∧ Q none (zsI ω (Tr + 6 + k) 6 (zI ω Tr 2)) := by
    intro ω k2 m3 f
    have hTs7 := zTs_g f.2.1 ht hTs6
    refine ⟨hTs7.1, (hTs7.2.2.2.2.2.1 k hk).2, hQ _ k2 m3 ?_⟩
    have eW : zI ω Tr 2 = nI k2 := f.2.2.2.2.2.2.2.2.1
    have esw : zI ω (Tr + 6 + k) = zI (zsI ρ (Tr + 6 + k) 5 (nI k1)) (Tr + 6 + k) := f.2.2.2.1 k (by omega)
    rw [eW]
    have f1 := zAs_w (j := 6) (v := nI k2) ht (Nat.le_refl k) (by omega) (by omega) (zAs_s (by omega) q1 f)
    refine zAs_h (o2 := o) ht hk g.2.2.2.1 (zFg_t (zFg_t (zFg_t c2 F0) F1) F2) ?_ ?_ ?_ ?_ f1 ?_ ?_
    · intro a l1 l2 i hi
      show zA υ a i = _
      rw [g.2.2.1 a (by omega) (by omega) i hi]
      show zA τ a i = _
      rw [c3 a (by omega) (by omega)]
    · intro i hi
      rw [zIo (by omega), (gI _ (by omega) (by omega)).1, zIo (by omega)]
      exact c4 i hi
    · rw [zIo (by omega), g9 3 (by unfold zJ4; omega), zIo (by omega)]; exact c9
    · rw [zIo (by omega), g9 4 (by unfold zJ4; omega), zIo (by omega)]; exact c10
    · rw [hr1, hrc]
      exact zsif_z blk k s
    · intro S dn ch R hr
      cases s with
      | error e => cases hr
      | ok R0 =>
        have hrc' : rc = zcon R0 := hrc
        obtain ⟨cs, R1, S1, d1, e1, R2, S2, d2, e2, y1, y2, y3, rfl, rfl, rfl⟩ := zsif_ok (show zsif blk k R0 = _ from hr)
        rw [y1] at hrc'
        have hr1' : r1 = .ok ((S1, d1, e1), R2) := by rw [hr1, hrc']; exact y2
        rw [hrc'] at g
        have ga := g.2.2.2.2.2.2 cs R1 rfl
        refine ⟨_, S1 ++ S2, d1 + d2, e1 + e2, ?_, rfl, ?_, rfl, fun hc => (ga hc).1, fun hc hk2 => ?_⟩
        · rw [hr1']
          simp only [zSqs]
          rw [y3]
        · rw [Nat.mul_add, Nat.mul_one]
        · have hl : (k1 = k + 1 + S1.length) := by
            have := q.2.2.2.2.2.2.2.2.2.2 S1 d1 e1 R2 hr1'
            exact this.1
          have k40 : k2 ≤ 40 := f.2.2.2.2.2.1
          rw [List.length_append] at hk2
          rw [zcdn_c] at hc
          have hc1 : m + cs.length ≤ 450 := by
            have : (zpC (12, 0, 0, 0, 0, k + 1 + S1.length, k + 1 + S1.length + S2.length, cs)).length = cs.length := rfl
            omega
          obtain ⟨w1, w2⟩ := ga hc1
          have m23 : m1 ≤ m3 := Nat.le_trans q.2.2.2.2.2.2.1 f.2.2.2.2.2.2.1
          obtain ⟨v1, v2⟩ := zCk_sf (zcon_gd _ _ _ y1)
          refine ⟨?_, ?_, ?_, ?_, ?_, ?_, ?_, ?_⟩
          · rw [zIs (by omega), esw, zIs (by omega), est, zIs (by omega), eU, zIs (by omega)]; exact c7
          · rw [zIe, hk2]
            show nI (k + 1 + (S1.length + S2.length)) = nI (k + 1 + S1.length + S2.length)
            rw [Nat.add_assoc (k + 1)]
          · show 12 ≤ 12; omega
          · show k + 1 + S1.length + S2.length ≤ 40; omega
          · show k + 1 + S1.length ≤ 40; omega
          · intro c; exact absurd c (by show ¬ 12 ≤ 10; omega)
          · intro c; exact absurd c (by show ¬ 12 = 11; omega)
          · intro _
            refine ⟨?_, m, ?_, ?_, ?_, ?_, v1, v2⟩
            · rw [zIs (by omega), esw, zIe, hl]; rfl
            · rw [zIs (by omega), esw, zIs (by omega), est, zIs (by omega), eU, zIe]
            · rw [zIs (by omega), esw, zIs (by omega), est, zIe, w1]; rfl
            · show m + cs.length ≤ m3; omega
            · show zCls _ (Tr + 2) m cs
              have l1 : zKr (Tr + 2) m1 υ ω := fun a l h i hi => by
                rw [f.2.2.1 a l h i (by have := q.2.2.2.2.2.2.1; omega)]
                show zA ρ a i = _
                rw [q.2.2.1 a l h i hi]
                rfl
              exact zCls_k (τ := zsI ω (Tr + 6 + k) 6 (nI k2)) l1 cs m (by omega) w2
  rw [z2]
  by_cases h13 : zKd (zPz r1) = 13
  · rw [if_neg (by rw [h13]; exact fun q => q rfl)]
    refine p_goonS q1.1 (fun ρ1 f1 f2 => ?_)
    rw [zqv_s]
    refine ⟨(zRS_k hT f1).1, hP k1 m2 o ρ1 _ _ q.2.2.2.2.2.1 q.2.2.2.2.2.2.2.1 (zTs_g (zFg_c (lo := 0) (hi := 0) f2) ht hTs6) ?_ ?_ f1 (fun ω k2 m3 y => ?_)⟩
    · rw [(f2.1.2.2.2.2 Tr (by omega)).1]; exact q1.2.2.2.2.2.2.2.2.1
    · rw [(f2.1.2.2.2.2 (Tr + 2) (by omega)).1]; exact q1.2.2.2.2.2.2.2.2.2.1
    · rw [zqv_s, zqv_s]
      refine fin ω k2 m3 (zAs_f ht f2 ?_)
      have e : (zPz r1).bind (zels blk k1) = ((zPz r1).bind (fun R => .ok (zgn R))).bind (blk k1) := by
        cases hh : zPz r1 with
        | error e => rfl
        | ok R =>
          rw [hh] at h13
          show zels blk k1 R = blk k1 (zgn R)
          unfold zels
          rw [if_pos h13]
      rw [e]
      exact y
  · rw [if_pos (fun q => h13 ((nI_eq (by omega) (by omega)).mp q))]
    rw [zqv_s]
    refine fin _ k1 m2 ?_
    have e : (zPz r1).bind (zels blk k1) = (zPz r1).bind (fun R => .ok (([], 0, 0), R)) := by
      cases hh : zPz r1 with
      | error e => rfl
      | ok R =>
        rw [hh] at h13
        show zels blk k1 R = _
        unfold zels
        rw [if_neg h13]
        rfl
    rw [e]
    refine zAs_n ht q.2.2.2.2.2.1 q.2.2.2.2.2.2.2.1 q1.2.2.2.2.2.2.2.2.1 q1.2.2.2.2.2.2.2.2.2.1 (zFc_r _ _) ?_ ?_
    · have := q1.1
      cases hh : zPz r1 with
      | error e => rw [hh] at this; exact this
      | ok R => rw [hh] at this; exact this
    · intro S dn ch R hr
      cases hh : zPz r1 with
      | error e => rw [hh] at hr; cases hr
      | ok R =>
        rw [hh] at hr
        have hr' : (Except.ok (([], 0, 0), R) : zPS) = .ok ((S, dn, ch), _) := hr
        simp only [Except.ok.injEq, Prod.mk.injEq] at hr'
        exact ⟨hr'.1.1.symm, hr'.1.2.1.symm, hr'.1.2.2.symm⟩
