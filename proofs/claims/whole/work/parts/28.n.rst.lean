/-! the reference's blocks -/
def zwr (R : List zTok) : zPs := if (zhdt R).1 ≤ 35 then .error (zflt 2 R) else .ok R
def zstw (blk : Nat → List zTok → zPS) (c k : Nat) (R : List zTok) : zPS := zSqy (zsts blk c k R) zwr
theorem zwr_x {k : Nat} (hk : 35 < k) (r : zPS) : zSqy (zSqy r zwr) (zexp k) = zSqy r (zexp k) := by
  cases r with
  | error e => rfl
  | ok a =>
    obtain ⟨S, R⟩ := a
    simp only [zSqy, zwr]
    by_cases h : (zhdt R).1 ≤ 35
    · rw [if_pos h]
      simp only
      have : zexp k R = .error (zflt 2 R) := by
        unfold zexp
        rw [if_neg (by omega)]
      rw [this]
    · rw [if_neg h]
theorem zSqs_y (r : zPS) (k : Nat) (g : Nat → List zTok → zPS) (f : List zTok → zPs) : zSqy (zSqs r k g) f = zSqs r k (fun k R => zSqy (g k R) f) := by
  cases r with
  | error e => rfl
  | ok a =>
    obtain ⟨⟨S, d, c⟩, R⟩ := a
    simp only [zSqs]
    cases hg : g (k + S.length) R with
    | error e => rfl
    | ok b =>
      obtain ⟨⟨S2, d2, c2⟩, R2⟩ := b
      simp only [zSqy]
      cases f R2 <;> rfl
theorem l_rsts {d bk x : Nat} {B : List Nat} {blk : Nat → List zTok → zPS} {dp : Nat} (hb : zBk B.length (dp + 1) blk) (hP : ∀ e, zPsr B bk (d + e + 31) 156 x blk) : ∀ (c : Nat) (σ : zH) (R : List zTok) (k nd : Nat) (Q : Option Value → zH → Prop), 41 ≤ k + c → zRuc σ B R → zI σ 160 29 = nI bk → bk < 2 → zI σ 160 31 = nI k → zI σ 160 36 = nI nd → 800 * bk ≤ nd → zRoom B (5 * (800 * bk)) (800 * bk + 800) nd R → R.length ≤ 901 → k ≤ 40 → (∀ τ S dn ch R', zstw blk c k R = .ok ((S, dn, ch), R') → zRA B bk k nd σ τ S R' → Q (some (.int (nI 1))) τ) → (∀ τ e, zstw blk c k R = .error e → zRE bk k nd σ τ e → Q (some (.int (nI 0))) τ) → zW (d + 34) 153 0 [(0, .ref 160), (1, .int (nI x))] [] σ Q := by
  intro c
  induction c with
  | zero => intro σ R k nd Q hc hR h29 hbk h31 h36 hlo hm hl hk; omega
  | succ c ih =>
    intro σ R k nd Q hc hR h29 hbk h31 h36 hlo hm hl hk h1 h0
    have ht := zty_ok (zhdt R).1 hR.2.2.2.1
    refine b153_0 ⟨zRuc_k hR, ?_⟩
    rw [zRuc_13 hR]
    by_cases hw : (zhdt R).1 ≤ 35
    · rw [if_neg (by rw [ht.2.2.1.mpr hw]; exact fun q => q rfl)]
      refine p_rstp hR h29 hbk h31 h36 hlo hm hl hk ⟨_, hb⟩ hP (fun τ S dn ch R1 q1 q2 => ?_) (fun τ e q1 q2 => ?_)
      · rw [zqi_s, if_pos (by decide)]
        have k12 : (zhdt R).1 ≤ 12 := by
          by_cases q : (zhdt R).1 ≤ 12
          · exact q
          · unfold zstpr at q1
            rw [if_neg q] at q1
            cases q1
        have q1' : zstp blk k R = .ok ((S, dn, ch), R1) := by
          unfold zstpr at q1
          rw [if_pos k12] at q1
          exact q1
        obtain ⟨p1, p2, p3, p4, p5⟩ := zstp_ok hb hR.2.1 k12 q1'
        have ez : zstw blk (c + 1) k R = zSqs (zstp blk k R) k (zstw blk c) := by
          show zSqy (zsts blk (c + 1) k R) zwr = _
          rw [zsts, if_pos k12]
          exact zSqs_y _ _ _ _
        have e1 : 1 ≤ S.length := by
          obtain ⟨s, C, hS, -⟩ := p2
          rw [hS]
          simp
        have hm1 : zRoom B (5 * (800 * bk)) (800 * bk + 800) (nd + zndS S) R1 := by
          obtain ⟨m1, m2, m3, m4⟩ := hm
          exact ⟨m1, m2, m3, by omega⟩
        refine ih τ R1 (k + S.length) (nd + zndS S) Q (by omega) q2.1 (by rw [q2.2.1.2.2.2.2.2.2.2.2.1 29 (by unfold zJs zJc zJr; omega)]; exact h29) hbk q2.2.2.2.2.1 q2.2.2.2.2.2.1 (by omega) hm1 (Nat.le_trans p3.2.2 hl) p1 (fun υ S2 dn2 ch2 R2 y1 y2 => ?_) (fun υ e y1 y2 => ?_)
        · have hk2 : k + S.length + S2.length ≤ 40 := by
            unfold zstw at y1
            obtain ⟨R3, z1, z2⟩ := zSqy_ok y1
            exact (zsts_ok hb c _ _ _ _ _ _ p1 p3.1 z1).1
          refine h1 υ (S ++ S2) (dn + dn2) (ch + ch2) R2 ?_ (zRA_s (by omega) q2 y2)
          rw [ez, q1']
          simp only [zSqs]
          rw [y1]
        · refine h0 υ e ?_ (zRE_s q2 y2)
          rw [ez, q1']
          simp only [zSqs]
          rw [y1]
      · rw [zqi_s, if_neg (by decide)]
        refine h0 τ e ?_ q2
        show zSqy (zsts blk (c + 1) k R) zwr = _
        rw [zsts]
        unfold zstpr at q1
        by_cases k12 : (zhdt R).1 ≤ 12
        · rw [if_pos k12] at q1 ⊢
          rw [q1]
          rfl
        · rw [if_neg k12] at q1 ⊢
          simp only [zSqy, zwr]
          rw [if_pos hw]
          simp only [Except.error.injEq] at q1
          rw [q1]
    · rw [if_pos (by rw [nI_eq (by omega) (by omega)]; exact fun q => hw (ht.2.2.1.mp q))]
      refine h1 σ [] 0 0 R ?_ (zRA_nil hR h31 h36)
      show zSqy (zsts blk (c + 1) k R) zwr = _
      rw [zsts, if_neg (by omega)]
      simp only [zSqy, zwr]
      rw [if_neg hw]
theorem p_rsts {d bk x : Nat} {B : List Nat} {blk : Nat → List zTok → zPS} {dp : Nat} (hb : zBk B.length (dp + 1) blk) (hP : ∀ e, zPsr B bk (d + e + 31) 156 x blk) : zPsr B bk (d + 34) 153 x (zstw blk 41) := by
  intro σ R k nd Q hR h29 hbk h31 h36 hlo hm hl hk h1 h0
  exact b153 (l_rsts hb hP 41 σ R k nd Q (by omega) hR h29 hbk h31 h36 hlo hm hl hk h1 h0)
set_option maxHeartbeats 2000000 in
theorem p_rblk {bk : Nat} (B : List Nat) : ∀ j, j ≤ 4 → ∀ e, zPsr B bk (e + 31 + 4 * j) 156 (4 - j) (zblk j) := by
  intro j
  induction j with
  | zero =>
    intro _ e σ R k nd Q hR h29 hbk h31 h36 hlo hm hl hk h1 h0
    have hnone : ∀ τ e, zFn zJr zA0 σ τ → zFlt τ e → zRE bk k nd σ τ e := fun τ e f g => ⟨g, zFn_rs f, zKp_n f (fun _ _ _ q => q), fun a l1 l2 i hi => by rw [(zAx f a).1]⟩
    refine b156 ⟨zRuc_k hR, p_iss hR 37 (by omega) (by decide) (fun c => ?_) (fun c => ?_)⟩
    · rw [zqi_s, if_pos (by decide), if_neg (by exact fun q => q rfl), zRuc_14 hR]
      refine ⟨zRuc_k hR, p_rwrong (zRuc_k hR) (fun τ g1 g2 => ?_)⟩
      rw [zqi_s]
      refine ⟨Or.inl rfl, h0 τ _ ?_ (hnone τ _ g2 g1)⟩
      rw [zblk, if_pos c]
      unfold zflt
      rw [if_neg (by omega)]
    · rw [zqi_s, if_neg (by decide)]
      refine ⟨zRuc_k hR, p_cant hR (fun τ g1 g2 => ?_)⟩
      rw [zqi_s]
      refine ⟨Or.inl rfl, h0 τ _ ?_ (hnone τ _ g2 g1)⟩
      rw [zblk, if_neg c]
  | succ j ih =>
    intro hj e σ R k nd Q hR h29 hbk h31 h36 hlo hm hl hk h1 h0
    have hnone : ∀ τ e, zFn zJr zA0 σ τ → zFlt τ e → zRE bk k nd σ τ e := fun τ e f g => ⟨g, zFn_rs f, zKp_n f (fun _ _ _ q => q), fun a l1 l2 i hi => by rw [(zAx f a).1]⟩
    have hb := zblk_ok B.length j (by omega)
    rw [show 5 - j = 4 - j + 1 by omega] at hb
    have hP : ∀ e', zPsr B bk (e + 4 * j + e' + 31) 156 (4 - j) (zblk j) := fun e' => by
      have := ih (by omega) (e + e')
      rw [show e + 4 * j + e' + 31 = e + e' + 31 + 4 * j by omega]
      exact this
    rw [show e + 31 + 4 * (j + 1) = e + 4 * j + 34 + 1 by omega]
    refine b156 ⟨zRuc_k hR, p_iss hR 37 (by omega) (by decide) (fun c => ?_) (fun c => ?_)⟩
    · have e37 : zexp 37 R = .ok (zgn R) := by unfold zexp; rw [if_pos c]
      have ez : zblk (j + 1) k R = zSqy (zstw (zblk j) 41 k (zgn R)) (zexp 38) := by
        rw [zblk, e37]
        exact (zwr_x (by omega) _).symm
      rw [ez] at h1 h0
      rw [zqi_s, if_pos (by decide), if_pos (by rw [nI_eq (by omega) (by omega)]; omega), nI_add, show 4 - (j + 1) + 1 = 4 - j by omega]
      refine ⟨zRuc_k hR, p_rgo hR (fun τ g1 g2 => ?_)⟩
      rw [zqv_s]
      have G := zFn_gr g2
      have gI := G.2.2.2.2.2.2.2.2.1
      have a0 := zAdv_1 hR.2.1 (by omega)
      refine ⟨zRuc_k g1, p_rsts hb hP τ (zgn R) k nd _ g1 (by rw [gI 29 (by unfold zJr; omega)]; exact h29) hbk (by rw [gI 31 (by unfold zJr; omega)]; exact h31) (by rw [gI 36 (by unfold zJr; omega)]; exact h36) hlo (zRoom_a hm a0) (Nat.le_trans a0.2.2 hl) hk (fun υ S dn ch R2 q1 q2 => ?_) (fun υ e q1 q2 => ?_)⟩
      · rw [zqi_s, if_neg (by decide)]
        refine ⟨zRuc_k q2.1, p_rmust q2.1 38 (by omega) (by decide) (fun ω R3 y1 y2 y3 => ?_) (fun ω e y1 y2 y3 => ?_)⟩
        · rw [zqi_s, if_neg (by decide)]
          refine h1 ω S dn ch R3 ?_ (zRA_g (zRA_p G q2) y3 y2)
          rw [q1]
          simp only [zSqy]
          rw [y1]
        · rw [zqi_s, if_pos (by decide)]
          refine h0 ω e ?_ (zRE_g (zRA_p G q2) y3 y2)
          rw [q1]
          simp only [zSqy]
          rw [y1]
      · rw [zqi_s, if_pos (by decide)]
        refine h0 υ e ?_ (zRE_p G q2)
        rw [q1]
        rfl
    · rw [zqi_s, if_neg (by decide)]
      refine ⟨zRuc_k hR, p_cant hR (fun τ g1 g2 => ?_)⟩
      rw [zqi_s]
      refine ⟨Or.inl rfl, h0 τ _ ?_ (hnone τ _ g2 g1)⟩
      rw [zblk]
      unfold zexp
      rw [if_neg c]
