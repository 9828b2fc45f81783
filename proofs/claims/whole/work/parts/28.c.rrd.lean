/-! the reference's numbers in conditions -/
/-- room for nodes -/
def zRoom (B : List Nat) (g lim nd : Nat) (R : List zTok) : Prop := lim ≤ 3200 ∧ g + 3610 ≤ 5 * lim ∧ B.length ≤ 900 ∧ 5 * nd ≤ g + 4 * zplc R
theorem zRoom_lt {B : List Nat} {g lim nd : Nat} {R : List zTok} (h : zRoom B g lim nd R) (hR : zOrd B.length R) (j : Nat) (hj : j ≤ 1) : nd + j < lim := by
  obtain ⟨h1, h2, h3, h4⟩ := h
  have : zplc R ≤ B.length := zOrd_n hR
  omega
theorem zpile_e {R : List zTok} (h : 17 ≤ (zhdt R).1) (h2 : (zhdt R).1 < 21) : zpile 9 R = .ok ((zhdt R).1 - 17, zgn R) := by
  unfold zpile
  rw [if_pos ⟨h, h2⟩, if_neg (by omega)]
theorem zpile_n {fb : Nat} {R : List zTok} (h : ¬ (17 ≤ (zhdt R).1 ∧ (zhdt R).1 < 21)) : zpile fb R = .error (zflt 2 R) := by
  unfold zpile
  rw [if_neg h]
set_option maxHeartbeats 1000000 in
theorem l_nm8 {d nd g lim : Nat} {σ : zH} {B : List Nat} {R : List zTok} (hR : zRuc σ B R) (hn : zI σ 160 36 = nI nd) (hm : zRoom B g lim nd R) {Q : Option Value → zH → Prop} (hk : 27 ≤ (zhdt R).1 ∧ (zhdt R).1 ≤ 34) (h1 : ∀ τ v R', znm R = .ok (v, R') → zRuc τ B R' → zFn zJc zAn σ τ → zKn nd lim σ τ → zI τ 160 36 = nI (nd + 1) → zI τ 160 39 = zI σ 160 39 → zNum τ nd v → Q (some (.int (nI nd))) τ) (h0 : ∀ τ e, znm R = .error e → zFlt τ e → zFn zJc zAn σ τ → zKn nd lim σ τ → Q (some (.int (-1))) τ) : zW (d + 4) 166 148 [(0, .ref 160)] [.int (nI ((zhdt R).1 - 19))] σ Q := by
  refine b166_148 ?_
  rw [if_pos (by rw [← nI_0]; exact nI_le (by omega) (by omega))]
  refine ⟨zRuc_k hR, p_rgo hR (fun τ g1 g2 => ?_)⟩
  rw [zqv_s]
  have a1 := zAdv_1 hR.2.1 (by omega)
  have hnm : znm R = zSqp (zpile 9 (zgn R)) (fun p R1 => if (zhdt R).1 < 30 then .ok ((zhdt R).1 * 256 + p * 16, R1) else zSqp (znum 1 9 R1) (fun i R2 => .ok ((zhdt R).1 * 256 + p * 16 + i, R2))) := by
    unfold znm
    rw [if_neg (by omega), if_pos hk]
  have hl := zRoom_lt hm hR.2.1 0 (by omega)
  refine ⟨zRuc_k g1, p_rpile g1 (fun υ p1 p2 f1 f2 f3 => ?_) (fun υ p1 f1 f2 => ?_)⟩
  · rw [zqi_s, if_pos (by decide)]
    refine ⟨zRuc_k f1, ?_⟩
    have hz := zpile_e p1 p2
    have F1 : zFn zJr zA0 σ υ := zFn_t (zFn_gr g2) f3
    have n1 : zI υ 160 36 = nI nd := by rw [F1.2.2.2.2.2.2.2.2.1 36 (by unfold zJr; omega)]; exact hn
    have o1 : zI υ 160 39 = zI σ 160 39 := F1.2.2.2.2.2.2.2.2.1 39 (by unfold zJr; omega)
    by_cases h30 : (zhdt R).1 < 30
    · rw [if_neg (nI_ge (by omega) (by omega)), f2]
      refine p_node f1.1.1 n1 hl hm.1 (fun ρ r1 r2 r3 r4 r5 r6 r7 r8 r9 => ?_)
      rw [zqi_s]
      refine h1 ρ ((zhdt R).1 * 256 + ((zhdt (zgn R)).1 - 17) * 16) (zgn (zgn R)) ?_ (zRuc_c r4 r2 r3 f1) (zFn_t (zFn_rc F1) r4) (zKn_t (Nat.le_refl _) (zKn_n F1) r5) r1 ?_ ?_
      · rw [hnm, hz]
        simp only [zSqp]
        rw [if_pos h30]
      · rw [r2 39 (by omega)]; exact o1
      · exact ⟨by have := hm.1; omega, Or.inr (Or.inl ⟨(zhdt R).1, (zhdt (zgn R)).1 - 17, hk.1, by omega, by omega, rfl, r6, r7⟩)⟩
    · rw [if_pos (nI_le (by omega) (by omega))]
      refine p_rnum f1 (by omega) (by omega) (fun ρ v R' q1 q2 q3 q3' q4 => ?_) (fun ρ e q1 q2 q3 => ?_)
      · rw [zqi_s, if_neg (by decide), f2, q3]
        have F2 := zFn_t F1 q4
        have n2 : zI ρ 160 36 = nI nd := by rw [F2.2.2.2.2.2.2.2.2.1 36 (by unfold zJr; omega)]; exact hn
        have o2 : zI ρ 160 39 = zI σ 160 39 := F2.2.2.2.2.2.2.2.2.1 39 (by unfold zJr; omega)
        obtain ⟨-, v1, v9, -, -⟩ := znum_ok q1
        refine ⟨zRuc_k q2, p_node q2.1.1 n2 hl hm.1 (fun ω r1 r2 r3 r4 r5 r6 r7 r8 r9 => ?_)⟩
        rw [zqi_s]
        refine h1 ω ((zhdt R).1 * 256 + ((zhdt (zgn R)).1 - 17) * 16 + v) R' ?_ (zRuc_c r4 r2 r3 q2) (zFn_t (zFn_rc F2) r4) (zKn_t (Nat.le_refl _) (zKn_n F2) r5) r1 ?_ ?_
        · rw [hnm, hz]
          simp only [zSqp]
          rw [if_neg h30, q1]
        · rw [r2 39 (by omega)]; exact o2
        · exact ⟨by have := hm.1; omega, Or.inr (Or.inr ⟨(zhdt R).1, (zhdt (zgn R)).1 - 17, v, by omega, hk.2, by omega, v1, v9, rfl, r6, r7, r8⟩)⟩
      · rw [zqi_s, if_pos (by decide)]
        have F2 := zFn_t F1 q3
        refine h0 ρ e ?_ q2 (zFn_rc F2) (zKn_n F2)
        rw [hnm, hz]
        simp only [zSqp]
        rw [if_neg h30, q1]
  · rw [zqi_s, if_neg (by decide)]
    have F2 := zFn_t (zFn_gr g2) f2
    refine h0 υ _ ?_ f1 (zFn_rc F2) (zKn_n F2)
    rw [hnm, zpile_n p1]
    rfl
theorem l_nm0 {d nd g lim : Nat} {σ : zH} {B : List Nat} {R : List zTok} (hR : zRuc σ B R) (hn : zI σ 160 36 = nI nd) (hm : zRoom B g lim nd R) {Q : Option Value → zH → Prop} (h36 : (zhdt R).1 ≠ 36) (hk : ¬ (27 ≤ (zhdt R).1 ∧ (zhdt R).1 ≤ 34)) (h0 : ∀ τ e, znm R = .error e → zFlt τ e → zFn zJc zAn σ τ → zKn nd lim σ τ → Q (some (.int (-1))) τ) : zW (d + 4) 166 148 [(0, .ref 160)] [.int (-1)] σ Q := by
  refine b166_148 ?_
  rw [if_neg (by decide)]
  refine ⟨zRuc_k hR, p_cant hR (fun τ g1 g2 => ?_)⟩
  rw [zqi_s]
  refine ⟨by rw [g2.1]; exact zRuc_k hR, p_bad0 ?_⟩
  rw [zqi_s]
  refine h0 τ _ ?_ g1 (zFn_rc g2) (zKn_n g2)
  unfold znm
  rw [if_neg h36, if_neg hk]
set_option maxHeartbeats 1000000 in
theorem p_rnm {d nd g lim : Nat} {σ : zH} {B : List Nat} {R : List zTok} (hR : zRuc σ B R) (hn : zI σ 160 36 = nI nd) (hm : zRoom B g lim nd R) {Q : Option Value → zH → Prop} (h1 : ∀ τ v R', znm R = .ok (v, R') → zRuc τ B R' → zFn zJc zAn σ τ → zKn nd lim σ τ → zI τ 160 36 = nI (nd + 1) → zI τ 160 39 = zI σ 160 39 → zNum τ nd v → Q (some (.int (nI nd))) τ) (h0 : ∀ τ e, znm R = .error e → zFlt τ e → zFn zJc zAn σ τ → zKn nd lim σ τ → Q (some (.int (-1))) τ) : zM (d + 4) 166 [.ref 160] σ Q := by
  have ht := zty_ok (zhdt R).1 hR.2.2.2.1
  have h100 := hR.2.2.2.2.1
  refine b166 ⟨zRuc_k hR, ?_⟩
  rw [zRuc_13 hR]
  by_cases h : (zhdt R).1 = 36
  · have e15 := (hR.2.2.1.2.2.2.1 h).2
    rw [if_neg (by rw [ht.2.2.2.1.mpr h]; exact fun q => q rfl), e15]
    refine p_rgo hR (fun τ g1 g2 => ?_)
    rw [zqv_s]
    have F1 := zFn_gr g2
    have n1 : zI τ 160 36 = nI nd := by rw [F1.2.2.2.2.2.2.2.2.1 36 (by unfold zJr; omega)]; exact hn
    have o1 : zI τ 160 39 = zI σ 160 39 := F1.2.2.2.2.2.2.2.2.1 39 (by unfold zJr; omega)
    refine ⟨zRuc_k g1, p_node g1.1.1 n1 (zRoom_lt hm hR.2.1 0 (by omega)) hm.1 (fun ω r1 r2 r3 r4 r5 r6 r7 r8 r9 => ?_)⟩
    rw [zqi_s]
    refine h1 ω (9216 + (zhdt R).2.1) (zgn R) ?_ (zRuc_c r4 r2 r3 g1) (zFn_t (zFn_rc F1) r4) (zKn_t (Nat.le_refl _) (zKn_n F1) r5) r1 ?_ ?_
    · unfold znm
      rw [if_pos h]
      unfold znum
      rw [if_pos h, if_pos ⟨by omega, by omega⟩]
      rfl
    · rw [r2 39 (by omega)]; exact o1
    · exact ⟨by have := zRoom_lt hm hR.2.1 0 (by omega); have := hm.1; omega, Or.inl ⟨(zhdt R).2.1, by omega, by omega, r6, r7⟩⟩
  · rw [if_pos (by rw [nI_eq (by omega) (by omega)]; exact fun q => h (ht.2.2.2.1.mp q))]
    have L8 : ∀ k, (zhdt R).1 = k → 27 ≤ k ∧ k ≤ 34 → zW (d + 4) 166 148 [(0, .ref 160)] [.int (nI (k - 19))] σ Q := fun k e hk => by
      have := l_nm8 (d := d) hR hn hm (by omega) h1 h0
      rw [e] at this
      exact this
    refine p_isw hR 27 (by omega) (by decide) (fun k => ?_) (fun k1 => ?_)
    · rw [zqi_s, if_neg (by decide)]; exact L8 27 k (by omega)
    rw [zqi_s, if_pos (by decide)]
    refine ⟨zRuc_k hR, p_isw hR 28 (by omega) (by decide) (fun k => ?_) (fun k2 => ?_)⟩
    · rw [zqi_s, if_neg (by decide)]; exact L8 28 k (by omega)
    rw [zqi_s, if_pos (by decide)]
    refine ⟨zRuc_k hR, p_isw hR 29 (by omega) (by decide) (fun k => ?_) (fun k3 => ?_)⟩
    · rw [zqi_s, if_neg (by decide)]; exact L8 29 k (by omega)
    rw [zqi_s, if_pos (by decide)]
    refine ⟨zRuc_k hR, p_isw hR 30 (by omega) (by decide) (fun k => ?_) (fun k4 => ?_)⟩
    · rw [zqi_s, if_neg (by decide)]; exact L8 30 k (by omega)
    rw [zqi_s, if_pos (by decide)]
    refine ⟨zRuc_k hR, p_isw hR 31 (by omega) (by decide) (fun k => ?_) (fun k5 => ?_)⟩
    · rw [zqi_s, if_neg (by decide)]; exact L8 31 k (by omega)
    rw [zqi_s, if_pos (by decide)]
    refine ⟨zRuc_k hR, p_isw hR 32 (by omega) (by decide) (fun k => ?_) (fun k6 => ?_)⟩
    · rw [zqi_s, if_neg (by decide)]; exact L8 32 k (by omega)
    rw [zqi_s, if_pos (by decide)]
    refine ⟨zRuc_k hR, p_isw hR 33 (by omega) (by decide) (fun k => ?_) (fun k7 => ?_)⟩
    · rw [zqi_s, if_neg (by decide)]; exact L8 33 k (by omega)
    rw [zqi_s, if_pos (by decide)]
    refine ⟨zRuc_k hR, p_isw hR 34 (by omega) (by decide) (fun k => ?_) (fun k8 => ?_)⟩
    · rw [zqi_s, if_neg (by decide)]; exact L8 34 k (by omega)
    rw [zqi_s, if_pos (by decide)]
    exact l_nm0 hR hn hm h (by omega) h0
