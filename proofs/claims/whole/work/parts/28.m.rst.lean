/-! the reference's steps, whole -/
theorem p_isst {d : Nat} {σ : zH} {B : List Nat} {R : List zTok} (hR : zRuc σ B R) {Q : Option Value → zH → Prop} (h1 : (zhdt R).1 ≤ 12 → Q (some (.int (nI 1))) σ) (h0 : ¬ (zhdt R).1 ≤ 12 → Q (some (.int (nI 0))) σ) : zM (d + 1) 154 [.ref 160] σ Q := by
  refine b154 ⟨zRuc_k hR, p_isw hR 0 (by omega) (by decide) (fun c => ?_) (fun c0 => ?_)⟩
  · rw [zqi_s, if_pos (by decide)]; exact h1 (by omega)
  rw [zqi_s, if_neg (by decide)]
  refine ⟨zRuc_k hR, p_isw hR 1 (by omega) (by decide) (fun c => ?_) (fun c1 => ?_)⟩
  · rw [zqi_s, if_pos (by decide)]; exact h1 (by omega)
  rw [zqi_s, if_neg (by decide)]
  refine ⟨zRuc_k hR, p_isw hR 2 (by omega) (by decide) (fun c => ?_) (fun c2 => ?_)⟩
  · rw [zqi_s, if_pos (by decide)]; exact h1 (by omega)
  rw [zqi_s, if_neg (by decide)]
  refine ⟨zRuc_k hR, p_isw hR 3 (by omega) (by decide) (fun c => ?_) (fun c3 => ?_)⟩
  · rw [zqi_s, if_pos (by decide)]; exact h1 (by omega)
  rw [zqi_s, if_neg (by decide)]
  refine ⟨zRuc_k hR, p_isw hR 4 (by omega) (by decide) (fun c => ?_) (fun c4 => ?_)⟩
  · rw [zqi_s, if_pos (by decide)]; exact h1 (by omega)
  rw [zqi_s, if_neg (by decide)]
  refine ⟨zRuc_k hR, p_isw hR 5 (by omega) (by decide) (fun c => ?_) (fun c5 => ?_)⟩
  · rw [zqi_s, if_pos (by decide)]; exact h1 (by omega)
  rw [zqi_s, if_neg (by decide)]
  refine ⟨zRuc_k hR, p_isw hR 6 (by omega) (by decide) (fun c => ?_) (fun c6 => ?_)⟩
  · rw [zqi_s, if_pos (by decide)]; exact h1 (by omega)
  rw [zqi_s, if_neg (by decide)]
  refine ⟨zRuc_k hR, p_isw hR 7 (by omega) (by decide) (fun c => ?_) (fun c7 => ?_)⟩
  · rw [zqi_s, if_pos (by decide)]; exact h1 (by omega)
  rw [zqi_s, if_neg (by decide)]
  refine ⟨zRuc_k hR, p_isw hR 8 (by omega) (by decide) (fun c => ?_) (fun c8 => ?_)⟩
  · rw [zqi_s, if_pos (by decide)]; exact h1 (by omega)
  rw [zqi_s, if_neg (by decide)]
  refine ⟨zRuc_k hR, p_isw hR 9 (by omega) (by decide) (fun c => ?_) (fun c9 => ?_)⟩
  · rw [zqi_s, if_pos (by decide)]; exact h1 (by omega)
  rw [zqi_s, if_neg (by decide)]
  refine ⟨zRuc_k hR, p_isw hR 10 (by omega) (by decide) (fun c => ?_) (fun c10 => ?_)⟩
  · rw [zqi_s, if_pos (by decide)]; exact h1 (by omega)
  rw [zqi_s, if_neg (by decide)]
  refine ⟨zRuc_k hR, p_isw hR 11 (by omega) (by decide) (fun c => ?_) (fun c11 => ?_)⟩
  · rw [zqi_s, if_pos (by decide)]; exact h1 (by omega)
  rw [zqi_s, if_neg (by decide)]
  refine ⟨zRuc_k hR, p_isw hR 12 (by omega) (by decide) (fun c => ?_) (fun c12 => ?_)⟩
  · rw [zqi_s, if_neg (by decide)]; exact h1 (by omega)
  rw [zqi_s, if_pos (by decide)]
  exact h0 (by omega)
theorem zRuc_18 {σ : zH} {B : List Nat} {R : List zTok} (hR : zRuc σ B R) (hk : (zhdt R).1 < 35) : zJ σ 160 18 = lN (zwdn (zhdt R).1) := by
  obtain ⟨-, x, hx, z1, z2⟩ := hR.2.2.1.2.2.1 (by omega)
  rw [z1, (z2 (zhdt R).1 hk).mpr rfl]
def zstpr (blk : Nat → List zTok → zPS) (k : Nat) (R : List zTok) : zPS := if (zhdt R).1 ≤ 12 then zstp blk k R else .error (zflt 2 R)
set_option maxHeartbeats 4000000 in
theorem p_rstp {d bk k nd x : Nat} {σ : zH} {B : List Nat} {R : List zTok} {blk : Nat → List zTok → zPS} (hR : zRuc σ B R) (h29 : zI σ 160 29 = nI bk) (hbk : bk < 2) (h31 : zI σ 160 31 = nI k) (h36 : zI σ 160 36 = nI nd) (hlo : 800 * bk ≤ nd) (hm : zRoom B (5 * (800 * bk)) (800 * bk + 800) nd R) (hl : R.length ≤ 901) (hk : k ≤ 40) (hb : ∃ dp, zBk B.length dp blk) (hP : ∀ e, zPsr B bk (d + e + 31) 156 x blk) {Q : Option Value → zH → Prop} (h1 : ∀ τ S dn ch R', zstpr blk k R = .ok ((S, dn, ch), R') → zRA B bk k nd σ τ S R' → Q (some (.int (nI 1))) τ) (h0 : ∀ τ e, zstpr blk k R = .error e → zRE bk k nd σ τ e → Q (some (.int (nI 0))) τ) : zM (d + 33) 155 [.ref 160, .int (nI x)] σ Q := by
  have hnone : ∀ τ e, zFn zJr zA0 σ τ → zFlt τ e → zRE bk k nd σ τ e := fun τ e f g => ⟨g, zFn_rs f, zKp_n f (fun _ _ _ q => q), fun a l1 l2 i hi => by rw [(zAx f a).1]⟩
  refine b155 ⟨zRuc_k hR, p_isst hR (fun k12 => ?_) (fun k12 => ?_)⟩
  · rw [zqi_s, if_pos (by decide), h31, h29]
    refine ⟨zRuc_k hR, ?_⟩
    have er : zstpr blk k R = zstp blk k R := by unfold zstpr; rw [if_pos k12]
    rw [er] at h1 h0
    by_cases hk4 : k = 40
    · rw [if_neg (by rw [hk4]; exact fun q => q rfl), zRuc_14 hR]
      refine p_rwrong (zRuc_k hR) (fun τ g1 g2 => ?_)
      rw [zqi_s]
      refine ⟨Or.inl rfl, h0 τ _ ?_ (hnone τ _ g2 g1)⟩
      unfold zstp zflt
      rw [if_pos (by omega), if_neg (by omega)]
    · have ⟨mK0, mQ1, mK1, mN1, mQ6, mK6, mN6, mQ7, mK7, mN7, mQ8, mK8, mN8, mQ9, mK9, mN9, mQ10, mK10, mN10, mQ11, mK11, mN11, mQ21, mK21, mN21, mQ22, mK22, mN22, mQ23, mK23, mN23, mQ24, mK24, mN24, mQ25, mK25, mN25, mQ26, mK26, mN26, mQ27, mK27, mN27, mQ28, mK28, mN28, mQ32, mK32, mN32, mQ33, mK33, mN33, mQ34, mK34, mN34, mQ35, mK35, mN35, mQ40, mK40, mN40, mQ41, mK41, mN41, mQ42, mK42, mN42, mQ43, mK43, mN43, mQ44, mK44, mN44, mQ45, mK45, mN45, mQ62, mK62, mN62⟩ := hR.1.1
      obtain ⟨w, hw⟩ : ∃ w, w = (zhdt R).1 := ⟨_, rfl⟩
      have e18 := zRuc_18 hR (by omega)
      rw [← hw] at e18
      obtain ⟨s, hs⟩ : ∃ s, s = 48 * bk + k := ⟨_, rfl⟩
      rw [if_pos (by rw [nI_eq (by omega) (by omega)]; exact hk4), mQ21, mK21, mN21, mQ25, mK25, mN25, pk_mul, nI_add, nI_add, ← hs, zcl s (by omega), e18]
      refine ⟨rfl, vp_in_nI (by omega) (by omega), rfl, vp_in_nI (by omega) (by omega), ?_⟩
      obtain ⟨σ1, hσ1⟩ : ∃ σ1, σ1 = zsA (zsB (zsI σ 160 31 (nI (k + 1))) 168 s (lN (zwdn w))) 172 s (nI 0) := ⟨_, rfl⟩
      rw [← hσ1]
      have F1 : zFn zJs zAst σ σ1 := by
        rw [hσ1]
        exact zFn_t (zFn_t (zFn_I _ (Or.inr rfl)) (zFn_B _ (by unfold zAst; omega))) (zFn_A _ (by unfold zAst; omega))
      have R1 : zRuc σ1 B R := by
        rw [hσ1]
        refine zRuc_A _ (by omega) ?_
        exact zRuc_n (J := fun _ => False) (A := fun b => b = 168) (zFn_B _ rfl) ⟨id, id, id, id, id, id⟩ (by omega) rfl (zRuc_I _ (by omega) hR)
      have K1 : zKp (48 * bk + k) (48 * bk + 48) σ σ1 := by
        intro a l1 l2 i hi
        rw [hσ1, zA_sA, if_neg (by omega)]
        refine ⟨rfl, ?_⟩
        show zB (zsB (zsI σ 160 31 (nI (k + 1))) 168 s (lN (zwdn w))) a i = _
        rw [zB_sB, if_neg (by omega)]
        rfl
      have A1 : ∀ a, 176 ≤ a → zA σ1 a = zA σ a := fun a ha => by rw [hσ1, zA_o (by omega)]; rfl
      have N1 : zKn nd (800 * bk + 800) σ σ1 := fun a l1 l2 i hi => by rw [A1 a l1]
      have g0 : zB σ1 168 s = lN (zwdn w) := by
        rw [hσ1]
        show zB (zsB (zsI σ 160 31 (nI (k + 1))) 168 s (lN (zwdn w))) 168 s = _
        rw [zB_sB, if_pos ⟨rfl, rfl⟩]
      have g4 : zA σ1 172 s = nI 0 := by rw [hσ1, zA_e]
      have i31 : zI σ1 160 31 = nI (k + 1) := by rw [hσ1]; show zI (zsI σ 160 31 (nI (k + 1))) 160 31 = _; exact zIe
      have i36 : zI σ1 160 36 = nI nd := by rw [hσ1]; show zI (zsI σ 160 31 (nI (k + 1))) 160 36 = _; rw [zIs (by omega)]; exact h36
      have i29 : zI σ1 160 29 = nI bk := by rw [hσ1]; show zI (zsI σ 160 31 (nI (k + 1))) 160 29 = _; rw [zIs (by omega)]; exact h29
      refine p_rgo R1 (fun τ y1 y2 => ?_)
      rw [zqv_s]
      have G := zFn_gr y2
      have gI := G.2.2.2.2.2.2.2.2.1
      have a0 := zAdv_1 hR.2.1 (by omega)
      have t31 : zI τ 160 31 = nI (k + 1) := by rw [gI 31 (by unfold zJr; omega)]; exact i31
      have t36 : zI τ 160 36 = nI nd := by rw [gI 36 (by unfold zJr; omega)]; exact i36
      have t29 : zI τ 160 29 = nI bk := by rw [gI 29 (by unfold zJr; omega)]; exact i29
      have F2 : zFn zJs zAst σ τ := zFn_t F1 (zFn_rs G)
      have K2 : zKp (48 * bk + k) (48 * bk + 48) σ τ := zKp_t K1 (zKp_n G (fun _ _ _ q => q))
      have N2 : zKn nd (800 * bk + 800) σ τ := fun a l1 l2 i hi => by rw [(zAx G a).1]; exact N1 a l1 l2 i hi
      have t0 : zB τ 168 s = lN (zwdn w) := by rw [(zAx G 168).2]; exact g0
      have t4 : zA τ 172 s = nI 0 := by rw [(zAx G 172).1]; exact g4
      have l11 := zlg0 (w := w) 11 (v := 499984983411) (by omega) (by decide) (by decide)
      have l12 := zlg0 (w := w) 12 (v := 26982) (by omega) (by decide) (by decide)
      have hl1 := Nat.le_trans a0.2.2 hl
      by_cases c11 : w = 11
      · rw [if_neg (fun q => q (l11.mpr c11))]
        have e : zstp blk k R = zstm blk k (zgn R) := by
          unfold zstp
          rw [if_neg (by omega), if_pos (by omega)]
        rw [e] at h1 h0
        rw [c11] at t0
        have X := l_rtms (d := d + 29) y1 hbk (by omega) hs t29 t31 t36 hlo (zRoom_a hm a0) hl1 F2 K2 N2 t0 hb (by have := hP 1; rw [show d + 29 + 3 = d + 1 + 31 by omega]; exact this) h1 h0
        rw [zcl s (by omega)] at X
        exact ⟨zRuc_k y1, X⟩
      · rw [if_pos (fun q => c11 (l11.mp q))]
        by_cases c12 : w = 12
        · rw [if_neg (fun q => q (l12.mpr c12))]
          have e : zstp blk k R = zsif blk k (zgn R) := by
            unfold zstp
            rw [if_neg (by omega), if_neg (by omega), if_pos (by omega)]
          rw [e] at h1 h0
          rw [c12] at t0
          refine ⟨zRuc_k y1, l_rif y1 hbk (by omega) hs t29 t31 t36 hlo (zRoom_a hm a0) hl1 F2 K2 N2 ?_ t0 hb (hP 0) (fun υ S dn ch R' z1 z2 => ?_) (fun υ e z1 z2 => ?_)⟩
          · have := a0.2.1
            have := hm.2.2.2
            omega
          · rw [zqi_s]
            exact ⟨Or.inr rfl, h1 υ S dn ch R' z1 z2⟩
          · rw [zqi_s]
            exact ⟨Or.inl rfl, h0 υ e z1 z2⟩
        · rw [if_pos (fun q => c12 (l12.mp q))]
          have e : zstp blk k R = zspl w k (zgn R) := by
            unfold zstp
            rw [if_neg (by omega), if_neg (by omega), if_neg (by omega), hw]
          rw [e] at h1 h0
          refine ⟨zRuc_k y1, ?_⟩
          have X : zPfn B s w τ (zpln w (zgn R)) Q → _ := fun hq => l_rpln (d := d + 29) y1 (by omega) (by omega) t0 t4 hq
          rw [zcl s (by omega)] at X
          refine X ⟨fun υ p q g h R' z1 z2 z3 z4 z5 => ?_, fun υ e z1 z2 z3 z4 => ?_⟩
          · have zI' := z4.2.2.2.2.2.2.2.2.1
            have zn : ∀ a, 176 ≤ a → zA υ a = zA τ a := fun a ha => (z4.2.2.2.2.2.2.2.2.2 a (by unfold zAsp; omega)).1
            refine h1 υ [(w, p, q, g, h, 0, k + 1, [])] 1 (if zfree w h then 1 else 0) R' ?_ ⟨z2, zFn_t F2 (zFn_ps z4), zKp_t K2 (zKp_m (by omega) (by omega) z5), fun a l1 l2 i hi => by rw [zn a l1]; exact N2 a l1 l2 i hi, ?_, ?_, fun i hi => ?_⟩
            · unfold zspl
              rw [z1]
            · rw [zI' 31 (by unfold zJr; omega)]; exact t31
            · rw [zI' 36 (by unfold zJr; omega)]; exact t36
            · have hi0 : i = 0 := by simpa using hi
              rw [hi0]
              show zRSb υ bk k (w, p, q, g, h, 0, k + 1, []) (800 * bk) _
              refine ⟨by rw [← hs]; exact z3.1, ?_, ?_, ?_, fun _ => ⟨by rw [← hs]; exact z3, zpln_sw (by omega) z1⟩, fun c => ?_, fun c => ?_⟩
              · show w ≤ 12; omega
              · show k + 1 ≤ 40; omega
              · show 0 ≤ 40; omega
              · exact absurd c (by show ¬ w = 11; omega)
              · exact absurd c (by show ¬ w = 12; omega)
          · have zn : ∀ a, 176 ≤ a → zA υ a = zA τ a := fun a ha => (z3.2.2.2.2.2.2.2.2.2 a (by unfold zAsp; omega)).1
            refine h0 υ e ?_ ⟨z2, zFn_t F2 (zFn_ps z3), zKp_t K2 (zKp_m (by omega) (by omega) z4), fun a l1 l2 i hi => by rw [zn a l1]; exact N2 a l1 l2 i hi⟩
            unfold zspl
            rw [z1]
  · rw [zqi_s, if_neg (by decide)]
    refine ⟨zRuc_k hR, p_cant hR (fun τ g1 g2 => ?_)⟩
    rw [zqi_s]
    refine ⟨Or.inl rfl, h0 τ _ ?_ (hnone τ _ g2 g1)⟩
    unfold zstpr
    rw [if_neg k12]
