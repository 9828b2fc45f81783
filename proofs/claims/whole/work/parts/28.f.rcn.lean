/-! the reference's and, or -/
/-- left operand of an or -/
def zGv162 (τ : zH) (lo hi K v : Nat) (cs : List zCd) : Prop := zGn τ lo hi K v cs
theorem zGv162_n {τ : zH} {lo hi K v : Nat} {cs : List zCd} (h : zGv162 τ lo hi K v cs) : zGn τ lo hi K v cs := h
theorem zGn_m {τ : zH} {lo hi K K' v : Nat} {cs : List zCd} (hK : K ≤ K') (h : zGn τ lo hi K v cs) : zGn τ lo hi K' v cs := by
  obtain ⟨f, C, h1, h2⟩ := h
  exact ⟨f, C, zTr_w (Nat.le_refl _) (Nat.le_refl _) f f K K' v C (Nat.le_refl _) hK h1, h2⟩
theorem zGv162_i {τ : zH} {lo hi K v : Nat} {cs : List zCd} (h : zGn τ lo hi K v cs) : zGv162 τ lo hi (K + 1) v cs := zGn_m (by omega) h
/-- left operand of an and: an and itself, or one that is a call less deep -/
def zGv163 (τ : zH) (lo hi K v : Nat) (cs : List zCd) : Prop := zGn τ lo hi (K - 1) v cs ∨ (zA τ 176 v = nI 1 ∧ zGn τ lo hi K v cs)
theorem zGv163_n {τ : zH} {lo hi K v : Nat} {cs : List zCd} (h : zGv163 τ lo hi K v cs) : zGn τ lo hi K v cs := h.elim (fun h => zGn_m (by omega) h) (fun h => h.2)
theorem zGv163_i {τ : zH} {lo hi K v : Nat} {cs : List zCd} (h : zGn τ lo hi K v cs) : zGv163 τ lo hi (K + 1) v cs := Or.inl h
theorem zTr_u {σ τ : zH} {lo hi lo' hi' : Nat} (h1 : lo' ≤ lo) (h2 : hi ≤ hi') (k : ∀ w, lo ≤ w → w < hi → zA τ 176 w = zA σ 176 w ∧ zA τ 177 w = zA σ 177 w ∧ zA τ 178 w = zA σ 178 w ∧ zA τ 179 w = zA σ 179 w) {f f' K K' v : Nat} {C : (zCd → Bool) → Bool} (hf : f ≤ f') (hK : K ≤ K') (h : zTr σ lo hi f K v C) : zTr τ lo' hi' f' K' v C :=
  zTr_w h1 h2 f f' K K' v C hf hK (zTr_c k f K v C h)
theorem zev_b {cs0 c2 : List zCd} {k : Nat} {Ca Cb : (zCd → Bool) → Bool} (h1 : ∀ g r st, zev g (cs0 ++ r) st = zev g r (Ca g :: st)) (h2 : ∀ g r st, zev g (c2 ++ r) st = zev g r (Cb g :: st)) (g : zCd → Bool) (r : List zCd) (st : List Bool) : zev g (cs0 ++ (c2 ++ [(k, 0, 0)]) ++ r) st = zev g r (zop g (k, 0, 0) (Cb g :: Ca g :: st)) := by
  simp only [List.append_assoc, List.singleton_append]
  rw [h1, h2]
  rfl
theorem zGv162_c {σ υ ω : zH} {nd0 nd n2 K v u : Nat} {cs0 c2 : List zCd} (hnn : nd0 ≤ nd) (k1 : ∀ w, nd0 ≤ w → w < nd → zA ω 176 w = zA σ 176 w ∧ zA ω 177 w = zA σ 177 w ∧ zA ω 178 w = zA σ 178 w ∧ zA ω 179 w = zA σ 179 w) (k2 : ∀ w, nd ≤ w → w < nd + n2 → zA ω 176 w = zA υ 176 w ∧ zA ω 177 w = zA υ 177 w ∧ zA ω 178 w = zA υ 178 w ∧ zA ω 179 w = zA υ 179 w) (hG : zGv162 σ nd0 nd (K + 1) v cs0) (hG2 : zGn υ nd (nd + n2) K u c2) (r6 : zA ω 176 (nd + n2) = nI 0) (r7 : zA ω 177 (nd + n2) = nI v) (r8 : zA ω 178 (nd + n2) = nI u) : zGv162 ω nd0 (nd + n2 + 1) (K + 1) (nd + n2) (cs0 ++ (c2 ++ [(21, 0, 0)])) := by
  obtain ⟨f1, C1, t1, e1⟩ := hG
  obtain ⟨f2, C2, t2, e2⟩ := hG2
  refine ⟨f1 + f2 + 1, fun g => C1 g || C2 g, ?_, fun g r st => zev_b e1 e2 g r st⟩
  refine ⟨by omega, by omega, by omega, Or.inr (Or.inr (Or.inl ⟨r6, v, u, C1, C2, r7, r8, ?_, ?_, fun _ => rfl⟩))⟩
  · exact zTr_u (Nat.le_refl _) (by omega) k1 (by omega) (Nat.le_refl _) t1
  · exact zTr_u hnn (by omega) k2 (by omega) (by omega) t2
theorem zGv163_c {σ υ ω : zH} {nd0 nd n2 K v u : Nat} {cs0 c2 : List zCd} (hnn : nd0 ≤ nd) (k1 : ∀ w, nd0 ≤ w → w < nd → zA ω 176 w = zA σ 176 w ∧ zA ω 177 w = zA σ 177 w ∧ zA ω 178 w = zA σ 178 w ∧ zA ω 179 w = zA σ 179 w) (k2 : ∀ w, nd ≤ w → w < nd + n2 → zA ω 176 w = zA υ 176 w ∧ zA ω 177 w = zA υ 177 w ∧ zA ω 178 w = zA υ 178 w ∧ zA ω 179 w = zA υ 179 w) (hG : zGv163 σ nd0 nd (K + 1) v cs0) (hG2 : zGn υ nd (nd + n2) K u c2) (r6 : zA ω 176 (nd + n2) = nI 1) (r7 : zA ω 177 (nd + n2) = nI v) (r8 : zA ω 178 (nd + n2) = nI u) : zGv163 ω nd0 (nd + n2 + 1) (K + 1) (nd + n2) (cs0 ++ (c2 ++ [(22, 0, 0)])) := by
  obtain ⟨f2, C2, t2, e2⟩ := hG2
  refine Or.inr ⟨r6, ?_⟩
  rcases hG with ⟨f1, C1, t1, e1⟩ | ⟨r0, f1, C1, t1, e1⟩
  · refine ⟨f1 + f2 + 1, fun g => C1 g && C2 g, ?_, fun g r st => zev_b e1 e2 g r st⟩
    refine ⟨by omega, by omega, by omega, Or.inr (Or.inr (Or.inr ⟨r6, v, u, C1, C2, r7, r8, Or.inr ?_, ?_, fun _ => rfl⟩))⟩
    · exact zTr_u (Nat.le_refl _) (by omega) k1 (by omega) (Nat.le_refl _) t1
    · exact zTr_u hnn (by omega) k2 (by omega) (by omega) t2
  · refine ⟨f1 + f2 + 1, fun g => C1 g && C2 g, ?_, fun g r st => zev_b e1 e2 g r st⟩
    have lv : nd0 ≤ v ∧ v < nd := by
      cases f1 with
      | zero => exact t1.elim
      | succ f1 => exact ⟨t1.1, t1.2.1⟩
    refine ⟨by omega, by omega, by omega, Or.inr (Or.inr (Or.inr ⟨r6, v, u, C1, C2, r7, r8, Or.inl ⟨?_, ?_⟩, ?_, fun _ => rfl⟩))⟩
    · rw [(k1 v lv.1 lv.2).1]; exact r0
    · exact zTr_u (Nat.le_refl _) (by omega) k1 (by omega) (Nat.le_refl _) t1
    · exact zTr_u hnn (by omega) k2 (by omega) (by omega) t2
set_option maxHeartbeats 2000000 in
theorem l_rl163 {g lim D K x : Nat} {B : List Nat} {f : List zTok → zPC} (hb : zBd B.length 1 3 f) (hP : zPrd B g lim (D + 2) 164 K x f) : ∀ (c : Nat) (σ : zH) (R : List zTok) (nd0 nd v : Nat) (cs0 : List zCd) (Q : Option Value → zH → Prop), zRuc σ B R → nd0 ≤ nd → zI σ 160 36 = nI nd → zI σ 160 39 = nI x → zRoom B g lim nd0 R → 5 * nd ≤ g + 4 * zplc R + 3 → R.length ≤ c + 1 → c ≤ 900 → v < 3200 → zGv163 σ nd0 nd (K + 1) v cs0 → (∀ τ ds R' v', zlop f 22 c R = .ok (ds, R') → zRuc τ B R' → zFn zJc zAn σ τ → zKn nd lim σ τ → zI τ 160 36 = nI (nd + znd ds) → zI τ 160 39 = nI x → zGn τ nd0 (nd + znd ds) (K + 1) v' (cs0 ++ ds) → v' < 3200 → Q (some (.int (nI v'))) τ) → (∀ τ e, zlop f 22 c R = .error e → zFlt τ e → zFn zJc zAn σ τ → zKn nd lim σ τ → Q (some (.int (-1))) τ) → zW (D + 3) 163 5 [(0, .ref 160), (1, .int (nI v))] [] σ Q := by
  intro c
  induction c with
  | zero =>
    intro σ R nd0 nd v cs0 Q hR hnn hn h39 hm hg hc h9 hv hG h1 h0
    have k49 : (zhdt R).1 = 49 := by
      by_cases q : (zhdt R).1 = 49
      · exact q
      · have := (zOrd_g hR.2.1 q).2.2
        have h2 : 1 ≤ (zgn R).length := by
          have := (zOrd_gn hR.2.1).1
          cases hz : zgn R with
          | nil => rw [hz] at this; exact this.elim
          | cons a l => simp
        omega
    refine b163_5 ?_
    rw [if_neg (by rw [← nI_0]; exact nI_nlt (by omega) (by omega))]
    refine ⟨zRuc_k hR, p_isw hR 22 (by omega) (by decide) (fun k => by omega) (fun k => ?_)⟩
    rw [zqi_s, if_pos (by decide)]
    refine h1 σ [] R v rfl hR (zFn_r _ _ _) (fun _ _ _ _ _ => rfl) hn h39 ?_ hv
    rw [List.append_nil]
    exact zGv163_n hG
  | succ c ih =>
    intro σ R nd0 nd v cs0 Q hR hnn hn h39 hm hg hc h9 hv hG h1 h0
    refine b163_5 ?_
    rw [if_neg (by rw [← nI_0]; exact nI_nlt (by omega) (by omega))]
    refine ⟨zRuc_k hR, p_isw hR 22 (by omega) (by decide) (fun k => ?_) (fun k => ?_)⟩
    · rw [zqi_s, if_neg (by decide)]
      refine ⟨zRuc_k hR, p_rgo hR (fun τ g1 g2 => ?_)⟩
      rw [zqv_s]
      have F1 := zFn_gr g2
      have n1 : zI τ 160 36 = nI nd := by rw [F1.2.2.2.2.2.2.2.2.1 36 (by unfold zJr; omega)]; exact hn
      have o1 : zI τ 160 39 = nI x := by rw [F1.2.2.2.2.2.2.2.2.1 39 (by unfold zJr; omega)]; exact h39
      have a0 : zAdv B.length 2 R (zgn R) := by
        refine zAdv_m (zAdv_g hR.2.1 k (by omega)) ?_
        unfold zkl
        decide
      have al := (zOrd_g hR.2.1 (by omega)).2.2
      have ez : zlop f 22 (c + 1) R = zSq (zSq (f (zgn R)) (zOc (22, 0, 0))) (zlop f 22 c) := by rw [zlop, if_pos k]
      have hm1 : zRoom B g lim nd (zgn R) := by
        obtain ⟨m1, m2, m3, m4⟩ := hm
        have := a0.2.1
        exact ⟨m1, m2, m3, by omega⟩
      refine ⟨zRuc_k g1, hP τ (zgn R) nd _ g1 n1 o1 hm1 (by omega) ⟨fun υ c2 R2 u q1 q2 q3 q4 q5 q6 q7 q8 => ?_, fun υ e q1 q2 q3 q4 => ?_⟩⟩
      · simp only [zqi_s]
        rw [if_pos (by rw [← nI_0]; exact nI_le (by omega) (by omega))]
        obtain ⟨a1, a2, a3⟩ := hb _ _ _ g1.2.1 q1
        have hpl : zplc R2 ≤ B.length := zOrd_n a1.1
        have hl : nd + znd c2 < lim := by
          obtain ⟨m1, m2, m3, m4⟩ := hm1
          omega
        refine ⟨zRuc_k q2, p_node q2.1.1 q5 hl hm.1 (fun ω r1 r2 r3 r4 r5 r6 r7 r8 r9 => ?_)⟩
        rw [zqi_s]
        have en : znd (c2 ++ [(22, 0, 0)]) = znd c2 + 1 := by
          rw [znd_app]
          rfl
        have KK : zKn nd lim σ ω := fun a l1 l2 i hi => by rw [r5 a l1 l2 i (by omega), q4 a l1 l2 i (by omega), (F1.2.2.2.2.2.2.2.2.2 a id).1]
        have FF : zFn zJc zAn σ ω := zFn_t (zFn_t (zFn_rc F1) q3) r4
        have hR2 := zRuc_c r4 r2 r3 q2
        have hG2 : zGv163 ω nd0 (nd + znd c2 + 1) (K + 1) (nd + znd c2) (cs0 ++ (c2 ++ [(22, 0, 0)])) := by
          have k1 : ∀ w, nd0 ≤ w → w < nd → zA ω 176 w = zA σ 176 w ∧ zA ω 177 w = zA σ 177 w ∧ zA ω 178 w = zA σ 178 w ∧ zA ω 179 w = zA σ 179 w := fun w _ hw => ⟨KK 176 (by omega) (by omega) w (Or.inl hw), KK 177 (by omega) (by omega) w (Or.inl hw), KK 178 (by omega) (by omega) w (Or.inl hw), KK 179 (by omega) (by omega) w (Or.inl hw)⟩
          have k2 : ∀ w, nd ≤ w → w < nd + znd c2 → zA ω 176 w = zA υ 176 w ∧ zA ω 177 w = zA υ 177 w ∧ zA ω 178 w = zA υ 178 w ∧ zA ω 179 w = zA υ 179 w := fun w _ hw => ⟨r5 176 (by omega) (by omega) w (Or.inl hw), r5 177 (by omega) (by omega) w (Or.inl hw), r5 178 (by omega) (by omega) w (Or.inl hw), r5 179 (by omega) (by omega) w (Or.inl hw)⟩
          exact zGv163_c hnn k1 k2 hG q7 r6 r7 r8
        refine ih ω R2 nd0 (nd + znd c2 + 1) (nd + znd c2) (cs0 ++ (c2 ++ [(22, 0, 0)])) Q hR2 (by omega) r1 (by rw [r2 39 (by omega), q6, o1]) ?_ ?_ ?_ (by omega) (by have := hm.1; omega) hG2 (fun κ ds R3 v' y1 y2 y3 y4 y5 y6 y7 y8 => ?_) (fun κ e y1 y2 y3 y4 => ?_)
        · obtain ⟨m1, m2, m3, m4⟩ := hm
          have := a0.2.1
          have := a1.2.1
          exact ⟨m1, m2, m3, by omega⟩
        · have := a0.2.1
          omega
        · have := a1.2.2
          omega
        · refine h1 κ (c2 ++ [(22, 0, 0)] ++ ds) R3 v' ?_ y2 (zFn_t FF y3) (fun a l1 l2 i hi => (y4 a l1 l2 i (by omega)).trans (KK a l1 l2 i hi)) ?_ y6 ?_ y8
          · rw [ez, q1]
            simp only [zSq, zOc]
            rw [y1]
          · rw [y5, znd_app, en]
            congr 1
            omega
          · rw [znd_app, en, ← List.append_assoc, show nd + (znd c2 + 1 + znd ds) = nd + znd c2 + 1 + znd ds by omega]
            exact y7
        · refine h0 κ e ?_ y2 (zFn_t FF y3) (fun a l1 l2 i hi => (y4 a l1 l2 i (by omega)).trans (KK a l1 l2 i hi))
          rw [ez, q1]
          simp only [zSq, zOc]
          rw [y1]
      · simp only [zqi_s]
        rw [if_neg (by decide)]
        refine b163_5 ?_
        rw [if_pos (by decide)]
        refine h0 υ e ?_ q2 (zFn_t (zFn_rc F1) q3) (fun a l1 l2 i hi => by rw [q4 a l1 l2 i hi, (F1.2.2.2.2.2.2.2.2.2 a id).1])
        rw [ez, q1]
        rfl
    · rw [zqi_s, if_pos (by decide)]
      refine h1 σ [] R v (by rw [zlop, if_neg k]) hR (zFn_r _ _ _) (fun _ _ _ _ _ => rfl) hn h39 ?_ hv
      rw [List.append_nil]
      exact zGv163_n hG
theorem p_rl163 {g lim D K x : Nat} {B : List Nat} {f : List zTok → zPC} (hb : zBd B.length 1 3 f) (hP : zPrd B g lim (D + 2) 164 K x f) : zPrd B g lim (D + 3) 163 (K + 1) x (fun R => zSq (f R) (zlop f 22 900)) := by
  intro σ R nd Q hR hn h39 hm hl hQ
  refine b163 ⟨zRuc_k hR, hP σ R nd _ hR hn h39 hm hl ⟨fun τ cs R1 v q1 q2 q3 q4 q5 q6 q7 q8 => ?_, fun τ e q1 q2 q3 q4 => ?_⟩⟩
  · simp only [zqi_s]
    obtain ⟨a1, a2, a3⟩ := hb _ _ _ hR.2.1 q1
    refine l_rl163 hb hP 900 τ R1 nd (nd + znd cs) v cs Q q2 (by omega) q5 (by rw [q6]; exact h39) ?_ ?_ ?_ (Nat.le_refl _) q8 (zGv163_i q7) (fun κ ds R3 v' y1 y2 y3 y4 y5 y6 y7 y8 => ?_) (fun κ e y1 y2 y3 y4 => ?_)
    · obtain ⟨m1, m2, m3, m4⟩ := hm
      have := a1.2.1
      exact ⟨m1, m2, m3, by omega⟩
    · obtain ⟨m1, m2, m3, m4⟩ := hm
      omega
    · have := a1.2.2
      omega
    · refine hQ.1 κ (cs ++ ds) R3 v' ?_ y2 (zFn_t q3 y3) (fun a l1 l2 i hi => (y4 a l1 l2 i (by omega)).trans (q4 a l1 l2 i hi)) ?_ (by rw [y6, h39]) ?_ y8
      · simp only [q1, zSq]
        rw [y1]
      · rw [y5, znd_app, Nat.add_assoc]
      · rw [znd_app, ← Nat.add_assoc]
        exact y7
    · refine hQ.2 κ e ?_ y2 (zFn_t q3 y3) (fun a l1 l2 i hi => (y4 a l1 l2 i (by omega)).trans (q4 a l1 l2 i hi))
      simp only [q1, zSq]
      rw [y1]
  · simp only [zqi_s]
    refine b163_5 ?_
    rw [if_pos (by decide)]
    refine hQ.2 τ e ?_ q2 q3 q4
    simp only [q1, zSq]

set_option maxHeartbeats 2000000 in
theorem l_rl162 {g lim D K x : Nat} {B : List Nat} {f : List zTok → zPC} (hb : zBd B.length 1 3 f) (hP : zPrd B g lim (D + 2) 163 K x f) : ∀ (c : Nat) (σ : zH) (R : List zTok) (nd0 nd v : Nat) (cs0 : List zCd) (Q : Option Value → zH → Prop), zRuc σ B R → nd0 ≤ nd → zI σ 160 36 = nI nd → zI σ 160 39 = nI x → zRoom B g lim nd0 R → 5 * nd ≤ g + 4 * zplc R + 3 → R.length ≤ c + 1 → c ≤ 900 → v < 3200 → zGv162 σ nd0 nd (K + 1) v cs0 → (∀ τ ds R' v', zlop f 21 c R = .ok (ds, R') → zRuc τ B R' → zFn zJc zAn σ τ → zKn nd lim σ τ → zI τ 160 36 = nI (nd + znd ds) → zI τ 160 39 = nI x → zGn τ nd0 (nd + znd ds) (K + 1) v' (cs0 ++ ds) → v' < 3200 → Q (some (.int (nI v'))) τ) → (∀ τ e, zlop f 21 c R = .error e → zFlt τ e → zFn zJc zAn σ τ → zKn nd lim σ τ → Q (some (.int (-1))) τ) → zW (D + 3) 162 5 [(0, .ref 160), (1, .int (nI v))] [] σ Q := by
  intro c
  induction c with
  | zero =>
    intro σ R nd0 nd v cs0 Q hR hnn hn h39 hm hg hc h9 hv hG h1 h0
    have k49 : (zhdt R).1 = 49 := by
      by_cases q : (zhdt R).1 = 49
      · exact q
      · have := (zOrd_g hR.2.1 q).2.2
        have h2 : 1 ≤ (zgn R).length := by
          have := (zOrd_gn hR.2.1).1
          cases hz : zgn R with
          | nil => rw [hz] at this; exact this.elim
          | cons a l => simp
        omega
    refine b162_5 ?_
    rw [if_neg (by rw [← nI_0]; exact nI_nlt (by omega) (by omega))]
    refine ⟨zRuc_k hR, p_isw hR 21 (by omega) (by decide) (fun k => by omega) (fun k => ?_)⟩
    rw [zqi_s, if_pos (by decide)]
    refine h1 σ [] R v rfl hR (zFn_r _ _ _) (fun _ _ _ _ _ => rfl) hn h39 ?_ hv
    rw [List.append_nil]
    exact zGv162_n hG
  | succ c ih =>
    intro σ R nd0 nd v cs0 Q hR hnn hn h39 hm hg hc h9 hv hG h1 h0
    refine b162_5 ?_
    rw [if_neg (by rw [← nI_0]; exact nI_nlt (by omega) (by omega))]
    refine ⟨zRuc_k hR, p_isw hR 21 (by omega) (by decide) (fun k => ?_) (fun k => ?_)⟩
    · rw [zqi_s, if_neg (by decide)]
      refine ⟨zRuc_k hR, p_rgo hR (fun τ g1 g2 => ?_)⟩
      rw [zqv_s]
      have F1 := zFn_gr g2
      have n1 : zI τ 160 36 = nI nd := by rw [F1.2.2.2.2.2.2.2.2.1 36 (by unfold zJr; omega)]; exact hn
      have o1 : zI τ 160 39 = nI x := by rw [F1.2.2.2.2.2.2.2.2.1 39 (by unfold zJr; omega)]; exact h39
      have a0 : zAdv B.length 2 R (zgn R) := by
        refine zAdv_m (zAdv_g hR.2.1 k (by omega)) ?_
        unfold zkl
        decide
      have al := (zOrd_g hR.2.1 (by omega)).2.2
      have ez : zlop f 21 (c + 1) R = zSq (zSq (f (zgn R)) (zOc (21, 0, 0))) (zlop f 21 c) := by rw [zlop, if_pos k]
      have hm1 : zRoom B g lim nd (zgn R) := by
        obtain ⟨m1, m2, m3, m4⟩ := hm
        have := a0.2.1
        exact ⟨m1, m2, m3, by omega⟩
      refine ⟨zRuc_k g1, hP τ (zgn R) nd _ g1 n1 o1 hm1 (by omega) ⟨fun υ c2 R2 u q1 q2 q3 q4 q5 q6 q7 q8 => ?_, fun υ e q1 q2 q3 q4 => ?_⟩⟩
      · simp only [zqi_s]
        rw [if_pos (by rw [← nI_0]; exact nI_le (by omega) (by omega))]
        obtain ⟨a1, a2, a3⟩ := hb _ _ _ g1.2.1 q1
        have hpl : zplc R2 ≤ B.length := zOrd_n a1.1
        have hl : nd + znd c2 < lim := by
          obtain ⟨m1, m2, m3, m4⟩ := hm1
          omega
        refine ⟨zRuc_k q2, p_node q2.1.1 q5 hl hm.1 (fun ω r1 r2 r3 r4 r5 r6 r7 r8 r9 => ?_)⟩
        rw [zqi_s]
        have en : znd (c2 ++ [(21, 0, 0)]) = znd c2 + 1 := by
          rw [znd_app]
          rfl
        have KK : zKn nd lim σ ω := fun a l1 l2 i hi => by rw [r5 a l1 l2 i (by omega), q4 a l1 l2 i (by omega), (F1.2.2.2.2.2.2.2.2.2 a id).1]
        have FF : zFn zJc zAn σ ω := zFn_t (zFn_t (zFn_rc F1) q3) r4
        have hR2 := zRuc_c r4 r2 r3 q2
        have hG2 : zGv162 ω nd0 (nd + znd c2 + 1) (K + 1) (nd + znd c2) (cs0 ++ (c2 ++ [(21, 0, 0)])) := by
          have k1 : ∀ w, nd0 ≤ w → w < nd → zA ω 176 w = zA σ 176 w ∧ zA ω 177 w = zA σ 177 w ∧ zA ω 178 w = zA σ 178 w ∧ zA ω 179 w = zA σ 179 w := fun w _ hw => ⟨KK 176 (by omega) (by omega) w (Or.inl hw), KK 177 (by omega) (by omega) w (Or.inl hw), KK 178 (by omega) (by omega) w (Or.inl hw), KK 179 (by omega) (by omega) w (Or.inl hw)⟩
          have k2 : ∀ w, nd ≤ w → w < nd + znd c2 → zA ω 176 w = zA υ 176 w ∧ zA ω 177 w = zA υ 177 w ∧ zA ω 178 w = zA υ 178 w ∧ zA ω 179 w = zA υ 179 w := fun w _ hw => ⟨r5 176 (by omega) (by omega) w (Or.inl hw), r5 177 (by omega) (by omega) w (Or.inl hw), r5 178 (by omega) (by omega) w (Or.inl hw), r5 179 (by omega) (by omega) w (Or.inl hw)⟩
          exact zGv162_c hnn k1 k2 hG q7 r6 r7 r8
        refine ih ω R2 nd0 (nd + znd c2 + 1) (nd + znd c2) (cs0 ++ (c2 ++ [(21, 0, 0)])) Q hR2 (by omega) r1 (by rw [r2 39 (by omega), q6, o1]) ?_ ?_ ?_ (by omega) (by have := hm.1; omega) hG2 (fun κ ds R3 v' y1 y2 y3 y4 y5 y6 y7 y8 => ?_) (fun κ e y1 y2 y3 y4 => ?_)
        · obtain ⟨m1, m2, m3, m4⟩ := hm
          have := a0.2.1
          have := a1.2.1
          exact ⟨m1, m2, m3, by omega⟩
        · have := a0.2.1
          omega
        · have := a1.2.2
          omega
        · refine h1 κ (c2 ++ [(21, 0, 0)] ++ ds) R3 v' ?_ y2 (zFn_t FF y3) (fun a l1 l2 i hi => (y4 a l1 l2 i (by omega)).trans (KK a l1 l2 i hi)) ?_ y6 ?_ y8
          · rw [ez, q1]
            simp only [zSq, zOc]
            rw [y1]
          · rw [y5, znd_app, en]
            congr 1
            omega
          · rw [znd_app, en, ← List.append_assoc, show nd + (znd c2 + 1 + znd ds) = nd + znd c2 + 1 + znd ds by omega]
            exact y7
        · refine h0 κ e ?_ y2 (zFn_t FF y3) (fun a l1 l2 i hi => (y4 a l1 l2 i (by omega)).trans (KK a l1 l2 i hi))
          rw [ez, q1]
          simp only [zSq, zOc]
          rw [y1]
      · simp only [zqi_s]
        rw [if_neg (by decide)]
        refine b162_5 ?_
        rw [if_pos (by decide)]
        refine h0 υ e ?_ q2 (zFn_t (zFn_rc F1) q3) (fun a l1 l2 i hi => by rw [q4 a l1 l2 i hi, (F1.2.2.2.2.2.2.2.2.2 a id).1])
        rw [ez, q1]
        rfl
    · rw [zqi_s, if_pos (by decide)]
      refine h1 σ [] R v (by rw [zlop, if_neg k]) hR (zFn_r _ _ _) (fun _ _ _ _ _ => rfl) hn h39 ?_ hv
      rw [List.append_nil]
      exact zGv162_n hG
theorem p_rl162 {g lim D K x : Nat} {B : List Nat} {f : List zTok → zPC} (hb : zBd B.length 1 3 f) (hP : zPrd B g lim (D + 2) 163 K x f) : zPrd B g lim (D + 3) 162 (K + 1) x (fun R => zSq (f R) (zlop f 21 900)) := by
  intro σ R nd Q hR hn h39 hm hl hQ
  refine b162 ⟨zRuc_k hR, hP σ R nd _ hR hn h39 hm hl ⟨fun τ cs R1 v q1 q2 q3 q4 q5 q6 q7 q8 => ?_, fun τ e q1 q2 q3 q4 => ?_⟩⟩
  · simp only [zqi_s]
    obtain ⟨a1, a2, a3⟩ := hb _ _ _ hR.2.1 q1
    refine l_rl162 hb hP 900 τ R1 nd (nd + znd cs) v cs Q q2 (by omega) q5 (by rw [q6]; exact h39) ?_ ?_ ?_ (Nat.le_refl _) q8 (zGv162_i q7) (fun κ ds R3 v' y1 y2 y3 y4 y5 y6 y7 y8 => ?_) (fun κ e y1 y2 y3 y4 => ?_)
    · obtain ⟨m1, m2, m3, m4⟩ := hm
      have := a1.2.1
      exact ⟨m1, m2, m3, by omega⟩
    · obtain ⟨m1, m2, m3, m4⟩ := hm
      omega
    · have := a1.2.2
      omega
    · refine hQ.1 κ (cs ++ ds) R3 v' ?_ y2 (zFn_t q3 y3) (fun a l1 l2 i hi => (y4 a l1 l2 i (by omega)).trans (q4 a l1 l2 i hi)) ?_ (by rw [y6, h39]) ?_ y8
      · simp only [q1, zSq]
        rw [y1]
      · rw [y5, znd_app, Nat.add_assoc]
      · rw [znd_app, ← Nat.add_assoc]
        exact y7
    · refine hQ.2 κ e ?_ y2 (zFn_t q3 y3) (fun a l1 l2 i hi => (y4 a l1 l2 i (by omega)).trans (q4 a l1 l2 i hi))
      simp only [q1, zSq]
      rw [y1]
  · simp only [zqi_s]
    refine b162_5 ?_
    rw [if_pos (by decide)]
    refine hQ.2 τ e ?_ q2 q3 q4
    simp only [q1, zSq]
