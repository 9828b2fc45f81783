/-! the reference's conditions, whole -/
theorem zGn_not {υ ω : zH} {lo n2 K u : Nat} {c2 : List zCd} (k2 : ∀ w, lo ≤ w → w < lo + n2 → zA ω 176 w = zA υ 176 w ∧ zA ω 177 w = zA υ 177 w ∧ zA ω 178 w = zA υ 178 w ∧ zA ω 179 w = zA υ 179 w) (hG : zGn υ lo (lo + n2) K u c2) (r6 : zA ω 176 (lo + n2) = nI 2) (r7 : zA ω 177 (lo + n2) = nI u) : zGn ω lo (lo + n2 + 1) (K + 1) (lo + n2) (c2 ++ [(23, 0, 0)]) := by
  obtain ⟨f2, C2, t2, e2⟩ := hG
  refine ⟨f2 + 1, fun g => !C2 g, ?_, fun g r st => ?_⟩
  · refine ⟨by omega, by omega, by omega, Or.inr (Or.inl ⟨r6, u, C2, r7, ?_, fun _ => rfl⟩)⟩
    exact zTr_u (Nat.le_refl _) (by omega) k2 (Nat.le_refl _) (by omega) t2
  · simp only [List.append_assoc, List.singleton_append]
    rw [e2]
    rfl
theorem zone_ra {j : Nat} {R : List zTok} (hk : (zhdt R).1 ≠ 23 ∧ (zhdt R).1 ≠ 39) : zone j R = zatm R := zone_a (s := .ok R) hk
theorem p_rcnd {g lim D K x : Nat} {B : List Nat} {f : List zTok → zPC} (hb : zBd B.length 1 3 f) (hP : zPrd B g lim (D + 2) 164 K x f) : zPrd B g lim (D + 4) 162 (K + 2) x (zcnd f) :=
  p_rl162 (D := D + 1) (zsq_bd (Or.inr rfl) hb) (p_rl163 hb hP)
set_option maxHeartbeats 4000000 in
theorem p_rone {g lim : Nat} (B : List Nat) : ∀ j, j ≤ 8 → ∀ d, zPrd B g lim (d + 5 + 3 * j) 164 (2 * j + 1) (8 - j) (zone j) := by
  intro j
  induction j with
  | zero =>
    intro _ d σ R nd Q hR hn h39 hm hl hQ
    by_cases hk : (zhdt R).1 ≠ 23 ∧ (zhdt R).1 ≠ 39
    · rw [zone_ra hk] at hQ
      exact p_ratm hR hn hm hk hQ
    · have ez : zone 0 R = .error (zflt 4 R) := by
        rw [zone, if_pos (by omega)]
      have ef : zflt 4 R = (4, (zhdt R).2.2) := by
        unfold zflt
        rw [if_neg (by omega)]
      have W : zW (d + 5) 164 19 [(0, .ref 160)] [] σ Q := by
        have X : ∀ x : Int32, zM (d + 4) 144 [.ref 160, .int (nI 4), .int (zI σ 160 14)] σ (fun r σ114 => zqi r (fun x115 => (zK σ114 160 = 13) ∧ zM (d + 4) 161 [.ref 160, .int x115] σ114 (fun r σ117 => zqi r (fun x118 => Q (some (.int x118)) σ117)))) := by
          intro x
          rw [zRuc_14 hR]
          refine p_rwrong (zRuc_k hR) (fun τ g1 g2 => ?_)
          rw [zqi_s]
          refine ⟨by rw [g2.1]; exact zRuc_k hR, p_bad0 ?_⟩
          rw [zqi_s]
          refine hQ.2 τ _ ez ?_ (zFn_rc g2) (zKn_n g2)
          rw [ef]
          exact g1
        refine b164_19 ⟨zRuc_k hR, p_isw hR 23 (by omega) (by decide) (fun k => ?_) (fun k => ?_)⟩
        · rw [zqi_s]
          refine ⟨zRuc_k hR, ?_⟩
          rw [h39, if_neg (by exact fun q => q rfl)]
          exact X 0
        · rw [zqi_s]
          refine ⟨zRuc_k hR, ?_⟩
          rw [h39, if_neg (by exact fun q => q rfl)]
          exact X 0
      refine b164 ⟨zRuc_k hR, p_isw hR 23 (by omega) (by decide) (fun k => ?_) (fun k1 => ?_)⟩
      · rw [zqi_s, if_pos (by decide)]
        exact W
      · rw [zqi_s, if_neg (by decide)]
        refine ⟨zRuc_k hR, p_iss hR 39 (by omega) (by decide) (fun k => ?_) (fun k2 => by omega)⟩
        rw [zqi_s, if_neg (by decide)]
        exact W
  | succ j ih =>
    intro hj d σ R nd Q hR hn h39 hm hl hQ
    rw [show d + 5 + 3 * (j + 1) = d + 3 + 3 * j + 5 by omega]
    by_cases hk : (zhdt R).1 ≠ 23 ∧ (zhdt R).1 ≠ 39
    · rw [zone_ra hk] at hQ
      refine p_ratm hR hn hm hk ⟨fun τ cs R' v q1 q2 q3 q4 q5 q6 q7 q8 => hQ.1 τ cs R' v q1 q2 q3 q4 q5 q6 (zGn_m (by omega) q7) q8, hQ.2⟩
    · have e88 : 8 - (j + 1) + 1 = 8 - j := by omega
      have al := zOrd_g hR.2.1 (by omega)
      have a0 := zAdv_1 hR.2.1 (by omega)
      have hm1 : zRoom B g lim nd (zgn R) := by
        obtain ⟨m1, m2, m3, m4⟩ := hm
        have := a0.2.1
        exact ⟨m1, m2, m3, by omega⟩
      have hR1 := zRuc_I (j := 39) (nI (8 - j)) (by omega) hR
      have W : zW (d + 3 + 3 * j + 5) 164 19 [(0, .ref 160)] [] σ Q := by
        refine b164_19 ⟨zRuc_k hR, p_isw hR 23 (by omega) (by decide) (fun k => ?_) (fun k => ?_)⟩
        · -- not
          rw [zqi_s, h39, nI_add, e88, if_pos (by rw [nI_eq (by omega) (by omega)]; omega)]
          have ez : zone (j + 1) R = zSq (zone j (zgn R)) (zOc (23, 0, 0)) := by rw [zone, if_pos k]
          refine ⟨zRuc_k hR, p_rgo hR1 (fun τ g1 g2 => ?_)⟩
          rw [zqv_s, if_neg (by decide)]
          have F0 : zFn zJc zAn σ (zsI σ 160 39 (nI (8 - j))) := zFn_I _ (Or.inr (Or.inr rfl))
          have F1 := zFn_gr g2
          have n1 : zI τ 160 36 = nI nd := by rw [F1.2.2.2.2.2.2.2.2.1 36 (by unfold zJr; omega), zIs (by omega)]; exact hn
          have o1 : zI τ 160 39 = nI (8 - j) := by rw [F1.2.2.2.2.2.2.2.2.1 39 (by unfold zJr; omega), zIe]
          have P := ih (by omega) (d + 2)
          rw [show d + 2 + 5 + 3 * j = d + 3 + 3 * j + 4 by omega] at P
          refine ⟨zRuc_k g1, P τ (zgn R) nd _ g1 n1 o1 hm1 (by omega) ⟨fun υ c2 R2 u q1 q2 q3 q4 q5 q6 q7 q8 => ?_, fun υ e q1 q2 q3 q4 => ?_⟩⟩
          · simp only [zqi_s]
            obtain ⟨a1, a2, a3⟩ := zone_bd B.length j _ _ _ g1.2.1 q1
            have hpl : zplc R2 ≤ B.length := zOrd_n a1.1
            have hl2 : nd + znd c2 < lim := by
              obtain ⟨m1, m2, m3, m4⟩ := hm1
              omega
            refine b164_79 ?_
            rw [if_pos (by rw [← nI_0]; exact nI_le (by omega) (by omega)), if_neg (by decide), q6, o1, pk_sub (by omega)]
            have e0 : 8 - j - 1 = 8 - (j + 1) := by omega
            rw [e0]
            have hR2 := zRuc_I (j := 39) (nI (8 - (j + 1))) (by omega) q2
            refine ⟨zRuc_k q2, p_node hR2.1.1 (by rw [zIs (by omega)]; exact q5) hl2 hm.1 (fun ω r1 r2 r3 r4 r5 r6 r7 r8 r9 => ?_)⟩
            rw [zqi_s]
            have KK : zKn nd lim σ ω := fun a l1 l2 i hi => by
              rw [r5 a l1 l2 i (by omega), zA_sI, q4 a l1 l2 i hi, (F1.2.2.2.2.2.2.2.2.2 a id).1, zA_sI]
            have en : znd (c2 ++ [(23, 0, 0)]) = znd c2 + 1 := by rw [znd_app]; rfl
            refine hQ.1 ω (c2 ++ [(23, 0, 0)]) R2 (nd + znd c2) ?_ (zRuc_c r4 r2 r3 hR2) (zFn_t (zFn_t (zFn_t (zFn_t F0 (zFn_rc F1)) q3) (zFn_I _ (Or.inr (Or.inr rfl)))) r4) KK ?_ ?_ ?_ (by have := hm.1; omega)
            · rw [ez, q1]
              rfl
            · rw [r1, en, Nat.add_assoc]
            · rw [r2 39 (by omega), zIe, h39]
            · rw [en, ← Nat.add_assoc]
              refine zGn_m (K := 2 * j + 1 + 1) (by omega) (zGn_not (υ := υ) ?_ q7 r6 r7)
              intro w _ hw
              exact ⟨r5 176 (by omega) (by omega) w (Or.inl hw), r5 177 (by omega) (by omega) w (Or.inl hw), r5 178 (by omega) (by omega) w (Or.inl hw), r5 179 (by omega) (by omega) w (Or.inl hw)⟩
          · simp only [zqi_s]
            refine b164_79 ?_
            rw [if_neg (by decide)]
            refine hQ.2 υ e ?_ q2 (zFn_t (zFn_t F0 (zFn_rc F1)) q3) (fun a l1 l2 i hi => by rw [q4 a l1 l2 i hi, (F1.2.2.2.2.2.2.2.2.2 a id).1, zA_sI])
            rw [ez, q1]
            rfl
        · -- in brackets
          have k39 : (zhdt R).1 = 39 := by omega
          rw [zqi_s, h39, nI_add, e88, if_pos (by rw [nI_eq (by omega) (by omega)]; omega)]
          have ez : zone (j + 1) R = zSq (zcnd (zone j) (zgn R)) (zNl (zexp 40)) := by rw [zone, if_neg k, if_pos k39]
          refine ⟨zRuc_k hR, p_rgo hR1 (fun τ g1 g2 => ?_)⟩
          rw [zqv_s, if_pos (by decide)]
          have F0 : zFn zJc zAn σ (zsI σ 160 39 (nI (8 - j))) := zFn_I _ (Or.inr (Or.inr rfl))
          have F1 := zFn_gr g2
          have n1 : zI τ 160 36 = nI nd := by rw [F1.2.2.2.2.2.2.2.2.1 36 (by unfold zJr; omega), zIs (by omega)]; exact hn
          have o1 : zI τ 160 39 = nI (8 - j) := by rw [F1.2.2.2.2.2.2.2.2.1 39 (by unfold zJr; omega), zIe]
          have P0 := ih (by omega) d
          rw [show d + 5 + 3 * j = d + 3 + 3 * j + 2 by omega] at P0
          have P := p_rcnd (D := d + 3 + 3 * j) (zone_bd B.length j) P0
          refine ⟨zRuc_k g1, P τ (zgn R) nd _ g1 n1 o1 hm1 (by omega) ⟨fun υ c2 R2 u q1 q2 q3 q4 q5 q6 q7 q8 => ?_, fun υ e q1 q2 q3 q4 => ?_⟩⟩
          · simp only [zqi_s]
            refine b164_79 ?_
            rw [if_pos (by rw [← nI_0]; exact nI_le (by omega) (by omega)), if_pos (by decide), q6, o1, pk_sub (by omega)]
            have e0 : 8 - j - 1 = 8 - (j + 1) := by omega
            rw [e0]
            have hR2 := zRuc_I (j := 39) (nI (8 - (j + 1))) (by omega) q2
            have F2 : zFn zJc zAn σ (zsI υ 160 39 (nI (8 - (j + 1)))) := zFn_t (zFn_t (zFn_t F0 (zFn_rc F1)) q3) (zFn_I _ (Or.inr (Or.inr rfl)))
            refine ⟨zRuc_k q2, p_rmust hR2 40 (by omega) (by decide) (fun ω R3 y1 y2 y3 => ?_) (fun ω e y1 y2 y3 => ?_)⟩
            · rw [zqi_s, if_neg (by decide)]
              have KK : ∀ a, zA ω a = zA υ a := fun a => (y3.2.2.2.2.2.2.2.2.2 a id).1
              refine hQ.1 ω c2 R3 u ?_ y2 (zFn_t F2 (zFn_rc y3)) (fun a l1 l2 i hi => by rw [KK a, q4 a l1 l2 i hi, (F1.2.2.2.2.2.2.2.2.2 a id).1, zA_sI]) ?_ ?_ ?_ q8
              · rw [ez, q1]
                simp only [zSq, zNl]
                rw [y1]
                simp only [List.append_nil]
              · rw [y3.2.2.2.2.2.2.2.2.1 36 (by unfold zJr; omega), zIs (by omega)]; exact q5
              · rw [y3.2.2.2.2.2.2.2.2.1 39 (by unfold zJr; omega), zIe, h39]
              · obtain ⟨f, C, t1, t2⟩ := zGn_m (K' := 2 * (j + 1) + 1) (by omega) q7
                exact ⟨f, C, zTr_c (fun w _ _ => ⟨by rw [KK], by rw [KK], by rw [KK], by rw [KK]⟩) f _ u C t1, t2⟩
            · rw [zqi_s, if_pos (by decide)]
              have KK : ∀ a, zA ω a = zA υ a := fun a => (y3.2.2.2.2.2.2.2.2.2 a id).1
              refine hQ.2 ω e ?_ y2 (zFn_t F2 (zFn_rc y3)) (fun a l1 l2 i hi => by rw [KK a, q4 a l1 l2 i hi, (F1.2.2.2.2.2.2.2.2.2 a id).1, zA_sI])
              rw [ez, q1]
              simp only [zSq, zNl]
              rw [y1]
          · simp only [zqi_s]
            refine b164_79 ?_
            rw [if_neg (by decide)]
            refine hQ.2 υ e ?_ q2 (zFn_t (zFn_t F0 (zFn_rc F1)) q3) (fun a l1 l2 i hi => by rw [q4 a l1 l2 i hi, (F1.2.2.2.2.2.2.2.2.2 a id).1, zA_sI])
            rw [ez, q1]
            rfl
      refine b164 ⟨zRuc_k hR, p_isw hR 23 (by omega) (by decide) (fun k => ?_) (fun k1 => ?_)⟩
      · rw [zqi_s, if_pos (by decide)]
        exact W
      · rw [zqi_s, if_neg (by decide)]
        refine ⟨zRuc_k hR, p_iss hR 39 (by omega) (by decide) (fun k => ?_) (fun k2 => by omega)⟩
        rw [zqi_s, if_neg (by decide)]
        exact W
theorem p_rcon {g lim : Nat} (B : List Nat) (d : Nat) : zPrd B g lim (d + 31) 162 19 0 zcon := by
  have P := p_rone (g := g) (lim := lim) B 8 (by omega) d
  rw [show d + 5 + 3 * 8 = d + 27 + 2 by omega] at P
  exact p_rcnd (D := d + 27) (zone_bd B.length 8) P
