/-! the reference's times and if -/
theorem zRoom_a {B : List Nat} {g lim nd : Nat} {R R' : List zTok} (h : zRoom B g lim nd R) {n x : Nat} (ha : zAdv n x R R') : zRoom B g lim nd R' := by
  obtain ⟨m1, m2, m3, m4⟩ := h
  have := ha.2.1
  exact ⟨m1, m2, m3, by omega⟩
set_option maxHeartbeats 4000000 in
theorem l_rtms {d bk k nd s x : Nat} {σ σ0 : zH} {B : List Nat} {R : List zTok} {blk : Nat → List zTok → zPS} (hR : zRuc σ B R) (hbk : bk < 2) (hk : k < 40) (hs : s = 48 * bk + k) (h29 : zI σ 160 29 = nI bk) (h31 : zI σ 160 31 = nI (k + 1)) (h36 : zI σ 160 36 = nI nd) (hlo : 800 * bk ≤ nd) (hm : zRoom B (5 * (800 * bk)) (800 * bk + 800) nd R) (hl : R.length ≤ 901) (hF : zFn zJs zAst σ0 σ) (hK : zKp (48 * bk + k) (48 * bk + 48) σ0 σ) (hN : zKn nd (800 * bk + 800) σ0 σ) {Q : Option Value → zH → Prop} (f0 : zB σ 168 s = lN (zwdn 11)) (hb : ∃ dp, zBk B.length dp blk) (hP : zPsr B bk (d + 3) 156 x blk) (h1 : ∀ τ S dn ch R', zstm blk k R = .ok ((S, dn, ch), R') → zRA B bk k nd σ0 τ S R' → Q (some (.int (nI 1))) τ) (h0 : ∀ τ e, zstm blk k R = .error e → zRE bk k nd σ0 τ e → Q (some (.int (nI 0))) τ) : zM (d + 3) 151 [.ref 160, .int (nI 2), .int (nI 9)] σ (fun r σ129 => zqi r (fun x130 => (if ¬ x130 = 0 then (zK σ129 160 = 13) ∧ (zK σ129 (zQ σ129 160 25) = 20) ∧ (vp_in (nI s) (zN σ129 (zQ σ129 160 25))) ∧ zM (d + 3) 156 [.ref 160, .int (nI x)] (zsA σ129 (zQ σ129 160 25) (nI s).toNatClampNeg (zI σ129 160 20)) (fun r σ135 => zqi r (fun x136 => (if ¬ x136 = 0 then (zK σ135 160 = 13) ∧ (zK σ135 (zQ σ135 160 28) = 20) ∧ (vp_in (nI s) (zN σ135 (zQ σ135 160 28))) ∧ Q (some (.int (nI 1))) (zsA σ135 (zQ σ135 160 28) (nI s).toNatClampNeg (zI σ135 160 31)) else Q (some (.int (nI 0))) σ135))) else Q (some (.int (nI 0))) σ129))) := by
  have hs96 : s < 96 := by omega
  refine p_rnum hR (by omega) (by omega) (fun τ v R1 y1 y2 y3 y3' y4 => ?_) (fun τ e y1 y2 y3 => ?_)
  · have ⟨mK0, mQ1, mK1, mN1, mQ6, mK6, mN6, mQ7, mK7, mN7, mQ8, mK8, mN8, mQ9, mK9, mN9, mQ10, mK10, mN10, mQ11, mK11, mN11, mQ21, mK21, mN21, mQ22, mK22, mN22, mQ23, mK23, mN23, mQ24, mK24, mN24, mQ25, mK25, mN25, mQ26, mK26, mN26, mQ27, mK27, mN27, mQ28, mK28, mN28, mQ32, mK32, mN32, mQ33, mK33, mN33, mQ34, mK34, mN34, mQ35, mK35, mN35, mQ40, mK40, mN40, mQ41, mK41, mN41, mQ42, mK42, mN42, mQ43, mK43, mN43, mQ44, mK44, mN44, mQ45, mK45, mN45, mQ62, mK62, mN62⟩ := y2.1.1
    rw [zqi_s, if_pos (by decide), mQ25, mK25, mN25, zcl s (by omega), y3]
    refine ⟨mK0, rfl, vp_in_nI (by omega) (by omega), ?_⟩
    obtain ⟨-, v2, v9, -, -⟩ := znum_ok y1
    have a1 := znum_adv hR.2.1 y1
    obtain ⟨τ1, hτ1⟩ : ∃ τ1, τ1 = zsA τ 172 s (nI v) := ⟨_, rfl⟩
    rw [← hτ1]
    have hI := y4.2.2.2.2.2.2.2.2.1
    have R1' : zRuc τ1 B R1 := by rw [hτ1]; exact zRuc_A _ (by omega) y2
    have F1 : zFn zJs zAst σ0 τ1 := by rw [hτ1]; exact zFn_t (zFn_t hF (zFn_rs y4)) (zFn_A _ (by unfold zAst; omega))
    have K1 : zKp (48 * bk + k) (48 * bk + 48) σ0 τ1 := by rw [hτ1]; exact zKp_t (zKp_t hK (zKp_n y4 (fun _ _ _ q => q))) (zKp_A _ (by omega) (by omega))
    have N1 : zKn nd (800 * bk + 800) σ0 τ1 := by
      intro a l1 l2 i hi
      rw [hτ1, zA_o (by omega), (zAx y4 a).1]
      exact hN a l1 l2 i hi
    obtain ⟨dp, hbk2⟩ := hb
    refine hP τ1 R1 (k + 1) nd _ R1' (by rw [hτ1]; show zI τ 160 29 = _; rw [hI 29 (by unfold zJr; omega)]; exact h29) hbk (by rw [hτ1]; show zI τ 160 31 = _; rw [hI 31 (by unfold zJr; omega)]; exact h31) (by rw [hτ1]; show zI τ 160 36 = _; rw [hI 36 (by unfold zJr; omega)]; exact h36) hlo (zRoom_a hm a1) (Nat.le_trans a1.2.2 hl) (by omega) (fun υ C dn ch R2 q1 q2 => ?_) (fun υ e q1 q2 => ?_)
    · have hMu := q2.1.1.1
      have u28 : zQ υ 160 28 = 175 ∧ zK υ 175 = 20 ∧ zN υ 175 = 96 ∧ zK υ 160 = 13 := by
        have ⟨mK0, mQ1, mK1, mN1, mQ6, mK6, mN6, mQ7, mK7, mN7, mQ8, mK8, mN8, mQ9, mK9, mN9, mQ10, mK10, mN10, mQ11, mK11, mN11, mQ21, mK21, mN21, mQ22, mK22, mN22, mQ23, mK23, mN23, mQ24, mK24, mN24, mQ25, mK25, mN25, mQ26, mK26, mN26, mQ27, mK27, mN27, mQ28, mK28, mN28, mQ32, mK32, mN32, mQ33, mK33, mN33, mQ34, mK34, mN34, mQ35, mK35, mN35, mQ40, mK40, mN40, mQ41, mK41, mN41, mQ42, mK42, mN42, mQ43, mK43, mN43, mQ44, mK44, mN44, mQ45, mK45, mN45, mQ62, mK62, mN62⟩ := hMu
        exact ⟨mQ28, mK28, mN28, mK0⟩
      obtain ⟨-, c40, -⟩ := hbk2 (k + 1) R1 C dn ch R2 (by omega) a1.1 q1
      rw [zqi_s, if_pos (by decide), u28.1, u28.2.1, u28.2.2.1, q2.2.2.2.2.1]
      refine ⟨u28.2.2.2, rfl, vp_in_nI (by omega) (by omega), ?_⟩
      obtain ⟨w1, w2, w3, w4, w5⟩ := zRA_w (a := 175) (i0 := k) (v := nI (k + 1 + C.length)) (by omega) (by omega) (by omega) q2
      rw [← hs] at w1 w2 w3 w4 w5
      refine h1 _ ((11, 0, 0, 0, v, k + 1 + C.length, k + 1 + C.length, []) :: C) (1 + v * dn) (v * ch) R2 ?_ ?_
      · unfold zstm
        rw [y1]
        simp only
        rw [q1]
      · have kk : ∀ a, 168 ≤ a → a ≤ 175 → zA υ a s = zA τ1 a s ∧ zB υ a s = zB τ1 a s := fun a l1 l2 => q2.2.2.1 a l1 l2 s (by omega)
        refine zRA_h (nd1 := nd) rfl F1 K1 N1 w1 w2 (by rw [hs] at w3 ⊢; exact w3) w4 q2.2.2.2.2.1 q2.2.2.2.2.2.1 w5 ⟨?_, ?_, ?_, ?_, fun c => ?_, fun _ => ⟨?_, ?_, ?_, ?_⟩, fun c => ?_⟩
        · rw [← hs]
          show zB υ 168 s = _
          rw [(kk 168 (by omega) (by omega)).2, hτ1]
          show zB τ 168 s = _
          rw [(zAx y4 168).2]
          exact f0
        · show 11 ≤ 12; omega
        · show k + 1 + C.length ≤ 40; omega
        · show k + 1 + C.length ≤ 40; omega
        · exact absurd c (by show ¬ 11 ≤ 10; omega)
        · rw [← hs, zA_o (by omega), (kk 172 (by omega) (by omega)).1, hτ1, zA_e]; rfl
        · exact v2
        · exact v9
        · rw [← hs, zA_e]; rfl
        · exact absurd c (by show ¬ 11 = 12; omega)
    · rw [zqi_s, if_neg (by decide)]
      refine h0 υ e ?_ ⟨q2.1, zFn_t F1 q2.2.1, zKp_t K1 (zKp_m (by omega) (Nat.le_refl _) q2.2.2.1), fun a l1 l2 i hi => (q2.2.2.2 a l1 l2 i hi).trans (N1 a l1 l2 i hi)⟩
      unfold zstm
      rw [y1]
      simp only
      rw [q1]
  · rw [zqi_s, if_neg (by decide)]
    refine h0 τ e ?_ ⟨y2, zFn_t hF (zFn_rs y3), zKp_t hK (zKp_n y3 (fun _ _ _ q => q)), fun a l1 l2 i hi => by rw [(zAx y3 a).1]; exact hN a l1 l2 i hi⟩
    unfold zstm
    rw [y1]
/-- the cursor went on before -/
theorem zRA_p {B : List Nat} {bk k nd : Nat} {σ τ υ : zH} {S : List zStp} {R : List zTok} (hF : zFn zJr zA0 σ τ) (h : zRA B bk k nd τ υ S R) : zRA B bk k nd σ υ S R := by
  obtain ⟨a1, a2, a3, a4, a5⟩ := h
  exact ⟨a1, zFn_t (zFn_rs hF) a2, zKp_t (zKp_n hF (fun _ _ _ q => q)) a3, fun a l1 l2 i hi => by rw [a4 a l1 l2 i hi, (zAx hF a).1], a5⟩
theorem zRE_p {bk k nd : Nat} {σ τ υ : zH} {e : Nat × Nat} (hF : zFn zJr zA0 σ τ) (h : zRE bk k nd τ υ e) : zRE bk k nd σ υ e := by
  obtain ⟨a1, a2, a3, a4⟩ := h
  exact ⟨a1, zFn_t (zFn_rs hF) a2, zKp_t (zKp_n hF (fun _ _ _ q => q)) a3, fun a l1 l2 i hi => by rw [a4 a l1 l2 i hi, (zAx hF a).1]⟩
set_option maxHeartbeats 8000000 in
theorem l_rif {d bk k nd s x : Nat} {σ σ0 : zH} {B : List Nat} {R : List zTok} {blk : Nat → List zTok → zPS} (hR : zRuc σ B R) (hbk : bk < 2) (hk : k < 40) (hs : s = 48 * bk + k) (h29 : zI σ 160 29 = nI bk) (h31 : zI σ 160 31 = nI (k + 1)) (h36 : zI σ 160 36 = nI nd) (hlo : 800 * bk ≤ nd) (hm : zRoom B (5 * (800 * bk)) (800 * bk + 800) nd R) (hl : R.length ≤ 901) (hF : zFn zJs zAst σ0 σ) (hK : zKp (48 * bk + k) (48 * bk + 48) σ0 σ) (hN : zKn nd (800 * bk + 800) σ0 σ) {Q : Option Value → zH → Prop} (hm4 : 5 * nd + 4 ≤ 5 * (800 * bk) + 4 * zplc R) (f0 : zB σ 168 s = lN (zwdn 12)) (hb : ∃ dp, zBk B.length dp blk) (hP : zPsr B bk (d + 31) 156 x blk) (h1 : ∀ τ S dn ch R', zsif blk k R = .ok ((S, dn, ch), R') → zRA B bk k nd σ0 τ S R' → Q (some (.int (nI 1))) τ) (h0 : ∀ τ e, zsif blk k R = .error e → zRE bk k nd σ0 τ e → Q (some (.int (nI 0))) τ) : zM (d + 32) 157 [.ref 160, .int (nI s), .int (nI x)] σ Q := by
  have hs96 : s < 96 := by omega
  obtain ⟨dp, hbk2⟩ := hb
  refine b157 ⟨zRuc_k hR, ?_⟩
  have hR0 := zRuc_I (j := 39) (nI 0) (by omega) hR
  refine p_rcon B d (zsI σ 160 39 (nI 0)) R nd _ hR0 (by rw [zIs (by omega)]; exact h36) zIe hm hl ⟨fun τ cs R1 v q1 q2 q3 q4 q5 q6 q7 q8 => ?_, fun τ e q1 q2 q3 q4 => ?_⟩
  · have hmm := hm.1
    have m26 : zQ τ 160 26 = 173 ∧ zK τ 173 = 20 ∧ zN τ 173 = 96 ∧ zK τ 160 = 13 := by
      have ⟨mK0, mQ1, mK1, mN1, mQ6, mK6, mN6, mQ7, mK7, mN7, mQ8, mK8, mN8, mQ9, mK9, mN9, mQ10, mK10, mN10, mQ11, mK11, mN11, mQ21, mK21, mN21, mQ22, mK22, mN22, mQ23, mK23, mN23, mQ24, mK24, mN24, mQ25, mK25, mN25, mQ26, mK26, mN26, mQ27, mK27, mN27, mQ28, mK28, mN28, mQ32, mK32, mN32, mQ33, mK33, mN33, mQ34, mK34, mN34, mQ35, mK35, mN35, mQ40, mK40, mN40, mQ41, mK41, mN41, mQ42, mK42, mN42, mQ43, mK43, mN43, mQ44, mK44, mN44, mQ45, mK45, mN45, mQ62, mK62, mN62⟩ := q2.1.1
      exact ⟨mQ26, mK26, mN26, mK0⟩
    simp only [zqi_s]
    rw [if_pos (by rw [← nI_0]; exact nI_le (by omega) (by omega)), m26.1, m26.2.1, m26.2.2.1, zcl s (by omega)]
    refine ⟨m26.2.2.2, rfl, vp_in_nI (by omega) (by omega), ?_⟩
    obtain ⟨a1, a2, a3⟩ := zcon_bd B.length _ _ _ hR.2.1 q1
    obtain ⟨τ1, hτ1⟩ : ∃ τ1, τ1 = zsA τ 173 s (nI v) := ⟨_, rfl⟩
    rw [← hτ1]
    have hI := q3.2.2.2.2.2.2.2.2.1
    have R1' : zRuc τ1 B R1 := by rw [hτ1]; exact zRuc_A _ (by omega) q2
    have F0 : zFn zJs zAst σ0 (zsI σ 160 39 (nI 0)) := zFn_t hF (zFn_I _ (Or.inl (Or.inr (Or.inr rfl))))
    have F1 : zFn zJs zAst σ0 τ1 := by rw [hτ1]; exact zFn_t (zFn_t F0 (zFn_cs q3)) (zFn_A _ (by unfold zAst; omega))
    have K0 : zKp (48 * bk + k) (48 * bk + 48) σ τ := fun a l1 l2 i _ => by
      have := q3.2.2.2.2.2.2.2.2.2 a (by unfold zAn; omega)
      rw [this.1, this.2]
      exact ⟨rfl, rfl⟩
    have K1 : zKp (48 * bk + k) (48 * bk + 48) σ0 τ1 := by rw [hτ1]; exact zKp_t (zKp_t hK K0) (zKp_A _ (by omega) (by omega))
    have N1 : zKn nd (800 * bk + 800) σ0 τ1 := by
      intro a l1 l2 i hi
      rw [hτ1, zA_o (by omega), q4 a l1 l2 i hi, zA_sI]
      exact hN a l1 l2 i hi
    have hm1 : zRoom B (5 * (800 * bk)) (800 * bk + 800) (nd + znd cs) R1 := by
      obtain ⟨m1, m2, m3, m4⟩ := hm
      exact ⟨m1, m2, m3, by omega⟩
    have i29 : zI τ1 160 29 = nI bk := by rw [hτ1]; show zI τ 160 29 = _; rw [hI 29 (by unfold zJc zJr; omega), zIs (by omega)]; exact h29
    have i31 : zI τ1 160 31 = nI (k + 1) := by rw [hτ1]; show zI τ 160 31 = _; rw [hI 31 (by unfold zJc zJr; omega), zIs (by omega)]; exact h31
    have i36 : zI τ1 160 36 = nI (nd + znd cs) := by rw [hτ1]; exact q5
    refine hP τ1 R1 (k + 1) (nd + znd cs) _ R1' i29 hbk i31 i36 (by omega) hm1 (Nat.le_trans a1.2.2 hl) (by omega) (fun υ C dn ch R2 y1 y2 => ?_) (fun υ e y1 y2 => ?_)
    · have m27 : zQ υ 160 27 = 174 ∧ zK υ 174 = 20 ∧ zN υ 174 = 96 ∧ zK υ 160 = 13 := by
        have ⟨mK0, mQ1, mK1, mN1, mQ6, mK6, mN6, mQ7, mK7, mN7, mQ8, mK8, mN8, mQ9, mK9, mN9, mQ10, mK10, mN10, mQ11, mK11, mN11, mQ21, mK21, mN21, mQ22, mK22, mN22, mQ23, mK23, mN23, mQ24, mK24, mN24, mQ25, mK25, mN25, mQ26, mK26, mN26, mQ27, mK27, mN27, mQ28, mK28, mN28, mQ32, mK32, mN32, mQ33, mK33, mN33, mQ34, mK34, mN34, mQ35, mK35, mN35, mQ40, mK40, mN40, mQ41, mK41, mN41, mQ42, mK42, mN42, mQ43, mK43, mN43, mQ44, mK44, mN44, mQ45, mK45, mN45, mQ62, mK62, mN62⟩ := y2.1.1.1
        exact ⟨mQ27, mK27, mN27, mK0⟩
      rw [zqi_s, if_pos (by decide), m27.1, m27.2.1, m27.2.2.1, y2.2.2.2.2.1]
      refine ⟨m27.2.2.2, rfl, vp_in_nI (by omega) (by omega), ?_⟩
      obtain ⟨-, c40, -, c4, c5, c6⟩ := hbk2 (k + 1) R1 C dn ch R2 (by omega) a1.1 y1
      obtain ⟨w1, w2, w3, w4, w5⟩ := zRA_w (a := 174) (i0 := k) (v := nI (k + 1 + C.length)) (by omega) (by omega) (by omega) y2
      rw [← hs] at w1 w2 w3 w4 w5
      obtain ⟨υ1, hυ1⟩ : ∃ υ1, υ1 = zsA υ 174 s (nI (k + 1 + C.length)) := ⟨_, rfl⟩
      rw [← hυ1] at w1 w2 w3 w4 w5 ⊢
      have kk : ∀ a, 168 ≤ a → a ≤ 175 → zA υ a s = zA τ1 a s ∧ zB υ a s = zB τ1 a s := fun a l1 l2 => y2.2.2.1 a l1 l2 s (by omega)
      have fin : ∀ ω C2 dn2 ch2 R3, zels blk (k + 1 + C.length) R2 = .ok ((C2, dn2, ch2), R3) → k + 1 + C.length + C2.length ≤ 40 → zRA B bk (k + 1 + C.length) (nd + znd cs + zndS C) υ1 ω C2 R3 → Q (some (.int (nI 1))) (zsA ω 175 s (nI (k + 1 + C.length + C2.length))) := by
        intro ω C2 dn2 ch2 R3 hz hk40 z
        obtain ⟨x1, x2, x3, x4, x5⟩ := zRA_w (a := 175) (i0 := k) (v := nI (k + 1 + C.length + C2.length)) (by omega) (by omega) (by omega) z
        rw [← hs] at x1 x2 x3 x4 x5
        have kz : ∀ a, 168 ≤ a → a ≤ 175 → ∀ i, i < 48 * bk + (k + 1 + C.length) → zA ω a i = zA υ1 a i ∧ zB ω a i = zB υ1 a i := fun a l1 l2 i hi => z.2.2.1 a l1 l2 i (Or.inl hi)
        refine h1 _ ((12, 0, 0, 0, 0, k + 1 + C.length, k + 1 + C.length + C2.length, cs) :: (C ++ C2)) (1 + (dn + dn2)) (ch + ch2) R3 ?_ ?_
        · unfold zsif
          rw [q1]
          simp only
          rw [y1]
          simp only
          rw [hz]
        · refine zRA_h (nd1 := nd + znd cs) rfl F1 K1 N1 x1 (zFn_t w2 x2) (by rw [hs] at w3 x3 ⊢; exact zKp_t w3 x3) (fun a l1 l2 i hi => (x4 a l1 l2 i (by omega)).trans (w4 a l1 l2 i hi)) ?_ ?_ ?_ ⟨?_, ?_, ?_, ?_, fun c => ?_, fun c => ?_, fun _ => ⟨?_, ?_, ?_⟩⟩
          · show zI ω 160 31 = _
            rw [z.2.2.2.2.1, List.length_append, Nat.add_assoc]
          · show zI ω 160 36 = _
            rw [z.2.2.2.2.2.1, zndS_app, Nat.add_assoc (nd + znd cs)]
          · intro i hi
            rw [zndS_app, ← Nat.add_assoc]
            by_cases hc : i < C.length
            · rw [zSg_a1 hc]
              refine zRSb_k (σ := υ1) (b := nd + znd cs + zndS C) (by omega) (fun a l1 l2 => ?_) (fun a l1 l2 w u1 u2 => ?_) (w5 i hc)
              · rw [zA_sA, if_neg (by omega)]
                exact kz a l1 l2 _ (by omega)
              · rw [zA_o (by omega)]
                exact z.2.2.2.1 a l1 l2 w (Or.inl u2)
            · rw [zSg_a2 (by omega)]
              have := x5 (i - C.length) (by rw [List.length_append] at hi; omega)
              rw [show k + 1 + C.length + (i - C.length) = k + 1 + i by omega] at this
              exact this
          · rw [← hs]
            show zB ω 168 s = _
            rw [(kz 168 (by omega) (by omega) s (by omega)).2, hυ1]
            show zB υ 168 s = _
            rw [(kk 168 (by omega) (by omega)).2, hτ1]
            show zB τ 168 s = _
            rw [(q3.2.2.2.2.2.2.2.2.2 168 (by unfold zAn; omega)).2]
            exact f0
          · show 12 ≤ 12; omega
          · show k + 1 + C.length + C2.length ≤ 40; omega
          · show k + 1 + C.length ≤ 40; omega
          · exact absurd c (by show ¬ 12 ≤ 10; omega)
          · exact absurd c (by show ¬ 12 = 11; omega)
          · rw [← hs, zA_o (by omega), (kz 174 (by omega) (by omega) s (by omega)).1, hυ1, zA_e]; rfl
          · rw [← hs, zA_e]; rfl
          · obtain ⟨f, CC, t1, t2⟩ := q7
            refine ⟨v, CC, f, ?_, ?_, fun g => ?_⟩
            · rw [← hs, zA_o (by omega), (kz 173 (by omega) (by omega) s (by omega)).1, hυ1, zA_o (by omega), (kk 173 (by omega) (by omega)).1, hτ1, zA_e]
            · refine zTr_u (σ := τ) hlo (by rw [zndS_app]; omega) (fun w u1 u2 => ?_) (Nat.le_refl _) (Nat.le_refl _) t1
              have kw : ∀ a, 176 ≤ a → a ≤ 179 → zA (zsA ω 175 s (nI (k + 1 + C.length + C2.length))) a w = zA τ a w := fun a l1 l2 => by
                rw [zA_o (by omega), z.2.2.2.1 a l1 l2 w (by omega), hυ1, zA_o (by omega), y2.2.2.2.1 a l1 l2 w (by omega), hτ1, zA_o (by omega)]
              exact ⟨kw 176 (by omega) (by omega), kw 177 (by omega) (by omega), kw 178 (by omega) (by omega), kw 179 (by omega) (by omega)⟩
            · have := t2 g [] []
              rw [List.append_nil] at this
              show ztop (zev g cs []) = _
              rw [this]
              rfl
      have u31 : zI υ1 160 31 = nI (k + 1 + C.length) := by rw [hυ1]; exact y2.2.2.2.2.1
      have u36 : zI υ1 160 36 = nI (nd + znd cs + zndS C) := by rw [hυ1]; exact y2.2.2.2.2.2.1
      have u29 : zI υ1 160 29 = nI bk := by rw [w2.2.2.2.2.2.2.2.2.1 29 (by unfold zJs zJc zJr; omega)]; exact i29
      have n28 : zQ υ1 160 28 = 175 ∧ zK υ1 175 = 20 ∧ zN υ1 175 = 96 ∧ zK υ1 160 = 13 := by
        have ⟨mK0, mQ1, mK1, mN1, mQ6, mK6, mN6, mQ7, mK7, mN7, mQ8, mK8, mN8, mQ9, mK9, mN9, mQ10, mK10, mN10, mQ11, mK11, mN11, mQ21, mK21, mN21, mQ22, mK22, mN22, mQ23, mK23, mN23, mQ24, mK24, mN24, mQ25, mK25, mN25, mQ26, mK26, mN26, mQ27, mK27, mN27, mQ28, mK28, mN28, mQ32, mK32, mN32, mQ33, mK33, mN33, mQ34, mK34, mN34, mQ35, mK35, mN35, mQ40, mK40, mN40, mQ41, mK41, mN41, mQ42, mK42, mN42, mQ43, mK43, mN43, mQ44, mK44, mN44, mQ45, mK45, mN45, mQ62, mK62, mN62⟩ := w1.1.1
        exact ⟨mQ28, mK28, mN28, mK0⟩
      refine p_isw w1 13 (by omega) (by decide) (fun c13 => ?_) (fun c13 => ?_)
      · rw [zqi_s, if_neg (by decide)]
        refine ⟨n28.2.2.2, p_rgo w1 (fun ρ g1 g2 => ?_)⟩
        rw [zqv_s]
        have G := zFn_gr g2
        have gI := G.2.2.2.2.2.2.2.2.1
        have a5 := zAdv_1 c4.1 (by omega)
        have hz2 : zels blk (k + 1 + C.length) R2 = blk (k + 1 + C.length) (zgn R2) := by unfold zels; rw [if_pos c13]
        have hm2 : zRoom B (5 * (800 * bk)) (800 * bk + 800) (nd + znd cs + zndS C) (zgn R2) := by
          obtain ⟨m1, m2, m3, m4⟩ := hm1
          have := a5.2.1
          exact ⟨m1, m2, m3, by omega⟩
        refine ⟨zRuc_k g1, hP ρ (zgn R2) (k + 1 + C.length) (nd + znd cs + zndS C) _ g1 (by rw [gI 29 (by unfold zJr; omega)]; exact u29) hbk (by rw [gI 31 (by unfold zJr; omega)]; exact u31) (by rw [gI 36 (by unfold zJr; omega)]; exact u36) (by omega) hm2 (Nat.le_trans a5.2.2 (Nat.le_trans c4.2.2 (Nat.le_trans a1.2.2 hl))) (by omega) (fun ω C2 dn2 ch2 R3 z1 z2 => ?_) (fun ω e z1 z2 => ?_)⟩
        · have o28 : zQ ω 160 28 = 175 ∧ zK ω 175 = 20 ∧ zN ω 175 = 96 ∧ zK ω 160 = 13 := by
            have ⟨mK0, mQ1, mK1, mN1, mQ6, mK6, mN6, mQ7, mK7, mN7, mQ8, mK8, mN8, mQ9, mK9, mN9, mQ10, mK10, mN10, mQ11, mK11, mN11, mQ21, mK21, mN21, mQ22, mK22, mN22, mQ23, mK23, mN23, mQ24, mK24, mN24, mQ25, mK25, mN25, mQ26, mK26, mN26, mQ27, mK27, mN27, mQ28, mK28, mN28, mQ32, mK32, mN32, mQ33, mK33, mN33, mQ34, mK34, mN34, mQ35, mK35, mN35, mQ40, mK40, mN40, mQ41, mK41, mN41, mQ42, mK42, mN42, mQ43, mK43, mN43, mQ44, mK44, mN44, mQ45, mK45, mN45, mQ62, mK62, mN62⟩ := z2.1.1.1
            exact ⟨mQ28, mK28, mN28, mK0⟩
          obtain ⟨-, e40, -⟩ := hbk2 (k + 1 + C.length) (zgn R2) C2 dn2 ch2 R3 (by omega) a5.1 z1
          rw [zqi_s, if_pos (by decide), o28.1, o28.2.1, o28.2.2.1, z2.2.2.2.2.1]
          refine ⟨o28.2.2.2, rfl, vp_in_nI (by omega) (by omega), ?_⟩
          exact fin ω C2 dn2 ch2 R3 (by rw [hz2]; exact z1) e40 (zRA_p G z2)
        · rw [zqi_s, if_neg (by decide)]
          refine h0 ω e ?_ ⟨z2.1, zFn_t (zFn_t (zFn_t F1 w2) (zFn_rs G)) z2.2.1, ?_, fun a l1 l2 i hi => ?_⟩
          · unfold zsif
            rw [q1]
            simp only
            rw [y1]
            simp only
            rw [hz2, z1]
          · rw [hs] at w3
            exact zKp_t (zKp_t (zKp_t K1 w3) (zKp_n G (fun _ _ _ q => q))) (zKp_m (by omega) (Nat.le_refl _) z2.2.2.1)
          · rw [z2.2.2.2 a l1 l2 i (by omega), (zAx G a).1, w4 a l1 l2 i (by omega)]
            exact N1 a l1 l2 i hi
      · rw [zqi_s, if_pos (by decide), n28.1, n28.2.1, n28.2.2.1, u31]
        refine ⟨n28.2.2.2, rfl, vp_in_nI (by omega) (by omega), ?_⟩
        exact fin υ1 [] 0 0 R2 (by unfold zels; rw [if_neg c13]) (by simpa using c40) (zRA_nil w1 u31 u36)
    · rw [zqi_s, if_neg (by decide)]
      refine h0 υ e ?_ ⟨y2.1, zFn_t F1 y2.2.1, zKp_t K1 (zKp_m (by omega) (Nat.le_refl _) y2.2.2.1), fun a l1 l2 i hi => (y2.2.2.2 a l1 l2 i (by omega)).trans (N1 a l1 l2 i hi)⟩
      unfold zsif
      rw [q1]
      simp only
      rw [y1]
  · simp only [zqi_s]
    rw [if_neg (by decide)]
    refine h0 τ e ?_ ⟨q2, zFn_t (zFn_t hF (zFn_I _ (Or.inl (Or.inr (Or.inr rfl))))) (zFn_cs q3), zKp_t hK (fun a l1 l2 i _ => ?_), fun a l1 l2 i hi => ?_⟩
    · unfold zsif
      rw [q1]
    · have := q3.2.2.2.2.2.2.2.2.2 a (by unfold zAn; omega)
      rw [this.1, this.2]
      exact ⟨rfl, rfl⟩
    · rw [q4 a l1 l2 i hi, zA_sI]
      exact hN a l1 l2 i hi
