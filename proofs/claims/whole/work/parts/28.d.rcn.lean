/-! the reference's atoms -/
theorem zAtm_w {σ : zH} {lo hi lo' hi' v : Nat} {c : zCd} (h1 : lo' ≤ lo) (h2 : hi ≤ hi') (h : zAtm σ lo hi v c) : zAtm σ lo' hi' v c := by
  unfold zAtm at *
  rcases h with ⟨a, b, c, d, l, r, e1, e2, l1, l2, r1, r2, n⟩ | h
  · exact Or.inl ⟨a, b, c, d, l, r, e1, e2, by omega, by omega, by omega, by omega, n⟩
  · exact Or.inr h
theorem zTr_w {σ : zH} {lo hi lo' hi' : Nat} (h1 : lo' ≤ lo) (h2 : hi ≤ hi') : ∀ (f f' K K' v : Nat) (C : (zCd → Bool) → Bool), f ≤ f' → K ≤ K' → zTr σ lo hi f K v C → zTr σ lo' hi' f' K' v C
  | 0, _, _, _, _, _, _, _, h => h.elim
  | f + 1, 0, _, _, _, _, hf, _, _ => by omega
  | f + 1, f' + 1, K, K', v, C, hf, hK, h => by
    rw [zTr] at h ⊢
    obtain ⟨a1, a2, a3, h⟩ := h
    refine ⟨by omega, by omega, by omega, ?_⟩
    have up : ∀ v C, zTr σ lo hi f (K - 1) v C → zTr σ lo' hi' f' (K' - 1) v C := fun v C q => zTr_w h1 h2 f f' _ _ v C (by omega) (by omega) q
    have eq : ∀ v C, zTr σ lo hi f K v C → zTr σ lo' hi' f' K' v C := fun v C q => zTr_w h1 h2 f f' _ _ v C (by omega) hK q
    rcases h with ⟨c, q1, q2⟩ | ⟨q1, u, C1, q2, q3, q4⟩ | ⟨q1, a, b, Ca, Cb, q2, q3, q4, q5, q6⟩ | ⟨q1, a, b, Ca, Cb, q2, q3, q4, q5, q6⟩
    · exact Or.inl ⟨c, zAtm_w h1 h2 q1, q2⟩
    · exact Or.inr (Or.inl ⟨q1, u, C1, q2, up _ _ q3, q4⟩)
    · exact Or.inr (Or.inr (Or.inl ⟨q1, a, b, Ca, Cb, q2, q3, eq _ _ q4, up _ _ q5, q6⟩))
    · refine Or.inr (Or.inr (Or.inr ⟨q1, a, b, Ca, Cb, q2, q3, ?_, up _ _ q5, q6⟩))
      rcases q4 with ⟨y1, y2⟩ | y
      · exact Or.inl ⟨y1, eq _ _ y2⟩
      · exact Or.inr (up _ _ y)
/-- node v means what the codes mean -/
def zGn (τ : zH) (lo hi K v : Nat) (cs : List zCd) : Prop := ∃ f C, zTr τ lo hi f K v C ∧ ∀ g r st, zev g (cs ++ r) st = zev g r (C g :: st)
def zAns (B : List Nat) (lim nd K : Nat) (r : zPC) (σ : zH) (Q : Option Value → zH → Prop) : Prop := (∀ τ cs R' v, r = .ok (cs, R') → zRuc τ B R' → zFn zJc zAn σ τ → zKn nd lim σ τ → zI τ 160 36 = nI (nd + znd cs) → zI τ 160 39 = zI σ 160 39 → zGn τ nd (nd + znd cs) K v cs → v < 3200 → Q (some (.int (nI v))) τ) ∧ (∀ τ e, r = .error e → zFlt τ e → zFn zJc zAn σ τ → zKn nd lim σ τ → Q (some (.int (-1))) τ)
def zPrd (B : List Nat) (g lim D M K x : Nat) (f : List zTok → zPC) : Prop := ∀ (σ : zH) (R : List zTok) (nd : Nat) (Q : Option Value → zH → Prop), zRuc σ B R → zI σ 160 36 = nI nd → zI σ 160 39 = nI x → zRoom B g lim nd R → R.length ≤ 901 → zAns B lim nd K (f R) σ Q → zM D M [.ref 160] σ Q
theorem zGn_a {τ : zH} {lo hi v : Nat} {c : zCd} (h1 : lo ≤ v) (h2 : v < hi) (hA : zAtm τ lo hi v c) (hc : c.1 ≠ 21 ∧ c.1 ≠ 22 ∧ c.1 ≠ 23) : zGn τ lo hi 1 v [c] := by
  refine ⟨1, fun g => g c, ⟨h1, h2, Nat.le_refl _, Or.inl ⟨c, hA, fun _ => rfl⟩⟩, fun g r st => ?_⟩
  simp only [List.singleton_append, zev, zop]
  rw [if_neg (by omega), if_neg (by omega), if_neg (by omega)]
theorem zsgn_c : ∀ j, j < 6 → zsgn (42 + j) = zsc (42 + j) := by decide
theorem zRuc_15 {σ : zH} {B : List Nat} {R : List zTok} (h : zRuc σ B R) (hk : 42 ≤ (zhdt R).1 ∧ (zhdt R).1 ≤ 47) : zI σ 160 15 = nI (zsgn (zhdt R).1) := by
  have := (h.2.2.1.2.2.2.2.1 (by omega) hk.2).2
  have e := zsgn_c ((zhdt R).1 - 42) (by omega)
  rw [show 42 + ((zhdt R).1 - 42) = (zhdt R).1 by omega] at e
  rw [this, e]
set_option maxHeartbeats 2000000 in
theorem l_cmp1 {d nd g lim : Nat} {σ σ0 : zH} {B : List Nat} {R R1 : List zTok} {a : Nat} (hR : zRuc σ B R1) (hn : zI σ 160 36 = nI (nd + 1)) (hm : zRoom B g lim nd R) (ha : zAdv B.length 1 R R1) (hF : zFn zJc zAn σ0 σ) (hK : zKn nd lim σ0 σ) (h39 : zI σ 160 39 = zI σ0 160 39) (hz : znm R = .ok (a, R1)) {Q : Option Value → zH → Prop} (hQ : zAns B lim nd 1 (zacm R) σ0 Q) (hN : zNum σ nd a) (hk : 42 ≤ (zhdt R1).1 ∧ (zhdt R1).1 ≤ 47) : zM (d + 4) 142 [.ref 160] σ (fun r σ103 => zqv r ((zK σ103 160 = 13) ∧ zM (d + 4) 166 [.ref 160] σ103 (fun r σ105 => zqi r (fun x106 => (if 0 ≤ x106 then (zK σ105 160 = 13) ∧ zM (d + 4) 160 [.ref 160, .int (nI 3), .int (nI nd), .int x106, .int (zI σ 160 15)] σ105 (fun r σ109 => zqi r (fun x110 => Q (some (.int x110)) σ109)) else Q (some (.int x106)) σ105))))) := by
  rw [zRuc_15 hR hk]
  have a1 := zAdv_t ha (zAdv_1 ha.1 (by omega))
  have hc : zacm R = zSqc (znm (zgn R1)) (fun b R2 => .ok ([((zhdt R1).1, a, b)], R2)) := by
    unfold zacm
    rw [hz]
    simp only [zSqc]
    rw [if_pos hk]
  refine p_rgo hR (fun τ g1 g2 => ?_)
  rw [zqv_s]
  have F1 := zFn_gr g2
  have n1 : zI τ 160 36 = nI (nd + 1) := by rw [F1.2.2.2.2.2.2.2.2.1 36 (by unfold zJr; omega)]; exact hn
  have o1 : zI τ 160 39 = zI σ 160 39 := F1.2.2.2.2.2.2.2.2.1 39 (by unfold zJr; omega)
  have hm1 : zRoom B g lim (nd + 1) (zgn R1) := by
    obtain ⟨m1, m2, m3, m4⟩ := hm
    have := a1.2.1
    exact ⟨m1, m2, m3, by omega⟩
  refine ⟨zRuc_k g1, p_rnm g1 n1 hm1 (fun ρ b R2 q1 q2 q3 q4 q5 q6 q7 => ?_) (fun ρ e q1 q2 q3 q4 => ?_)⟩
  · rw [zqi_s, if_pos (by rw [← nI_0]; exact nI_le (by omega) (by have := zRoom_lt hm1 a1.1 0 (by omega); have := hm.1; omega))]
    have a2 := zAdv_t a1 (znm_adv a1.1 q1)
    have hl : nd + 2 < lim := by
      obtain ⟨m1, m2, m3, m4⟩ := hm
      have := a2.2.1
      have : zplc R2 ≤ B.length := zOrd_n a2.1
      omega
    refine ⟨zRuc_k q2, p_node q2.1.1 q5 hl hm.1 (fun ω r1 r2 r3 r4 r5 r6 r7 r8 r9 => ?_)⟩
    rw [zqi_s]
    have KK : zKn nd lim σ ω := fun a l1 l2 i hi => by rw [r5 a l1 l2 i (by omega), q4 a l1 l2 i (by omega), (F1.2.2.2.2.2.2.2.2.2 a id).1]
    refine hQ.1 ω [((zhdt R1).1, a, b)] R2 (nd + 2) ?_ (zRuc_c r4 r2 r3 q2) (zFn_t (zFn_t (zFn_t hF (zFn_rc F1)) q3) r4) (zKn_t (Nat.le_refl _) hK KK) ?_ ?_ ?_ (by have := hm.1; omega)
    · rw [hc, q1]
      rfl
    · rw [r1]
      simp only [znd]
      rw [if_pos (by omega)]
    · rw [r2 39 (by omega), q6, o1, h39]
    · have e3 : nd + znd [((zhdt R1).1, a, b)] = nd + 3 := by
        simp only [znd]
        rw [if_pos (by omega)]
      rw [e3]
      have k1 : ∀ a, 176 ≤ a → a ≤ 179 → zA ω a nd = zA σ a nd := fun a l1 l2 => by
        rw [r5 a l1 l2 nd (by omega), q4 a l1 l2 nd (by omega), (F1.2.2.2.2.2.2.2.2.2 a id).1]
      have k2 : ∀ a, 176 ≤ a → a ≤ 179 → zA ω a (nd + 1) = zA ρ a (nd + 1) := fun a l1 l2 => r5 a l1 l2 _ (by omega)
      refine zGn_a (by omega) (by omega) (Or.inl ⟨hk.1, hk.2, r6, r9, nd, nd + 1, r7, r8, by omega, by omega, by omega, by omega, ?_, ?_⟩) (by simp only; omega)
      · exact zNum_c (k1 176 (by omega) (by omega)) (k1 177 (by omega) (by omega)) (k1 178 (by omega) (by omega)) hN
      · exact zNum_c (k2 176 (by omega) (by omega)) (k2 177 (by omega) (by omega)) (k2 178 (by omega) (by omega)) q7
  · rw [zqi_s, if_neg (by decide)]
    refine hQ.2 ρ e ?_ q2 (zFn_t (zFn_t hF (zFn_rc F1)) q3) (zKn_t (Nat.le_refl _) hK (zKn_t (Nat.le_refl _) (zKn_n F1) (fun a l1 l2 i hi => q4 a l1 l2 i (by omega))))
    rw [hc, q1]
    rfl
theorem l_cmp0 {d nd g lim : Nat} {σ σ0 : zH} {B : List Nat} {R R1 : List zTok} {a : Nat} (hR : zRuc σ B R1) (hn : zI σ 160 36 = nI (nd + 1)) (hm : zRoom B g lim nd R) (ha : zAdv B.length 1 R R1) (hF : zFn zJc zAn σ0 σ) (hK : zKn nd lim σ0 σ) (h39 : zI σ 160 39 = zI σ0 160 39) (hz : znm R = .ok (a, R1)) {Q : Option Value → zH → Prop} (hQ : zAns B lim nd 1 (zacm R) σ0 Q) (hk : ¬ (42 ≤ (zhdt R1).1 ∧ (zhdt R1).1 ≤ 47)) : zM (d + 4) 145 [.ref 160] σ (fun r σ112 => zqi r (fun x113 => (zK σ112 160 = 13) ∧ zM (d + 4) 161 [.ref 160, .int x113] σ112 (fun r σ115 => zqi r (fun x116 => Q (some (.int x116)) σ115)))) := by
  refine p_cant hR (fun τ g1 g2 => ?_)
  rw [zqi_s]
  refine ⟨by rw [g2.1]; exact zRuc_k hR, p_bad0 ?_⟩
  rw [zqi_s]
  refine hQ.2 τ _ ?_ g1 (zFn_t hF (zFn_rc g2)) (zKn_t (Nat.le_refl _) hK (zKn_n g2))
  unfold zacm
  rw [hz]
  simp only [zSqc]
  rw [if_neg hk]
