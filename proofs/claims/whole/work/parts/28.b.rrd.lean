/-! the reference's small readers -/
theorem zl97 : ∀ j, j < 4 → (lN (97 + j)).toInt32 - nI 97 = nI j := by decide
theorem p_rpile {d : Nat} {σ : zH} {B : List Nat} {R : List zTok} (hR : zRuc σ B R) {Q : Option Value → zH → Prop} (h1 : ∀ τ, 17 ≤ (zhdt R).1 → (zhdt R).1 < 21 → zRuc τ B (zgn R) → zI τ 160 19 = nI ((zhdt R).1 - 17) → zFn zJr zA0 σ τ → Q (some (.int (nI 1))) τ) (h0 : ∀ τ, ¬ (17 ≤ (zhdt R).1 ∧ (zhdt R).1 < 21) → zFlt τ (zflt 2 R) → zFn zJr zA0 σ τ → Q (some (.int (nI 0))) τ) : zM (d + 3) 150 [.ref 160] σ Q := by
  have ht := zty_ok (zhdt R).1 hR.2.2.2.1
  have bad : ¬ (17 ≤ (zhdt R).1 ∧ (zhdt R).1 < 21) → zM (d + 2) 145 [.ref 160] σ (fun r σ103 => zqi r (fun x104 => (x104 = 0 ∨ x104 = 1) ∧ Q (some (.int x104)) σ103)) := by
    intro h
    refine p_cant hR (fun τ g1 g2 => ?_)
    rw [zqi_s]
    exact ⟨Or.inl rfl, h0 τ h g1 g2⟩
  refine b150 ⟨zRuc_k hR, ?_⟩
  rw [zRuc_13 hR]
  by_cases h : (zhdt R).1 ≤ 35
  · rw [if_neg (by rw [ht.2.2.1.mpr h]; exact fun q => q rfl)]
    obtain ⟨-, x, hx, z1, z2⟩ := hR.2.2.1.2.2.1 h
    have e17 := z2 17 (by omega)
    have e18 := z2 18 (by omega)
    have e19 := z2 19 (by omega)
    have e20 := z2 20 (by omega)
    rw [show zwdn 17 = 97 by decide] at e17
    rw [show zwdn 18 = 98 by decide] at e18
    rw [show zwdn 19 = 99 by decide] at e19
    rw [show zwdn 20 = 100 by decide] at e20
    rw [z1]
    by_cases l1 : x < 97
    · rw [if_pos ((lg_cmp_lt _ _).mpr ((pk_lLT hx (by decide)).mpr l1))]
      exact bad (by omega)
    · rw [if_neg (fun q => l1 ((pk_lLT hx (by decide)).mp ((lg_cmp_lt _ _).mp q)))]
      by_cases l2 : x ≤ 100
      · rw [if_pos ((lg_cmp_le _ _).mpr ((pk_lLE hx (by decide)).mpr l2))]
        obtain ⟨j, hj, hj4⟩ : ∃ j, x = 97 + j ∧ j < 4 := ⟨x - 97, by omega, by omega⟩
        have ek : (zhdt R).1 = 17 + j := by omega
        rw [hj, zl97 j hj4]
        refine p_rgo (zRuc_I (j := 19) (nI j) (by omega) hR) (fun τ g1 g2 => ?_)
        rw [zqv_s]
        refine h1 τ (by omega) (by omega) g1 ?_ (zFn_t (zFn_I _ (by unfold zJr; omega)) (zFn_gr g2))
        rw [g2.2.2.2.2.2.2.2.2.1 19 (by unfold zJg; omega), zIe]
        congr 1
        omega
      · rw [if_neg (fun q => l2 ((pk_lLE hx (by decide)).mp ((lg_cmp_le _ _).mp q)))]
        exact bad (by omega)
  · rw [if_pos (by rw [nI_eq (by omega) (by omega)]; exact fun q => h (ht.2.2.1.mp q))]
    exact bad (by omega)
theorem p_rnum {d : Nat} {σ : zH} {B : List Nat} {R : List zTok} (hR : zRuc σ B R) {Q : Option Value → zH → Prop} {lo hi : Nat} (hlo : lo < 100) (hhi : hi < 100) (h1 : ∀ τ v R', znum lo hi R = .ok (v, R') → zRuc τ B R' → zI τ 160 20 = nI v → zI τ 160 19 = zI σ 160 19 → zFn zJr zA0 σ τ → Q (some (.int (nI 1))) τ) (h0 : ∀ τ e, znum lo hi R = .error e → zFlt τ e → zFn zJr zA0 σ τ → Q (some (.int (nI 0))) τ) : zM (d + 3) 151 [.ref 160, .int (nI lo), .int (nI hi)] σ Q := by
  have ht := zty_ok (zhdt R).1 hR.2.2.2.1
  have h100 := hR.2.2.2.2.1
  refine b151 ⟨zRuc_k hR, ?_⟩
  rw [zRuc_13 hR, zRuc_14 hR]
  by_cases h : (zhdt R).1 = 36
  · have e15 := (hR.2.2.1.2.2.2.1 h).2
    have bad : ¬ (lo ≤ (zhdt R).2.1 ∧ (zhdt R).2.1 ≤ hi) → zM (d + 2) 144 [.ref 160, .int (nI 3), .int (nI (zhdt R).2.2)] σ (fun r σ104 => zqi r (fun x105 => (x105 = 0 ∨ x105 = 1) ∧ Q (some (.int x105)) σ104)) := by
      intro hb
      refine p_rwrong (zRuc_k hR) (fun τ g1 g2 => ?_)
      rw [zqi_s]
      refine ⟨Or.inl rfl, h0 τ (3, (zhdt R).2.2) ?_ g1 g2⟩
      unfold znum zflt
      rw [if_pos h, if_neg hb, if_neg (by omega)]
    rw [if_pos (by rw [ht.2.2.2.1.mpr h]), e15]
    by_cases l1 : lo ≤ (zhdt R).2.1
    · rw [if_neg (nI_nlt l1 (by omega))]
      by_cases l2 : (zhdt R).2.1 ≤ hi
      · rw [if_pos (nI_le l2 (by omega))]
        refine p_rgo (zRuc_I (j := 20) _ (by omega) hR) (fun τ g1 g2 => ?_)
        rw [zqv_s]
        refine h1 τ (zhdt R).2.1 (zgn R) ?_ g1 ?_ ?_ (zFn_t (zFn_I _ (by unfold zJr; omega)) (zFn_gr g2))
        · unfold znum
          rw [if_pos h, if_pos ⟨l1, l2⟩]
        · rw [g2.2.2.2.2.2.2.2.2.1 20 (by unfold zJg; omega), zIe]
        · rw [g2.2.2.2.2.2.2.2.2.1 19 (by unfold zJg; omega), zIs (by omega)]
      · rw [if_neg (nI_ge (by omega) (by omega))]
        exact bad (by omega)
    · rw [if_pos (nI_lt (by omega) (by omega))]
      exact bad (by omega)
  · rw [if_neg (by rw [nI_eq (by omega) (by omega)]; exact fun q => h (ht.2.2.2.1.mp q))]
    refine p_cant hR (fun τ g1 g2 => ?_)
    rw [zqi_s]
    refine ⟨Or.inl rfl, h0 τ _ ?_ g1 g2⟩
    unfold znum
    rw [if_neg h]
theorem p_bad0 {d : Nat} {σ : zH} {Q : Option Value → zH → Prop} (hQ : Q (some (.int (-1))) σ) : zM d 161 [.ref 160, .int (nI 0)] σ Q := b161 hQ
theorem l_prp {d : Nat} {σ : zH} {B : List Nat} {R : List zTok} (hR : zRuc σ B R) {Q : Option Value → zH → Prop} (v0 : Int32) (hv : v0 = if 31 ≤ (zhdt R).1 ∧ (zhdt R).1 ≤ 33 then nI ((zhdt R).1 - 31) else -1) (h1 : ∀ τ v R', zprp R = .ok (31 + v, R') → v < 3 → zRuc τ B R' → zI τ 160 20 = zI σ 160 20 → zFn zJr zA0 σ τ → Q (some (.int (nI v))) τ) (h0 : ∀ τ e, zprp R = .error e → zFlt τ e → zFn zJr zA0 σ τ → Q (some (.int (-1))) τ) : zW (d + 3) 165 43 [(0, .ref 160)] [.int v0] σ Q := by
  refine b165_43 ?_
  by_cases h : 31 ≤ (zhdt R).1 ∧ (zhdt R).1 ≤ 33
  · rw [if_pos h] at hv
    rw [hv, if_pos (by rw [← nI_0]; exact nI_le (by omega) (by omega))]
    refine ⟨zRuc_k hR, p_rgo hR (fun τ g1 g2 => ?_)⟩
    rw [zqv_s]
    refine h1 τ _ (zgn R) ?_ (by omega) g1 (g2.2.2.2.2.2.2.2.2.1 20 (by unfold zJg; omega)) (zFn_gr g2)
    unfold zprp
    rw [if_pos h, show 31 + ((zhdt R).1 - 31) = (zhdt R).1 by omega]
  · rw [if_neg h] at hv
    rw [hv, if_neg (by decide)]
    refine ⟨zRuc_k hR, p_cant hR (fun τ g1 g2 => ?_)⟩
    rw [zqi_s]
    refine ⟨by rw [g2.1]; exact zRuc_k hR, p_bad0 ?_⟩
    rw [zqi_s]
    refine h0 τ _ ?_ g1 g2
    unfold zprp
    rw [if_neg h]
theorem p_rprp {d : Nat} {σ : zH} {B : List Nat} {R : List zTok} (hR : zRuc σ B R) {Q : Option Value → zH → Prop} (h1 : ∀ τ v R', zprp R = .ok (31 + v, R') → v < 3 → zRuc τ B R' → zI τ 160 20 = zI σ 160 20 → zFn zJr zA0 σ τ → Q (some (.int (nI v))) τ) (h0 : ∀ τ e, zprp R = .error e → zFlt τ e → zFn zJr zA0 σ τ → Q (some (.int (-1))) τ) : zM (d + 3) 165 [.ref 160] σ Q := by
  refine b165 ⟨zRuc_k hR, p_isw hR 31 (by omega) (by decide) (fun k => ?_) (fun k1 => ?_)⟩
  · rw [zqi_s, if_neg (by decide)]
    exact l_prp hR _ (by rw [if_pos (by omega), k]) h1 h0
  · rw [zqi_s, if_pos (by decide)]
    refine ⟨zRuc_k hR, p_isw hR 32 (by omega) (by decide) (fun k => ?_) (fun k2 => ?_)⟩
    · rw [zqi_s, if_neg (by decide)]
      exact l_prp hR _ (by rw [if_pos (by omega), k]) h1 h0
    · rw [zqi_s, if_pos (by decide)]
      refine ⟨zRuc_k hR, p_isw hR 33 (by omega) (by decide) (fun k => ?_) (fun k3 => ?_)⟩
      · rw [zqi_s, if_neg (by decide)]
        exact l_prp hR _ (by rw [if_pos (by omega), k]) h1 h0
      · rw [zqi_s, if_pos (by decide)]
        exact l_prp hR _ (by rw [if_neg (by omega)]) h1 h0
/-! nodes -/
def zJc (i : Nat) : Prop := zJr i ∨ i = 36 ∨ i = 39
def zAn (a : Nat) : Prop := 176 ≤ a ∧ a ≤ 179
/-- nodes before the nd-th and from the lim-th on are as they were -/
def zKn (nd lim : Nat) (σ τ : zH) : Prop := ∀ a, 176 ≤ a → a ≤ 179 → ∀ i, (i < nd ∨ lim ≤ i) → zA τ a i = zA σ a i
theorem zKn_t {nd nd' lim : Nat} {σ τ υ : zH} (hn : nd ≤ nd') (h1 : zKn nd lim σ τ) (h2 : zKn nd' lim τ υ) : zKn nd lim σ υ := fun a l1 l2 i hi => (h2 a l1 l2 i (by omega)).trans (h1 a l1 l2 i hi)
theorem zKn_n {nd lim : Nat} {J : Nat → Prop} {σ τ : zH} (h : zFn J zA0 σ τ) : zKn nd lim σ τ := fun a _ _ i _ => by rw [(h.2.2.2.2.2.2.2.2.2 a id).1]
theorem zFn_rc {σ τ : zH} (h : zFn zJr zA0 σ τ) : zFn zJc zAn σ τ := zFn_m h (fun _ q => Or.inl q) (fun _ q => q.elim)
theorem zA_sI (σ : zH) (a j : Nat) (v : Int32) : zA (zsI σ a j v) = zA σ := rfl
theorem p_node {d nd lim : Nat} {σ : zH} {x1 x2 x3 x4 : Int32} (hM : zMb σ) (hn : zI σ 160 36 = nI nd) (hl : nd < lim) (h3 : lim ≤ 3200) {Q : Option Value → zH → Prop} (hQ : ∀ τ, zI τ 160 36 = nI (nd + 1) → (∀ i, i ≠ 36 → zI τ 160 i = zI σ 160 i) → zJ τ = zJ σ → zFn zJc zAn σ τ → zKn nd lim σ τ → zA τ 176 nd = x1 → zA τ 177 nd = x2 → zA τ 178 nd = x3 → zA τ 179 nd = x4 → Q (some (.int (nI nd))) τ) : zM d 160 [.ref 160, .int x1, .int x2, .int x3, .int x4] σ Q := by
  have ⟨mK0, mQ1, mK1, mN1, mQ6, mK6, mN6, mQ7, mK7, mN7, mQ8, mK8, mN8, mQ9, mK9, mN9, mQ10, mK10, mN10, mQ11, mK11, mN11, mQ21, mK21, mN21, mQ22, mK22, mN22, mQ23, mK23, mN23, mQ24, mK24, mN24, mQ25, mK25, mN25, mQ26, mK26, mN26, mQ27, mK27, mN27, mQ28, mK28, mN28, mQ32, mK32, mN32, mQ33, mK33, mN33, mQ34, mK34, mN34, mQ35, mK35, mN35, mQ40, mK40, mN40, mQ41, mK41, mN41, mQ42, mK42, mN42, mQ43, mK43, mN43, mQ44, mK44, mN44, mQ45, mK45, mN45, mQ62, mK62, mN62⟩ := hM
  refine b160 ?_
  rw [hn, mQ32, mQ33, mQ34, mQ35, zcl nd (by omega), nI_add, zIe, pk_sub (by omega), mK32, mK33, mK34, mK35, mN32, mN33, mN34, mN35]
  have hv : vp_in (nI nd) 3200 := vp_in_nI (by omega) (by omega)
  refine ⟨mK0, rfl, hv, rfl, hv, rfl, hv, rfl, hv, ?_⟩
  rw [show nd + 1 - 1 = nd by omega]
  refine hQ _ zIe (fun i hi => zIs hi) rfl ?_ ?_ ?_ ?_ ?_ ?_
  · exact zFn_t (zFn_t (zFn_t (zFn_t (zFn_A _ (by unfold zAn; omega)) (zFn_A _ (by unfold zAn; omega))) (zFn_A _ (by unfold zAn; omega))) (zFn_A _ (by unfold zAn; omega))) (zFn_I _ (Or.inr (Or.inl rfl)))
  · intro a l1 l2 i hi
    rw [zA_sI, zA_sA, zA_sA, zA_sA, zA_sA, if_neg (by omega), if_neg (by omega), if_neg (by omega), if_neg (by omega)]
  · rw [zA_sI, zA_sA, zA_sA, zA_sA, zA_sA, if_neg (by omega), if_neg (by omega), if_neg (by omega), if_pos ⟨rfl, rfl⟩]
  · rw [zA_sI, zA_sA, zA_sA, zA_sA, if_neg (by omega), if_neg (by omega), if_pos ⟨rfl, rfl⟩]
  · rw [zA_sI, zA_sA, zA_sA, if_neg (by omega), if_pos ⟨rfl, rfl⟩]
  · rw [zA_sI, zA_sA, if_pos ⟨rfl, rfl⟩]
theorem zRuc_c {σ τ : zH} (h : zFn zJc zAn σ τ) (hi : ∀ i, i ≠ 36 → zI τ 160 i = zI σ 160 i) (hj : zJ τ = zJ σ) {B : List Nat} {R : List zTok} (hx : zRuc σ B R) : zRuc τ B R := by
  obtain ⟨x1, x2, x3, x4, x5, e, x6, x7, x8, x9⟩ := hx
  refine ⟨zRx_n h (by unfold zJc zJr; omega) (by unfold zAn; omega) x1, x2, ?_, x4, x5, e, x6, by rw [hi 4 (by omega)]; exact x7, x8, by rw [hi 16 (by omega)]; exact x9⟩
  unfold zRtk at *
  rw [hi 13 (by omega), hi 14 (by omega), hi 15 (by omega), hj]
  exact x3
