/-! stack: the reference -/
def zO186 (τ : zH) (n : Nat) (f : Nat → Nat) : Prop := ∀ i, i < n → zA τ 186 i = nI (f i)
def zA186 (a : Nat) : Prop := a = 186
abbrev zF186 (σ τ : zH) : Prop := zFm zN0 zN0 zA186 σ τ
theorem l_rsw {n i j : Nat} {τ : zH} {f : Nat → Nat} (hi : i < n) (hj : j < n) (hO : zO186 τ n f) : zO186 (zsA (zsA τ 186 i (nI (f j))) 186 j (nI (f i))) n (zswp f i j) := by
  intro k hk
  unfold zswp
  rw [zA_sA]
  by_cases c1 : k = j
  · rw [if_pos ⟨rfl, c1⟩, if_pos c1]
  · rw [if_neg (by omega), if_neg c1, zA_sA]
    by_cases c2 : k = i
    · rw [if_pos ⟨rfl, c2⟩, if_pos c2]
    · rw [if_neg (by omega), if_neg c2]
      exact hO k hk
theorem zF_sw {σ τ : zH} (hF : zF186 σ τ) (i j : Nat) (v w : Int32) : zF186 σ (zsA (zsA τ 186 i v) 186 j w) := zFm_t hF (zFm_t (zFm_A _ rfl) (zFm_A _ rfl))
theorem l_rrev {d n : Nat} {σ : zH} (hM : zMb σ) (e5 : zI σ 160 5 = nI n) (hn : n ≤ 9) (hn2 : 2 ≤ n) {Q : Option Value → zH → Prop} : ∀ (c a b : Nat) (f : Nat → Nat) (τ : zH), b - a ≤ c → b < n → a ≤ n → zF186 σ τ → zO186 τ n f → (∀ υ, zF186 σ υ → zO186 υ n (zrv c f a b) → Q (some (.int (nI 1))) υ) → zW d 202 107 [(0, .ref 160), (4, .int (nI a)), (5, .int (nI b))] [] τ Q := by
  intro c
  induction c with
  | zero =>
    intro a b f τ hc hb ha hF hO hQ
    refine b202_107 ?_
    rw [if_pos (nI_le (by omega) (by omega))]
    exact hQ τ hF hO
  | succ c ih =>
    intro a b f τ hc hb ha hF hO hQ
    rw [zrv] at hQ
    refine b202_107 ?_
    by_cases q : b ≤ a
    · rw [if_pos q] at hQ
      rw [if_pos (nI_le (by omega) (by omega))]
      exact hQ τ hF hO
    · rw [if_neg q] at hQ
      have ⟨mK0, mQ1, mK1, mN1, mQ6, mK6, mN6, mQ7, mK7, mN7, mQ8, mK8, mN8, mQ9, mK9, mN9, mQ10, mK10, mN10, mQ11, mK11, mN11, mQ21, mK21, mN21, mQ22, mK22, mN22, mQ23, mK23, mN23, mQ24, mK24, mN24, mQ25, mK25, mN25, mQ26, mK26, mN26, mQ27, mK27, mN27, mQ28, mK28, mN28, mQ32, mK32, mN32, mQ33, mK33, mN33, mQ34, mK34, mN34, mQ35, mK35, mN35, mQ40, mK40, mN40, mQ41, mK41, mN41, mQ42, mK42, mN42, mQ43, mK43, mN43, mQ44, mK44, mN44, mQ45, mK45, mN45, mQ62, mK62, mN62⟩ := zMb_m hF hM
      rw [if_neg (nI_ge (by omega) (by omega)), mQ62, mK62, mN62, zcl a (by omega), zcl b (by omega), hO a (by omega), hO b hb, nI_add, zm1 (by omega), if_neg (by omega)]
      refine ⟨mK0, rfl, vp_in_nI (by omega) (by omega), vp_in_nI (by omega) (by omega), ?_⟩
      exact ih (a + 1) (b - 1) _ _ (by omega) (by omega) (by omega) (zF_sw hF _ _ _ _) (l_rsw (by omega) hb hO) hQ
theorem l_rabv {d n : Nat} {σ : zH} (hM : zMb σ) (e5 : zI σ 160 5 = nI n) (hn : n ≤ 9) (hn2 : 2 ≤ n) {i : Nat} {f : Nat → Nat} {τ : zH} (hi : i + 1 < n) (hf : zfo n f) (hri : f i ≤ f (i + 1)) (hF : zF186 σ τ) (hO : zO186 τ n f) {Q : Option Value → zH → Prop} : ∀ (j : Nat), i + 1 ≤ j → j < n → (∀ υ, zF186 σ υ → zO186 υ n (zswp f i (zabv f i j)) → zW d 202 107 [(0, .ref 160), (4, .int (nI (i + 1))), (5, .int (nI (n - 1)))] [] υ Q) → zW d 202 47 [(0, .ref 160), (1, .int (nI i)), (2, .int (nI j))] [] τ Q := by
  have hF5 : zI τ 160 5 = nI n := by rw [hF.2.2.2.2.2.2.2.2.1 5 id]; exact e5
  have ⟨mK0, mQ1, mK1, mN1, mQ6, mK6, mN6, mQ7, mK7, mN7, mQ8, mK8, mN8, mQ9, mK9, mN9, mQ10, mK10, mN10, mQ11, mK11, mN11, mQ21, mK21, mN21, mQ22, mK22, mN22, mQ23, mK23, mN23, mQ24, mK24, mN24, mQ25, mK25, mN25, mQ26, mK26, mN26, mQ27, mK27, mN27, mQ28, mK28, mN28, mQ32, mK32, mN32, mQ33, mK33, mN33, mQ34, mK34, mN34, mQ35, mK35, mN35, mQ40, mK40, mN40, mQ41, mK41, mN41, mQ42, mK42, mN42, mQ43, mK43, mN43, mQ44, mK44, mN44, mQ45, mK45, mN45, mQ62, mK62, mN62⟩ := zMb_m hF hM
  intro j
  induction j with
  | zero => intro h; omega
  | succ j ih =>
    intro hij hj hQ
    rw [zabv, if_neg (by omega)] at hQ
    have b1 := hf i (by omega)
    have b2 := hf (j + 1) hj
    refine b202_47 ?_
    rw [mQ62, mK62, mN62, zcl i (by omega), zcl (j + 1) (by omega), hO i (by omega), hO (j + 1) hj, hF5, pk_sub (by omega)]
    refine ⟨mK0, rfl, vp_in_nI (by omega) (by omega), vp_in_nI (by omega) (by omega), ?_⟩
    by_cases q2 : f i ≤ f (j + 1)
    · rw [if_pos q2] at hQ
      rw [if_pos (nI_le q2 (by omega)), nI_add]
      exact hQ _ (zF_sw hF _ _ _ _) (l_rsw (by omega) hj hO)
    · rw [if_neg q2] at hQ
      rw [if_neg (nI_ge (by omega) (by omega)), zm1 (by omega), if_neg (by omega), Nat.add_sub_cancel]
      have hne : j ≠ i := fun e => q2 (by rw [e]; exact hri)
      exact ih (by omega) (by omega) hQ
theorem l_rris {d n : Nat} {σ : zH} (hM : zMb σ) (e5 : zI σ 160 5 = nI n) (hn : n ≤ 9) (hn2 : 2 ≤ n) {f : Nat → Nat} {τ : zH} (hf : zfo n f) (hF : zF186 σ τ) (hO : zO186 τ n f) {Q : Option Value → zH → Prop} (h1 : ∀ i, i + 1 < n → zrise f (n - 1) = some i → zW d 202 47 [(0, .ref 160), (1, .int (nI i)), (2, .int (nI (n - 1)))] [] τ Q) (h0 : zrise f (n - 1) = none → Q (some (.int (nI 0))) τ) : ∀ (k : Nat), k < n → zrise f k = zrise f (n - 1) → zW d 202 7 [(0, .ref 160), (1, .int (if k = 0 then -1 else nI (k - 1)))] [] τ Q := by
  have hF5 : zI τ 160 5 = nI n := by rw [hF.2.2.2.2.2.2.2.2.1 5 id]; exact e5
  have ⟨mK0, mQ1, mK1, mN1, mQ6, mK6, mN6, mQ7, mK7, mN7, mQ8, mK8, mN8, mQ9, mK9, mN9, mQ10, mK10, mN10, mQ11, mK11, mN11, mQ21, mK21, mN21, mQ22, mK22, mN22, mQ23, mK23, mN23, mQ24, mK24, mN24, mQ25, mK25, mN25, mQ26, mK26, mN26, mQ27, mK27, mN27, mQ28, mK28, mN28, mQ32, mK32, mN32, mQ33, mK33, mN33, mQ34, mK34, mN34, mQ35, mK35, mN35, mQ40, mK40, mN40, mQ41, mK41, mN41, mQ42, mK42, mN42, mQ43, mK43, mN43, mQ44, mK44, mN44, mQ45, mK45, mN45, mQ62, mK62, mN62⟩ := zMb_m hF hM
  intro k
  induction k with
  | zero =>
    intro hk hr
    refine b202_7 ?_
    rw [if_pos (c := 0 = 0) rfl, if_pos (by decide), if_neg (by decide)]
    exact h0 hr.symm
  | succ k ih =>
    intro hk hr
    refine b202_7 ?_
    have b1 := hf k (by omega)
    have b2 := hf (k + 1) hk
    rw [if_neg (c := k + 1 = 0) (by omega), Nat.add_sub_cancel, if_neg (by rw [← nI_0]; exact nI_nlt (by omega) (by omega)), mQ62, mK62, mN62, nI_add, zcl k (by omega), zcl (k + 1) (by omega), hO k (by omega), hO (k + 1) hk, hF5, pk_sub (by omega)]
    refine ⟨mK0, rfl, vp_in_nI (by omega) (by omega), vp_in_nI (by omega) (by omega), ?_⟩
    rw [zrise] at hr
    by_cases q : f k ≤ f (k + 1)
    · rw [if_pos q] at hr
      rw [if_pos (nI_le q (by omega)), if_pos (by rw [← nI_0]; exact nI_le (by omega) (by omega))]
      exact h1 k hk hr.symm
    · rw [if_neg q] at hr
      rw [if_neg (nI_ge (by omega) (by omega)), zm1 (by omega)]
      exact ih (by omega) hr
theorem p_rnxt {d n : Nat} {σ : zH} (hM : zMb σ) (e5 : zI σ 160 5 = nI n) (hn : n ≤ 9) (hn2 : 2 ≤ n) {f : Nat → Nat} {τ : zH} (hf : zfo n f) (hF : zF186 σ τ) (hO : zO186 τ n f) {Q : Option Value → zH → Prop} (h1 : ∀ υ g, znx n f = some g → zF186 σ υ → zO186 υ n g → Q (some (.int (nI 1))) υ) (h0 : ∀ υ, znx n f = none → zF186 σ υ → Q (some (.int (nI 0))) υ) : zM d 202 [.ref 160] τ Q := by
  have hF5 : zI τ 160 5 = nI n := by rw [hF.2.2.2.2.2.2.2.2.1 5 id]; exact e5
  have ⟨mK0, mQ1, mK1, mN1, mQ6, mK6, mN6, mQ7, mK7, mN7, mQ8, mK8, mN8, mQ9, mK9, mN9, mQ10, mK10, mN10, mQ11, mK11, mN11, mQ21, mK21, mN21, mQ22, mK22, mN22, mQ23, mK23, mN23, mQ24, mK24, mN24, mQ25, mK25, mN25, mQ26, mK26, mN26, mQ27, mK27, mN27, mQ28, mK28, mN28, mQ32, mK32, mN32, mQ33, mK33, mN33, mQ34, mK34, mN34, mQ35, mK35, mN35, mQ40, mK40, mN40, mQ41, mK41, mN41, mQ42, mK42, mN42, mQ43, mK43, mN43, mQ44, mK44, mN44, mQ45, mK45, mN45, mQ62, mK62, mN62⟩ := zMb_m hF hM
  refine b202 ⟨mK0, ?_⟩
  rw [hF5, pk_sub (by omega)]
  have start := l_rris (d := d) hM e5 hn hn2 hf hF hO (Q := Q) (fun i hi hr => ?_) (fun hr => ?_) (n - 1) (by omega) rfl
  · rw [if_neg (by omega), show n - 1 - 1 = n - 2 by omega] at start
    exact start
  · have hri := (zrise_lt _ _ hr).2
    refine l_rabv hM e5 hn hn2 hi hf hri hF hO (n - 1) (by omega) (by omega) (fun υ g1 g2 => ?_)
    refine l_rrev hM e5 hn hn2 n (i + 1) (n - 1) _ υ (by omega) (by omega) (by omega) g1 g2 (fun ω y1 y2 => h1 ω _ ?_ y1 y2)
    unfold znx
    rw [hr]
  · refine h0 τ ?_ hF
    unfold znx
    rw [hr]
theorem zIR_186 {σ τ : zH} {m : zMS} (h : zF186 σ τ) (hI : zIR σ m) : zIR τ m := zIR_m h ⟨id, id, id, id, id, id, id, id, id, id, id, id, id⟩ ⟨id, id⟩ (fun a _ _ _ _ => by unfold zA186; omega) hI
theorem zFr_186 {σ τ : zH} (h : zF186 σ τ) : zFr 160 187 σ τ := zFm_fr h (fun a q => by unfold zA186 at q; omega)
def zJlk (i : Nat) : Prop := i = 12 ∨ (46 ≤ i ∧ i ≤ 49)
def zLlk (i : Nat) : Prop := i = 50
theorem zIR_lk {σ τ : zH} {m : zMS} (h : zFm zJlk zLlk zArun σ τ) (hI : zIR σ m) : zIR τ m := zIR_m h (by unfold zJlk; omega) (by unfold zLlk; omega) (fun a _ _ _ _ => by unfold zArun; omega) hI
theorem l_rcpy {d n k : Nat} {σ0 : zH} {f : Nat → Nat} (hM : zMb σ0) (e5 : zI σ0 160 5 = nI n) (hn : n ≤ 9) (hO : zO186 σ0 n f) {Q : Option Value → zH → Prop} (hQ : ∀ τ, zFm zN0 zN0 zA165 σ0 τ → (∀ i, i < n → zA τ 165 i = nI (f i)) → Q (some (.int (nI k))) τ) : ∀ (e i : Nat) (σ : zH), i + e = n → zFm zN0 zN0 zA165 σ0 σ → (∀ j, j < i → zA σ 165 j = nI (f j)) → zW (d + 1) 201 75 [(0, .ref 160), (2, .int (nI k)), (3, .int (nI i))] [] σ Q := by
  intro e
  induction e with
  | zero =>
    intro i σ hi hF hA
    have ⟨mK0, mQ1, mK1, mN1, mQ6, mK6, mN6, mQ7, mK7, mN7, mQ8, mK8, mN8, mQ9, mK9, mN9, mQ10, mK10, mN10, mQ11, mK11, mN11, mQ21, mK21, mN21, mQ22, mK22, mN22, mQ23, mK23, mN23, mQ24, mK24, mN24, mQ25, mK25, mN25, mQ26, mK26, mN26, mQ27, mK27, mN27, mQ28, mK28, mN28, mQ32, mK32, mN32, mQ33, mK33, mN33, mQ34, mK34, mN34, mQ35, mK35, mN35, mQ40, mK40, mN40, mQ41, mK41, mN41, mQ42, mK42, mN42, mQ43, mK43, mN43, mQ44, mK44, mN44, mQ45, mK45, mN45, mQ62, mK62, mN62⟩ := zMb_m hF hM
    refine b201_75 ?_
    rw [hF.2.2.2.2.2.2.2.2.1 5 id, e5, if_pos (nI_le (by omega) (by omega))]
    exact ⟨mK0, hQ σ hF (fun j hj => hA j (by omega))⟩
  | succ e ih =>
    intro i σ hi hF hA
    have ⟨mK0, mQ1, mK1, mN1, mQ6, mK6, mN6, mQ7, mK7, mN7, mQ8, mK8, mN8, mQ9, mK9, mN9, mQ10, mK10, mN10, mQ11, mK11, mN11, mQ21, mK21, mN21, mQ22, mK22, mN22, mQ23, mK23, mN23, mQ24, mK24, mN24, mQ25, mK25, mN25, mQ26, mK26, mN26, mQ27, mK27, mN27, mQ28, mK28, mN28, mQ32, mK32, mN32, mQ33, mK33, mN33, mQ34, mK34, mN34, mQ35, mK35, mN35, mQ40, mK40, mN40, mQ41, mK41, mN41, mQ42, mK42, mN42, mQ43, mK43, mN43, mQ44, mK44, mN44, mQ45, mK45, mN45, mQ62, mK62, mN62⟩ := zMb_m hF hM
    refine b201_75 ?_
    rw [hF.2.2.2.2.2.2.2.2.1 5 id, e5, if_neg (nI_ge (by omega) (by omega)), mQ62, mK62, mN62, mQ9, mK9, mN9, zcl i (by omega), (hF.2.2.2.2.2.2.2.2.2 186 (by unfold zA165; omega)).1, hO i (by omega), nI_add]
    refine ⟨mK0, rfl, vp_in_nI (by omega) (by omega), rfl, vp_in_nI (by omega) (by omega), ?_⟩
    refine ih (i + 1) _ (by omega) (zFm_t hF (zFm_A _ rfl)) (fun j hj => ?_)
    rw [zA_sA]
    by_cases q : j = i
    · rw [if_pos ⟨rfl, q⟩, q]
    · rw [if_neg (by omega)]
      exact hA j (by omega)
theorem zIR_165 {σ τ : zH} {m : zMS} {row : List Nat} (h : zFm zN0 zN0 zA165 σ τ) (hr : ∀ i, i < zmN m → zA τ 165 i = nI (zsR (row.getD i 0))) (hI : zIR σ m) : zIR τ (zmsr row m) := by
  obtain ⟨bk, cb, a1, a2, a3, a4, a5, a6, a7, a8⟩ := hI
  obtain ⟨d1, d2, d3, d4⟩ := a3.1
  have hA := h.2.2.2.2.2.2.2.2.2
  exact ⟨bk, cb, zMb_m h a1, zrT_m h id (by unfold zA165; omega) a2, ⟨⟨by rw [h.2.2.2.2.2.2.2.2.1 5 id]; exact d1, by rw [(hA 162 (by unfold zA165; omega)).1]; exact d2, by rw [(hA 163 (by unfold zA165; omega)).1]; exact d3, by rw [(hA 164 (by unfold zA165; omega)).1]; exact d4⟩, hr⟩, zrK_m h ⟨id, id⟩ (fun a _ _ => by unfold zA165; omega) a4, zrC_m h ⟨id, id⟩ (fun a _ _ => by unfold zA165; omega) a5, by rw [h.2.2.2.2.2.2.2.2.1 16 id]; exact a6, zrP_m h ⟨id, id⟩ id a7, zrRn_m h ⟨id, id, id, id⟩ id a8⟩
theorem zsR_10 : ∀ c, c < 10 → zsR c = c := by decide
set_option maxHeartbeats 4000000 in
theorem l_rstk {d : Nat} {σ0 : zH} {m : zMS} {N : Nat} (hm : zMok m) (hN : N ≤ 50) {Q : Option Value → zH → Prop} : ∀ (c k : Nat) (f : Nat → Nat) (σ : zH), k + c = N → zIR σ m → zFr 160 187 σ0 σ → zI σ 160 0 = nI 0 → zfo (zmN m) f → zO186 σ (zmN m) f → (∀ τ, zstl m c k f = none → zIR τ m → zFr 160 187 σ0 τ → zI τ 160 0 = nI 0 → Q (some (.int (-1))) τ) → (∀ τ j g, zstl m c k f = some (j, g) → zIR τ (zmsr (zrwf (zmN m) g) m) → zFr 160 187 σ0 τ → zI τ 160 0 = nI 0 → Q (some (.int (nI j))) τ) → zW (d + 28) 201 57 [(0, .ref 160), (1, .int (nI N)), (2, .int (nI k))] [] σ Q := by
  obtain ⟨h1, h2, h3, h4, ⟨h5, dn, ch, hseg, hch⟩, h6, h7, h8⟩ := hm
  obtain ⟨hwf, hce⟩ := zSeg_wf _ _ _ _ _ _ _ hseg
  intro c
  induction c with
  | zero =>
    intro k f σ hk hI hF h0 hf hO hn hs
    refine b201_57 ?_
    rw [if_pos (nI_le (by omega) (by omega))]
    exact hn σ rfl hI hF h0
  | succ c ih =>
    intro k f σ hk hI hF h0 hf hO hn hs
    have hI' := hI
    obtain ⟨bk, cb, a1, a2, a3, a4, a5, a6, a7, a8⟩ := hI
    have ⟨mK0, mQ1, mK1, mN1, mQ6, mK6, mN6, mQ7, mK7, mN7, mQ8, mK8, mN8, mQ9, mK9, mN9, mQ10, mK10, mN10, mQ11, mK11, mN11, mQ21, mK21, mN21, mQ22, mK22, mN22, mQ23, mK23, mN23, mQ24, mK24, mN24, mQ25, mK25, mN25, mQ26, mK26, mN26, mQ27, mK27, mN27, mQ28, mK28, mN28, mQ32, mK32, mN32, mQ33, mK33, mN33, mQ34, mK34, mN34, mQ35, mK35, mN35, mQ40, mK40, mN40, mQ41, mK41, mN41, mQ42, mK42, mN42, mQ43, mK43, mN43, mQ44, mK44, mN44, mQ45, mK45, mN45, mQ62, mK62, mN62⟩ := a1
    refine b201_57 ?_
    rw [if_neg (nI_ge (by omega) (by omega)), mQ62]
    refine ⟨mK0, ?_⟩
    have go : ∀ τ, zFm zJlk zLlk zArun σ τ → zgoodo m f = false → (zK τ 160 = 13) ∧ zM (d + 27) 202 [.ref 160] τ (fun r σ107 => zqi r (fun x108 => (if ¬ x108 = 0 then zW (d + 28) 201 57 [(0, .ref 160), (1, .int (nI N)), (2, .int (nI k + nI 1))] [] σ107 Q else Q (some (.int (-1))) σ107))) := by
      intro τ F hg
      have hIt := zIR_lk F hI'
      have hFt := zFr_t hF (zFm_fr F (fun a q => by unfold zArun at q; omega))
      have hOt : zO186 τ (zmN m) f := fun i hi => by rw [(F.2.2.2.2.2.2.2.2.2 186 (by unfold zArun; omega)).1]; exact hO i hi
      have h0t : zI τ 160 0 = nI 0 := by rw [F.2.2.2.2.2.2.2.2.1 0 (by unfold zJlk; omega)]; exact h0
      have e5 : zI τ 160 5 = nI (zmN m) := by rw [F.2.2.2.2.2.2.2.2.1 5 (by unfold zJlk; omega)]; exact a3.1.1
      rw [zstl, hg] at hn hs
      refine ⟨by rw [F.1]; exact mK0, p_rnxt (zMb_m F a1) e5 h2.2 h2.1 hf (zFm_r _ _ _ _) hOt (fun υ g y1 y2 y3 => ?_) (fun υ y1 y2 => ?_)⟩
      · rw [zqi_s, if_pos (by decide), nI_add]
        rw [y1] at hn hs
        exact ih (k + 1) g υ (by omega) (zIR_186 y2 hIt) (zFr_t hFt (zFr_186 y2)) (by rw [y2.2.2.2.2.2.2.2.2.1 0 id]; exact h0t) (zfo_nx h2.1 hf y1) y3 hn hs
      · rw [zqi_s, if_neg (by decide)]
        rw [y1] at hn
        exact hn υ rfl (zIR_186 y2 hIt) (zFr_t hFt (zFr_186 y2)) (by rw [y2.2.2.2.2.2.2.2.2.1 0 id]; exact h0t)
    refine p_rlook (f := (zmS m).length) a1 a3.1 h3 (zRkb_k a4) (zRcb_cl a5) h2.2 (Or.inr rfl) (zrwf_l _ f) (fun i hi => by rw [hO i hi, zrwf_g hi, zsR_10 _ (by have := (hf i hi).2; omega)]) (zrwf_c hf) hwf (by omega) (fun L hL τ g1 g2 => ?_) (fun hL τ g1 => ?_)
    · obtain ⟨n1, n2⟩ := zbk_n (zmD m) (zmC m) L
      have F1 : zFm zJlk zLlk zArun σ τ := zFm_m (zFm_q g1) (fun i q => by unfold zJlk; omega) (fun _ q => q.elim) (fun a q => q)
      have F2 : zFm zJlk zLlk zArun σ (zsJ (zsI (zsI τ 160 48 (nI L.length)) 160 49 (nI (zcnt (zmD m) (zmC m) L))) 160 50 (zbR (zbk (zmD m) (zmC m) none L))) := zFm_t (zFm_t (zFm_t F1 (zFm_I _ (by unfold zJlk; omega))) (zFm_I _ (by unfold zJlk; omega))) (zFm_J _ rfl)
      rw [zqi_s]
      by_cases cc : zcnt (zmD m) (zmC m) L = L.length
      · have hg : zgoodo m f = true := by unfold zgoodo; rw [hL]; exact decide_eq_true cc
        rw [if_pos (c := zcnt (zmD m) (zmC m) L = L.length) cc, if_neg (by decide)]
        rw [zstl, hg] at hs
        have hIt := zIR_lk F2 hI'
        have hFt := zFr_t hF (zFm_fr F2 (fun a q => by unfold zArun at q; omega))
        refine l_rcpy (zMb_m F2 a1) (by rw [F2.2.2.2.2.2.2.2.2.1 5 (by unfold zJlk; omega)]; exact a3.1.1) h2.2 (fun i hi => by rw [(F2.2.2.2.2.2.2.2.2.2 186 (by unfold zArun; omega)).1]; exact hO i hi) (fun υ y1 y2 => ?_) (zmN m) 0 _ (by omega) (zFm_r _ _ _ _) (fun j hj => by omega)
        refine hs υ k f rfl (zIR_165 y1 (fun i hi => ?_) hIt) (zFr_t hFt (zFm_fr y1 (fun a q => by unfold zA165 at q; omega))) ?_
        · rw [y2 i hi, zrwf_g hi, zsR_10 _ (by have := (hf i hi).2; omega)]
        · rw [y1.2.2.2.2.2.2.2.2.1 0 id, F2.2.2.2.2.2.2.2.2.1 0 (by unfold zJlk; omega)]; exact h0
      · have hg : zgoodo m f = false := by unfold zgoodo; rw [hL]; exact decide_eq_false cc
        rw [if_neg (c := zcnt (zmD m) (zmC m) L = L.length) cc, if_pos (by decide)]
        exact go _ F2 hg
    · have F1 : zFm zJlk zLlk zArun σ τ := zFm_m (zFm_q g1) (fun i q => by unfold zJlk; omega) (fun _ q => q.elim) (fun a q => q)
      rw [zqi_s, if_pos (by decide)]
      exact go _ F1 (by unfold zgoodo; rw [hL])
theorem l_rini {d n N : Nat} {σ0 : zH} (hM : zMb σ0) (e5 : zI σ0 160 5 = nI n) (hn : n ≤ 9) {Q : Option Value → zH → Prop} (hQ : ∀ τ, zF186 σ0 τ → zO186 τ n (fun i => i + 1) → zW (d + 1) 201 57 [(0, .ref 160), (1, .int (nI N)), (2, .int (nI 0))] [] τ Q) : ∀ (e i : Nat) (σ : zH), i + e = n → zF186 σ0 σ → (∀ j, j < i → zA σ 186 j = nI (j + 1)) → zW (d + 1) 201 32 [(0, .ref 160), (1, .int (nI N)), (2, .int (nI i))] [] σ Q := by
  intro e
  induction e with
  | zero =>
    intro i σ hi hF hA
    have ⟨mK0, mQ1, mK1, mN1, mQ6, mK6, mN6, mQ7, mK7, mN7, mQ8, mK8, mN8, mQ9, mK9, mN9, mQ10, mK10, mN10, mQ11, mK11, mN11, mQ21, mK21, mN21, mQ22, mK22, mN22, mQ23, mK23, mN23, mQ24, mK24, mN24, mQ25, mK25, mN25, mQ26, mK26, mN26, mQ27, mK27, mN27, mQ28, mK28, mN28, mQ32, mK32, mN32, mQ33, mK33, mN33, mQ34, mK34, mN34, mQ35, mK35, mN35, mQ40, mK40, mN40, mQ41, mK41, mN41, mQ42, mK42, mN42, mQ43, mK43, mN43, mQ44, mK44, mN44, mQ45, mK45, mN45, mQ62, mK62, mN62⟩ := zMb_m hF hM
    refine b201_32 ?_
    rw [hF.2.2.2.2.2.2.2.2.1 5 id, e5, if_pos (nI_le (by omega) (by omega))]
    exact ⟨mK0, hQ σ hF (fun j hj => hA j (by omega))⟩
  | succ e ih =>
    intro i σ hi hF hA
    have ⟨mK0, mQ1, mK1, mN1, mQ6, mK6, mN6, mQ7, mK7, mN7, mQ8, mK8, mN8, mQ9, mK9, mN9, mQ10, mK10, mN10, mQ11, mK11, mN11, mQ21, mK21, mN21, mQ22, mK22, mN22, mQ23, mK23, mN23, mQ24, mK24, mN24, mQ25, mK25, mN25, mQ26, mK26, mN26, mQ27, mK27, mN27, mQ28, mK28, mN28, mQ32, mK32, mN32, mQ33, mK33, mN33, mQ34, mK34, mN34, mQ35, mK35, mN35, mQ40, mK40, mN40, mQ41, mK41, mN41, mQ42, mK42, mN42, mQ43, mK43, mN43, mQ44, mK44, mN44, mQ45, mK45, mN45, mQ62, mK62, mN62⟩ := zMb_m hF hM
    refine b201_32 ?_
    rw [hF.2.2.2.2.2.2.2.2.1 5 id, e5, if_neg (nI_ge (by omega) (by omega)), mQ62, mK62, mN62, nI_add, zcl i (by omega)]
    refine ⟨mK0, rfl, vp_in_nI (by omega) (by omega), ?_⟩
    refine ih (i + 1) _ (by omega) (zFm_t hF (zFm_A _ rfl)) (fun j hj => ?_)
    rw [zA_sA]
    by_cases q : j = i
    · rw [if_pos ⟨rfl, q⟩, q]
    · rw [if_neg (by omega)]
      exact hA j (by omega)
theorem pr_stack {d : Nat} {σ : zH} {m : zMS} {x : Int32} (hI : zIR σ m) (hm : zMok m) {Q : Option Value → zH → Prop} (h1 : zskv x → ∀ τ, zIR τ (zssk m x) → zFr 160 187 σ τ → zI τ 160 0 = nI 0 → Q (some (.int (zask m x))) τ) (h0 : ¬ zskv x → ∀ τ, zIR τ m → zFr 160 187 σ τ → zI τ 160 0 = nI 1 → Q (some (.int (nI 0))) τ) : zM (d + 28) 201 [.ref 160, .int x] σ Q := by
  have hI0 := fun v => zIR_0 v hI
  obtain ⟨bk, cb, a1, a2, a3, a4, a5, a6, a7, a8⟩ := hI
  have ⟨mK0, mQ1, mK1, mN1, mQ6, mK6, mN6, mQ7, mK7, mN7, mQ8, mK8, mN8, mQ9, mK9, mN9, mQ10, mK10, mN10, mQ11, mK11, mN11, mQ21, mK21, mN21, mQ22, mK22, mN22, mQ23, mK23, mN23, mQ24, mK24, mN24, mQ25, mK25, mN25, mQ26, mK26, mN26, mQ27, mK27, mN27, mQ28, mK28, mN28, mQ32, mK32, mN32, mQ33, mK33, mN33, mQ34, mK34, mN34, mQ35, mK35, mN35, mQ40, mK40, mN40, mQ41, mK41, mN41, mQ42, mK42, mN42, mQ43, mK43, mN43, mQ44, mK44, mN44, mQ45, mK45, mN45, mQ62, mK62, mN62⟩ := a1
  refine b201 ?_
  by_cases c1 : x < nI 1
  · rw [if_pos c1]
    refine b201_12 ⟨mK0, mK0, ?_⟩
    rw [zIe, if_neg (by exact fun q => q rfl)]
    exact h0 (fun q => q.1 c1) _ (hI0 _) (zFr_16 _) zIe
  · rw [if_neg c1, zIe]
    refine ⟨mK0, ?_⟩
    by_cases c2 : x ≤ nI 50
    · have hv : zskv x := ⟨c1, c2⟩
      obtain ⟨e1, e2⟩ := zsk_n hv
      have hQ := h1 hv
      unfold zssk zask at hQ
      unfold zsk2 at hQ
      obtain ⟨N, hNN⟩ : ∃ N, N = x.toNatClampNeg := ⟨_, rfl⟩
      rw [← hNN] at e1 e2 hQ
      rw [if_pos c2, if_pos (by decide), ← e1]
      have F0 : zFm (fun i => i = 0) zN0 zN0 σ (zsI σ 160 0 (nI 0)) := zFm_I _ rfl
      refine l_rini (d := d + 27) (zMb_m F0 a1) (by rw [zIs (by omega)]; exact a3.1.1) hm.2.1.2 (fun τ g1 g2 => ?_) (zmN m) 0 _ (by omega) (zFm_r _ _ _ _) (fun j hj => by omega)
      refine l_rstk (d := d) (σ0 := σ) hm e2 N 0 (fun i => i + 1) τ (by omega) (zIR_186 g1 (hI0 _)) (zFr_t (zFr_16 _) (zFr_186 g1)) (by rw [g1.2.2.2.2.2.2.2.2.1 0 id, zIe]) (zfo_1 hm.2.1.2) g2 (fun υ hz y1 y2 y3 => ?_) (fun υ j g hz y1 y2 y3 => ?_)
      · rw [hz] at hQ
        exact hQ υ y1 y2 y3
      · rw [hz] at hQ
        exact hQ υ y1 y2 y3
    · rw [if_neg c2, if_neg (by exact fun q => q rfl)]
      exact h0 (fun q => c2 q.2) _ (hI0 _) (zFr_16 _) zIe
