/-! the reference's steps as they grow -/
def zJs (i : Nat) : Prop := zJc i ∨ i = 31
def zAst (a : Nat) : Prop := 168 ≤ a ∧ a ≤ 179
theorem zB_sB (σ : zH) (a m b i : Nat) (v : Int64) : zB (zsB σ a m v) b i = if b = a ∧ i = m then v else zB σ b i := rfl
theorem zFn_B {J A : Nat → Prop} {σ : zH} {a j : Nat} (v : Int64) (h : A a) : zFn J A σ (zsB σ a j v) := by
  refine ⟨rfl, rfl, rfl, rfl, rfl, rfl, fun a ha => ⟨rfl, rfl⟩, fun _ _ => rfl, fun i hi => rfl, fun b hb => ⟨rfl, ?_⟩⟩
  funext i
  rw [zB_sB]
  exact if_neg (fun q => hb (by rw [q.1]; exact h))
def zRSb (σ : zH) (bk k : Nat) (s : zStp) (lo b : Nat) : Prop := zB σ 168 (48 * bk + k) = lN (zwdn (zpW s)) ∧ zpW s ≤ 12 ∧ zpA s ≤ 40 ∧ zpM s ≤ 40 ∧ (zpW s ≤ 10 → zRs σ (48 * bk + k) (zpW s) (zpP s) (zpQ s) (zpG s) (zpH s) ∧ zSw (zpW s) (zpP s) (zpQ s) (zpG s) (zpH s)) ∧ (zpW s = 11 → zA σ 172 (48 * bk + k) = nI (zpH s) ∧ 2 ≤ zpH s ∧ zpH s ≤ 9 ∧ zA σ 175 (48 * bk + k) = nI (zpA s)) ∧ (zpW s = 12 → zA σ 174 (48 * bk + k) = nI (zpM s) ∧ zA σ 175 (48 * bk + k) = nI (zpA s) ∧ ∃ v C f, zA σ 173 (48 * bk + k) = nI v ∧ zTr σ lo b f 19 v C ∧ ∀ g, ztop (zev g (zpC s) []) = C g)
theorem zRSb_St {σ : zH} {bk k lo b : Nat} {s : zStp} (hb : b ≤ 3200) (h : zRSb σ bk k s lo b) : zRSt σ bk k s := by
  obtain ⟨a1, a2, a3, a4, a5, a6, a7⟩ := h
  refine ⟨a1, a2, a3, a4, a5, a6, fun hw => ?_⟩
  obtain ⟨b1, b2, v, C, f, b3, b4, b5⟩ := a7 hw
  exact ⟨b1, b2, v, C, f, lo, b, b3, hb, b4, b5⟩
theorem zRSb_k {σ τ : zH} {bk k lo b b' : Nat} {s : zStp} (hb : b ≤ b') (hr : ∀ a, 168 ≤ a → a ≤ 175 → zA τ a (48 * bk + k) = zA σ a (48 * bk + k) ∧ zB τ a (48 * bk + k) = zB σ a (48 * bk + k)) (hn : ∀ a, 176 ≤ a → a ≤ 179 → ∀ i, lo ≤ i → i < b → zA τ a i = zA σ a i) (h : zRSb σ bk k s lo b) : zRSb τ bk k s lo b' := by
  obtain ⟨a1, a2, a3, a4, a5, a6, a7⟩ := h
  unfold zRSb zRs
  rw [(hr 168 (by omega) (by omega)).2, (hr 169 (by omega) (by omega)).1, (hr 170 (by omega) (by omega)).1, (hr 171 (by omega) (by omega)).1, (hr 172 (by omega) (by omega)).1, (hr 173 (by omega) (by omega)).1, (hr 174 (by omega) (by omega)).1, (hr 175 (by omega) (by omega)).1]
  refine ⟨a1, a2, a3, a4, a5, a6, fun hw => ?_⟩
  obtain ⟨b1, b2, v, C, f, b3, b4, b5⟩ := a7 hw
  exact ⟨b1, b2, v, C, f, b3, zTr_u (Nat.le_refl _) hb (fun w l1 l2 => ⟨hn 176 (by omega) (by omega) w l1 l2, hn 177 (by omega) (by omega) w l1 l2, hn 178 (by omega) (by omega) w l1 l2, hn 179 (by omega) (by omega) w l1 l2⟩) (Nat.le_refl _) (Nat.le_refl _) b4, b5⟩
def zRA (B : List Nat) (bk k nd : Nat) (σ τ : zH) (S : List zStp) (R' : List zTok) : Prop := zRuc τ B R' ∧ zFn zJs zAst σ τ ∧ zKp (48 * bk + k) (48 * bk + 48) σ τ ∧ zKn nd (800 * bk + 800) σ τ ∧ zI τ 160 31 = nI (k + S.length) ∧ zI τ 160 36 = nI (nd + zndS S) ∧ ∀ i, i < S.length → zRSb τ bk (k + i) (zSg S i) (800 * bk) (nd + zndS S)
def zRE (bk k nd : Nat) (σ τ : zH) (e : Nat × Nat) : Prop := zFlt τ e ∧ zFn zJs zAst σ τ ∧ zKp (48 * bk + k) (48 * bk + 48) σ τ ∧ zKn nd (800 * bk + 800) σ τ
theorem zRA_s {B : List Nat} {bk k nd : Nat} {σ τ υ : zH} {S1 S2 : List zStp} {R1 R2 : List zTok} (hk : k + S1.length + S2.length ≤ 48) (h1 : zRA B bk k nd σ τ S1 R1) (h2 : zRA B bk (k + S1.length) (nd + zndS S1) τ υ S2 R2) : zRA B bk k nd σ υ (S1 ++ S2) R2 := by
  obtain ⟨a1, a2, a3, a4, a5, a6, a7⟩ := h1
  obtain ⟨b1, b2, b3, b4, b5, b6, b7⟩ := h2
  refine ⟨b1, zFn_t a2 b2, zKp_t a3 (zKp_m (by omega) (Nat.le_refl _) b3), fun a l1 l2 i hi => (b4 a l1 l2 i (by omega)).trans (a4 a l1 l2 i hi), ?_, ?_, fun i hi => ?_⟩
  · rw [b5, List.length_append, Nat.add_assoc]
  · rw [b6, zndS_app, Nat.add_assoc]
  · rw [zndS_app, ← Nat.add_assoc]
    by_cases h : i < S1.length
    · rw [zSg_a1 h]
      exact zRSb_k (Nat.le_add_right _ _) (fun a l1 l2 => b3 a l1 l2 _ (by omega)) (fun a l1 l2 w u1 u2 => b4 a l1 l2 w (Or.inl u2)) (a7 i h)
    · rw [zSg_a2 (by omega)]
      have := b7 (i - S1.length) (by rw [List.length_append] at hi; omega)
      rw [show k + S1.length + (i - S1.length) = k + i by omega] at this
      exact this
theorem zRE_s {B : List Nat} {bk k nd : Nat} {σ τ υ : zH} {S1 : List zStp} {R1 : List zTok} {e : Nat × Nat} (h1 : zRA B bk k nd σ τ S1 R1) (h2 : zRE bk (k + S1.length) (nd + zndS S1) τ υ e) : zRE bk k nd σ υ e := by
  obtain ⟨a1, a2, a3, a4, a5, a6, a7⟩ := h1
  obtain ⟨b1, b2, b3, b4⟩ := h2
  exact ⟨b1, zFn_t a2 b2, zKp_t a3 (zKp_m (by omega) (Nat.le_refl _) b3), fun a l1 l2 i hi => (b4 a l1 l2 i (by omega)).trans (a4 a l1 l2 i hi)⟩
theorem zFn_rs {σ τ : zH} (h : zFn zJr zA0 σ τ) : zFn zJs zAst σ τ := zFn_m h (fun _ q => Or.inl (Or.inl q)) (fun _ q => q.elim)
theorem zFn_cs {σ τ : zH} (h : zFn zJc zAn σ τ) : zFn zJs zAst σ τ := zFn_m h (fun _ q => Or.inl q) (fun a q => by unfold zAn at q; unfold zAst; omega)
theorem zFn_ps {σ τ : zH} (h : zFn zJr zAsp σ τ) : zFn zJs zAst σ τ := zFn_m h (fun _ q => Or.inl (Or.inl q)) (fun a q => by unfold zAsp at q; unfold zAst; omega)
/-- the cursor went on behind -/
theorem zRA_g {B : List Nat} {bk k nd : Nat} {σ τ υ : zH} {S : List zStp} {R R' : List zTok} (h1 : zRA B bk k nd σ τ S R) (hF : zFn zJr zA0 τ υ) (hR : zRuc υ B R') : zRA B bk k nd σ υ S R' := by
  obtain ⟨a1, a2, a3, a4, a5, a6, a7⟩ := h1
  have hI := hF.2.2.2.2.2.2.2.2.1
  refine ⟨hR, zFn_t a2 (zFn_rs hF), zKp_t a3 (zKp_n hF (fun _ _ _ q => q)), fun a l1 l2 i hi => by rw [(zAx hF a).1]; exact a4 a l1 l2 i hi, by rw [hI 31 (by unfold zJr; omega)]; exact a5, by rw [hI 36 (by unfold zJr; omega)]; exact a6, fun i hi => ?_⟩
  exact zRSb_k (Nat.le_refl _) (fun a _ _ => by rw [(zAx hF a).1, (zAx hF a).2]; exact ⟨rfl, rfl⟩) (fun a _ _ w _ _ => by rw [(zAx hF a).1]) (a7 i hi)
theorem zRE_g {B : List Nat} {bk k nd : Nat} {σ τ υ : zH} {S : List zStp} {R : List zTok} {e : Nat × Nat} (h1 : zRA B bk k nd σ τ S R) (hF : zFn zJr zA0 τ υ) (he : zFlt υ e) : zRE bk k nd σ υ e := by
  obtain ⟨a1, a2, a3, a4, a5, a6, a7⟩ := h1
  exact ⟨he, zFn_t a2 (zFn_rs hF), zKp_t a3 (zKp_n hF (fun _ _ _ q => q)), fun a l1 l2 i hi => by rw [(zAx hF a).1]; exact a4 a l1 l2 i hi⟩
theorem zRA_nil {B : List Nat} {bk k nd : Nat} {σ : zH} {R : List zTok} (hR : zRuc σ B R) (h31 : zI σ 160 31 = nI k) (h36 : zI σ 160 36 = nI nd) : zRA B bk k nd σ σ [] R :=
  ⟨hR, zFn_r _ _ _, zKp_r _ _ _, fun _ _ _ _ _ => rfl, h31, h36, fun i hi => absurd hi (by simp)⟩
/-- its own row is written behind -/
theorem zRA_w {B : List Nat} {bk k nd a i0 : Nat} {σ τ : zH} {v : Int32} {S : List zStp} {R : List zTok} (ha : 168 ≤ a ∧ a ≤ 175) (h1 : i0 < k) (hk : k + S.length ≤ 48) (h : zRA B bk k nd σ τ S R) : zRuc (zsA τ a (48 * bk + i0) v) B R ∧ zFn zJs zAst σ (zsA τ a (48 * bk + i0) v) ∧ zKp (48 * bk + i0) (48 * bk + 48) σ (zsA τ a (48 * bk + i0) v) ∧ zKn nd (800 * bk + 800) σ (zsA τ a (48 * bk + i0) v) ∧ (∀ i, i < S.length → zRSb (zsA τ a (48 * bk + i0) v) bk (k + i) (zSg S i) (800 * bk) (nd + zndS S)) := by
  obtain ⟨a1, a2, a3, a4, a5, a6, a7⟩ := h
  refine ⟨zRuc_A _ (by omega) a1, zFn_t a2 (zFn_A _ (by unfold zAst; omega)), zKp_t (zKp_m (by omega) (Nat.le_refl _) a3) (zKp_A _ (Nat.le_refl _) (by omega)), fun b l1 l2 i hi => by rw [zA_o (by omega)]; exact a4 b l1 l2 i hi, fun i hi => ?_⟩
  refine zRSb_k (σ := τ) (Nat.le_refl _) (fun b l1 l2 => ⟨?_, rfl⟩) (fun b l1 l2 w _ _ => by rw [zA_o (by omega)]) (a7 i hi)
  rw [zA_sA, if_neg (by omega)]
/-- a step with what it holds -/
theorem zRA_h {B : List Nat} {bk k nd nd1 : Nat} {σ υ ω : zH} {s : zStp} {C : List zStp} {R : List zTok} (hn : nd1 = nd + znd (zpC s)) (hF : zFn zJs zAst σ υ) (hK : zKp (48 * bk + k) (48 * bk + 48) σ υ) (hN : zKn nd (800 * bk + 800) σ υ) (hR : zRuc ω B R) (hF2 : zFn zJs zAst υ ω) (hK2 : zKp (48 * bk + k) (48 * bk + 48) υ ω) (hN2 : zKn nd1 (800 * bk + 800) υ ω) (h31 : zI ω 160 31 = nI (k + 1 + C.length)) (h36 : zI ω 160 36 = nI (nd1 + zndS C)) (hC : ∀ i, i < C.length → zRSb ω bk (k + 1 + i) (zSg C i) (800 * bk) (nd1 + zndS C)) (h0 : zRSb ω bk k s (800 * bk) (nd1 + zndS C)) : zRA B bk k nd σ ω (s :: C) R := by
  refine ⟨hR, zFn_t hF hF2, zKp_t hK hK2, fun a l1 l2 i hi => (hN2 a l1 l2 i (by omega)).trans (hN a l1 l2 i hi), ?_, ?_, fun i hi => ?_⟩
  · rw [h31, List.length_cons]
    congr 1
    omega
  · rw [h36, zndS_c, hn, Nat.add_assoc]
  · rw [zndS_c, ← Nat.add_assoc, ← hn]
    cases i with
    | zero => exact h0
    | succ i =>
      have := hC i (by simpa using hi)
      rw [show k + 1 + i = k + (i + 1) by omega] at this
      exact this
def zPsr (B : List Nat) (bk D M x : Nat) (blk : Nat → List zTok → zPS) : Prop := ∀ (σ : zH) (R : List zTok) (k nd : Nat) (Q : Option Value → zH → Prop), zRuc σ B R → zI σ 160 29 = nI bk → bk < 2 → zI σ 160 31 = nI k → zI σ 160 36 = nI nd → 800 * bk ≤ nd → zRoom B (5 * (800 * bk)) (800 * bk + 800) nd R → R.length ≤ 901 → k ≤ 40 → (∀ τ S dn ch R', blk k R = .ok ((S, dn, ch), R') → zRA B bk k nd σ τ S R' → Q (some (.int (nI 1))) τ) → (∀ τ e, blk k R = .error e → zRE bk k nd σ τ e → Q (some (.int (nI 0))) τ) → zM D M [.ref 160, .int (nI x)] σ Q
