/-! the spec of steps -/
abbrev zPS : Type := Except (Nat × Nat) ((List zStp × Nat × Nat) × List zTok)
def zPz : zPS → zPs
  | .ok a => .ok a.2
  | .error e => .error e
/-- one after the other; k = how many steps stand before -/
def zSqs (r : zPS) (k : Nat) (g : Nat → List zTok → zPS) : zPS := match r with
  | .error e => .error e
  | .ok ((S1, d1, c1), R1) => match g (k + S1.length) R1 with
    | .error e => .error e
    | .ok ((S2, d2, c2), R2) => .ok ((S1 ++ S2, d1 + d2, c1 + c2), R2)
def zSqy (r : zPS) (f : List zTok → zPs) : zPS := match r with
  | .error e => .error e
  | .ok (a, R) => match f R with
    | .error e => .error e
    | .ok R2 => .ok (a, R2)
/-- a plain step -/
def zspl (w k : Nat) (R : List zTok) : zPS := match zpln w R with
  | .error e => .error e
  | .ok ((p, q, g, h), R') => .ok (([(w, p, q, g, h, 0, k + 1, [])], 1, if zfree w h then 1 else 0), R')
def zstm (blk : Nat → List zTok → zPS) (k : Nat) (R : List zTok) : zPS := match znum 2 9 R with
  | .error e => .error e
  | .ok (h, R1) => match blk (k + 1) R1 with
    | .error e => .error e
    | .ok ((S, d, c), R2) => .ok (((11, 0, 0, 0, h, k + 1 + S.length, k + 1 + S.length, []) :: S, 1 + h * d, h * c), R2)
def zels (blk : Nat → List zTok → zPS) (k : Nat) (R : List zTok) : zPS := if (zhdt R).1 = 13 then blk k (zgn R) else .ok (([], 0, 0), R)
def zsif (blk : Nat → List zTok → zPS) (k : Nat) (R : List zTok) : zPS := match zcon R with
  | .error e => .error e
  | .ok (cs, R1) => match blk (k + 1) R1 with
    | .error e => .error e
    | .ok ((S1, d1, c1), R2) => match zels blk (k + 1 + S1.length) R2 with
      | .error e => .error e
      | .ok ((S2, d2, c2), R3) => .ok (((12, 0, 0, 0, 0, k + 1 + S1.length, k + 1 + S1.length + S2.length, cs) :: (S1 ++ S2), 1 + (d1 + d2), c1 + c2), R3)
def zstp (blk : Nat → List zTok → zPS) (k : Nat) (R : List zTok) : zPS := if 40 ≤ k then .error (zflt 4 R) else if (zhdt R).1 = 11 then zstm blk k (zgn R) else if (zhdt R).1 = 12 then zsif blk k (zgn R) else zspl (zhdt R).1 k (zgn R)
def zsts (blk : Nat → List zTok → zPS) : Nat → Nat → List zTok → zPS
  | 0, _, R => .ok (([], 0, 0), R)
  | c + 1, k, R => if (zhdt R).1 ≤ 12 then zSqs (zstp blk k R) k (zsts blk c) else .ok (([], 0, 0), R)
def zblk : Nat → Nat → List zTok → zPS
  | 0, _, R => .error (zflt (if (zhdt R).1 = 37 then 4 else 2) R)
  | j + 1, k, R => match zexp 37 R with
    | .error e => .error e
    | .ok R1 => zSqy (zsts (zblk j) 41 k R1) (zexp 38)
/-! the class's Trick, as it grows -/
def zJ6 (i : Nat) : Prop := 1 ≤ i ∧ i ≤ 6
def zcdn (S : List zStp) : Nat := (S.map (fun s => (zpC s).length)).sum
theorem zcdn_app (S1 S2 : List zStp) : zcdn (S1 ++ S2) = zcdn S1 + zcdn S2 := by unfold zcdn; rw [List.map_append, List.sum_append]
theorem zcdn_c (s : zStp) (S : List zStp) : zcdn (s :: S) = (zpC s).length + zcdn S := by unfold zcdn; rw [List.map_cons, List.sum_cons]
/-- a step of the class, its codes below b -/
def zCSb (σ : zH) (T k : Nat) (s : zStp) (b : Nat) : Prop := zI σ (T + 6 + k) 0 = nI (zpW s) ∧ zI σ (T + 6 + k) 6 = nI (zpA s) ∧ zpW s ≤ 12 ∧ zpA s ≤ 40 ∧ zpM s ≤ 40 ∧ (zpW s ≤ 10 → zSr σ (T + 6 + k) (zpW s) (zpP s) (zpQ s) (zpG s) (zpH s) ∧ zSw (zpW s) (zpP s) (zpQ s) (zpG s) (zpH s)) ∧ (zpW s = 11 → zI σ (T + 6 + k) 4 = nI (zpH s) ∧ 2 ≤ zpH s ∧ zpH s ≤ 9) ∧ (zpW s = 12 → zI σ (T + 6 + k) 5 = nI (zpM s) ∧ ∃ i, zI σ (T + 6 + k) 7 = nI i ∧ zI σ (T + 6 + k) 8 = nI (i + (zpC s).length) ∧ i + (zpC s).length ≤ b ∧ zCls σ (T + 2) i (zpC s) ∧ (∀ c ∈ zpC s, zvc c) ∧ zsafe (zpC s) 0)
theorem zCSb_CS {σ : zH} {T k b : Nat} {s : zStp} (hb : b ≤ 450) (h : zCSb σ T k s b) : zCS σ T k s := by
  obtain ⟨a1, a2, a3, a4, a5, a6, a7, a8⟩ := h
  refine ⟨a1, a2, a3, a4, a5, a6, a7, fun hw => ?_⟩
  obtain ⟨b1, i, b2, b3, b4, b5⟩ := a8 hw
  exact ⟨b1, i, b2, b3, by omega, b5⟩
theorem zCSb_k {σ τ : zH} {T k b b' : Nat} {s : zStp} (hb : b ≤ b') (hK : zK τ = zK σ) (hI : zI τ (T + 6 + k) = zI σ (T + 6 + k)) (hr : zKr (T + 2) b σ τ) (h : zCSb σ T k s b) : zCSb τ T k s b' := by
  obtain ⟨a1, a2, a3, a4, a5, a6, a7, a8⟩ := h
  unfold zCSb zSr
  rw [hI, hK]
  refine ⟨a1, a2, a3, a4, a5, a6, a7, fun hw => ?_⟩
  obtain ⟨b1, i, b2, b3, b4, b5, b6⟩ := a8 hw
  exact ⟨b1, i, b2, b3, by omega, zCls_k hr _ _ b4 b5, b6⟩
theorem zTs_g {lo hi : Nat} {J : Nat → Prop} {σ τ : zH} (h : zFg lo hi J σ τ) {Tr : Nat} (ht : 13 < Tr) (hO : zTs σ Tr) : zTs τ Tr := by
  have hc := zCo_g h hO.2.2.2.2.2.2
  obtain ⟨a1, a2, a3, a4, a5, a6, a7, a8⟩ := h
  obtain ⟨b1, b2, b3, b4, b5, b6, b7⟩ := hO
  refine ⟨by rw [a1]; exact b1, by rw [a5]; exact b2, by rw [a5]; exact b3, by rw [a1]; exact b4, by rw [a2]; exact b5, fun k hk => ?_, hc⟩
  rw [a6 _ (by omega), a1]
  exact b6 k hk
/-- from σ to τ the steps of r were put behind the first k, their codes behind the first m; o = how often they count; steps before the b-th are as they were -/
def zAs (T : List zTok) (n Tr o b k k' m m' : Nat) (σ τ : zH) (r : zPS) : Prop := zRS τ T n (zPz r) ∧ zFg Tr (Tr + 46) zJ6 σ τ ∧ zKr (Tr + 2) m σ τ ∧ (∀ i, i < b → zI τ (Tr + 6 + i) = zI σ (Tr + 6 + i)) ∧ k ≤ k' ∧ k' ≤ 40 ∧ m ≤ m' ∧ m' ≤ 450 ∧ zI τ Tr 2 = nI k' ∧ zI τ (Tr + 2) 3 = nI m' ∧ ∀ S dn ch R, r = .ok ((S, dn, ch), R) → k' = k + S.length ∧ zI τ 9 3 = zI σ 9 3 + nI (o * dn) ∧ zI τ 9 4 = zI σ 9 4 + nI (o * ch) ∧ (m + zcdn S ≤ 450 → m' = m + zcdn S ∧ ∀ i, i < S.length → zCSb τ Tr (k + i) (zSg S i) m')
theorem zSg_a1 {S1 S2 : List zStp} {i : Nat} (h : i < S1.length) : zSg (S1 ++ S2) i = zSg S1 i := by
  unfold zSg
  simp only [List.getD]
  rw [List.getElem?_append_left h]
theorem zSg_a2 {S1 S2 : List zStp} {i : Nat} (h : S1.length ≤ i) : zSg (S1 ++ S2) i = zSg S2 (i - S1.length) := by
  unfold zSg
  simp only [List.getD]
  rw [List.getElem?_append_right h]
theorem zAs_s {T : List zTok} {n Tr o b k k1 k2 m m1 m2 : Nat} {σ τ υ : zH} {r : zPS} {g : Nat → List zTok → zPS} (hb : b ≤ k) (h1 : zAs T n Tr o b k k1 m m1 σ τ r) (h2 : zAs T n Tr o k1 k1 k2 m1 m2 τ υ ((zPz r).bind (g k1))) : zAs T n Tr o b k k2 m m2 σ υ (zSqs r k g) := by
  obtain ⟨a1, a2, a3, a4, a5, a6, a7, a8, a9, a10, a11⟩ := h1
  obtain ⟨b1, b2, b3, b4, b5, b6, b7, b8, b9, b10, b11⟩ := h2
  refine ⟨?_, zFg_t a2 b2, fun a l h i hi => (b3 a l h i (by omega)).trans (a3 a l h i hi), fun i hi => (b4 i (by omega)).trans (a4 i hi), by omega, b6, by omega, b8, b9, b10, fun S dn ch R hr => ?_⟩
  · cases r with
    | error e => exact b1
    | ok a =>
      obtain ⟨⟨S1, d1, c1⟩, R1⟩ := a
      obtain ⟨rfl, -⟩ := a11 S1 d1 c1 R1 rfl
      have e : (zPz (Except.ok ((S1, d1, c1), R1))).bind (g (k + S1.length)) = g (k + S1.length) R1 := rfl
      rw [e] at b1
      simp only [zSqs]
      cases hg : g (k + S1.length) R1 with
      | error e => rw [hg] at b1; exact b1
      | ok c => rw [hg] at b1; exact b1
  · cases r with
    | error e => cases hr
    | ok a =>
      obtain ⟨⟨S1, d1, c1⟩, R1⟩ := a
      obtain ⟨rfl, x2, x3, x4⟩ := a11 S1 d1 c1 R1 rfl
      have e : (zPz (Except.ok ((S1, d1, c1), R1))).bind (g (k + S1.length)) = g (k + S1.length) R1 := rfl
      rw [e] at b11
      simp only [zSqs] at hr
      cases hg : g (k + S1.length) R1 with
      | error e => rw [hg] at hr; cases hr
      | ok c =>
        obtain ⟨⟨S2, d2, c2⟩, R2⟩ := c
        rw [hg] at hr
        simp only [Except.ok.injEq, Prod.mk.injEq] at hr
        obtain ⟨⟨rfl, rfl, rfl⟩, rfl⟩ := hr
        obtain ⟨y1, y2, y3, y4⟩ := b11 S2 d2 c2 R2 hg
        refine ⟨by rw [List.length_append]; omega, ?_, ?_, fun hc => ?_⟩
        · rw [y2, x2, Int32.add_assoc, nI_add, ← Nat.mul_add]
        · rw [y3, x3, Int32.add_assoc, nI_add, ← Nat.mul_add]
        · rw [zcdn_app] at hc ⊢
          obtain ⟨u1, u2⟩ := x4 (by omega)
          obtain ⟨v1, v2⟩ := y4 (by omega)
          refine ⟨by omega, fun i hi => ?_⟩
          by_cases h : i < S1.length
          · rw [zSg_a1 h]
            exact zCSb_k b7 b2.1 (b4 (k + i) (by omega)) b3 (u2 i h)
          · rw [zSg_a2 (by omega)]
            have := v2 (i - S1.length) (by rw [List.length_append] at hi; omega)
            rw [show k + S1.length + (i - S1.length) = k + i by omega] at this
            exact this
theorem zFg_J {lo hi : Nat} {σ τ : zH} (h : zFc zJ4 σ τ) : zFg lo hi zJ6 σ τ := zFg_m (zFg_c (lo := lo) (hi := hi) h) (Nat.le_refl _) (Nat.le_refl _) (fun i q => by unfold zJ4 at q; unfold zJ6; omega)
/-- only the Reader's cursor went on -/
theorem zAs_n {T : List zTok} {n Tr o b k m : Nat} {σ τ : zH} {r : zPS} (ht : 13 < Tr) (hk : k ≤ 40) (hm : m ≤ 450) (h2 : zI σ Tr 2 = nI k) (h3 : zI σ (Tr + 2) 3 = nI m) (hF : zFc zJ4 σ τ) (hS : zRS τ T n (zPz r)) (hr : ∀ S dn ch R, r = .ok ((S, dn, ch), R) → S = [] ∧ dn = 0 ∧ ch = 0) : zAs T n Tr o b k k m m σ τ r := by
  have hx := hF.1.2.2.2.2
  refine ⟨hS, zFg_J hF, fun a l h i hi => by rw [(hx a (by omega)).2.2.2.1], fun i hi => (hx _ (by omega)).1, Nat.le_refl _, hk, Nat.le_refl _, hm, by rw [(hx Tr (by omega)).1]; exact h2, by rw [(hx (Tr + 2) (by omega)).1]; exact h3, fun S dn ch R q => ?_⟩
  obtain ⟨rfl, rfl, rfl⟩ := hr S dn ch R q
  refine ⟨rfl, ?_, ?_, fun _ => ⟨rfl, fun i hi => absurd hi (by simp)⟩⟩
  · rw [hF.2.2 3 (by unfold zJ4; omega)]; simp [nI_0]
  · rw [hF.2.2 4 (by unfold zJ4; omega)]; simp [nI_0]
/-- the cursor went on before -/
theorem zAs_f {T : List zTok} {n Tr o b k k' m m' : Nat} {σ τ υ : zH} {r : zPS} (ht : 13 < Tr) (hF : zFc zJ4 σ τ) (h : zAs T n Tr o b k k' m m' τ υ r) : zAs T n Tr o b k k' m m' σ υ r := by
  have hx := hF.1.2.2.2.2
  obtain ⟨b1, b2, b3, b4, b5, b6, b7, b8, b9, b10, b11⟩ := h
  refine ⟨b1, zFg_t (zFg_J hF) b2, fun a l h i hi => by rw [b3 a l h i hi, (hx a (by omega)).2.2.2.1], fun i hi => (b4 i hi).trans (hx _ (by omega)).1, b5, b6, b7, b8, b9, b10, fun S dn ch R hr => ?_⟩
  have := b11 S dn ch R hr
  rw [hF.2.2 3 (by unfold zJ4; omega), hF.2.2 4 (by unfold zJ4; omega)] at this
  exact this
/-- .. and behind -/
theorem zAs_y {T : List zTok} {n Tr o b k k' m m' : Nat} {σ τ υ : zH} {r : zPS} {f : List zTok → zPs} (ht : 13 < Tr) (h : zAs T n Tr o b k k' m m' σ τ r) (hF : zFc zJ4 τ υ) (hS : zRS υ T n ((zPz r).bind f)) : zAs T n Tr o b k k' m m' σ υ (zSqy r f) := by
  have hx := hF.1.2.2.2.2
  obtain ⟨b1, b2, b3, b4, b5, b6, b7, b8, b9, b10, b11⟩ := h
  have hr : zKr (Tr + 2) m' τ υ := fun a l h i hi => by rw [(hx a (by omega)).2.2.2.1]
  refine ⟨?_, zFg_t b2 (zFg_J hF), fun a l h i hi => by rw [(hx a (by omega)).2.2.2.1]; exact b3 a l h i hi, fun i hi => (hx _ (by omega)).1.trans (b4 i hi), b5, b6, b7, b8, by rw [(hx Tr (by omega)).1]; exact b9, by rw [(hx (Tr + 2) (by omega)).1]; exact b10, fun S dn ch R q => ?_⟩
  · cases r with
    | error e => exact hS
    | ok a =>
      have e : (zPz (Except.ok a)).bind f = f a.2 := rfl
      rw [e] at hS
      simp only [zSqy]
      cases hz : f a.2 with
      | error e => rw [hz] at hS; exact hS
      | ok R2 => rw [hz] at hS; exact hS
  · cases r with
    | error e => cases q
    | ok a =>
      simp only [zSqy] at q
      cases hz : f a.2 with
      | error e => rw [hz] at q; cases q
      | ok R2 =>
        rw [hz] at q
        simp only [Except.ok.injEq, Prod.mk.injEq] at q
        obtain ⟨x1, x2, x3, x4⟩ := b11 a.1.1 a.1.2.1 a.1.2.2 a.2 rfl
        rw [q.1] at x1 x2 x3 x4
        rw [hF.2.2 3 (by unfold zJ4; omega), hF.2.2 4 (by unfold zJ4; omega)]
        refine ⟨x1, x2, x3, fun hc => ⟨(x4 hc).1, fun i hi => ?_⟩⟩
        exact zCSb_k (Nat.le_refl _) hF.1.1 (hx _ (by omega)).1 hr ((x4 hc).2 i hi)
theorem zAs_b {T : List zTok} {n Tr o b b' k k' m m' : Nat} {σ τ : zH} {r : zPS} (hb : b' ≤ b) (h : zAs T n Tr o b k k' m m' σ τ r) : zAs T n Tr o b' k k' m m' σ τ r := by
  obtain ⟨b1, b2, b3, b4, b5⟩ := h
  exact ⟨b1, b2, b3, fun i hi => b4 i (by omega), b5⟩
/-- a field of a step before these is written behind -/
theorem zAs_w {T : List zTok} {n Tr o b k k' m m' i0 j : Nat} {σ τ : zH} {v : Int32} {r : zPS} (ht : 13 < Tr) (h1 : b ≤ i0) (h2 : i0 < k) (hk : k ≤ 40) (h : zAs T n Tr o b k k' m m' σ τ r) : zAs T n Tr o b k k' m m' σ (zsI τ (Tr + 6 + i0) j v) r := by
  obtain ⟨b1, b2, b3, b4, b5, b6, b7, b8, b9, b10, b11⟩ := h
  have e : ∀ a, a ≠ Tr + 6 + i0 → zI (zsI τ (Tr + 6 + i0) j v) a = zI τ a := by
    intro a ha
    funext i
    simp only [zh]
    rw [if_neg (by omega)]
  refine ⟨zRS_I j v (by omega) b1, zFg_t b2 (zFg_I j v (by omega) (by omega) (by omega)), b3, fun i hi => (e _ (by omega)).trans (b4 i hi), b5, b6, b7, b8, by rw [e _ (by omega)]; exact b9, by rw [e _ (by omega)]; exact b10, fun S dn ch R hr => ?_⟩
  obtain ⟨x1, x2, x3, x4⟩ := b11 S dn ch R hr
  rw [e 9 (by omega)]
  exact ⟨x1, x2, x3, fun hc => ⟨(x4 hc).1, fun i hi => zCSb_k (σ := τ) (Nat.le_refl _) rfl (e _ (by omega)) (fun _ _ _ _ _ => rfl) ((x4 hc).2 i hi)⟩⟩
/-- .. before -/
theorem zAs_v {T : List zTok} {n Tr o b k k' m m' i0 j : Nat} {σ τ : zH} {v : Int32} {r : zPS} (ht : 13 < Tr) (h1 : b ≤ i0) (h2 : i0 < 40) (h : zAs T n Tr o b k k' m m' (zsI σ (Tr + 6 + i0) j v) τ r) : zAs T n Tr o b k k' m m' σ τ r := by
  obtain ⟨b1, b2, b3, b4, b5, b6, b7, b8, b9, b10, b11⟩ := h
  have e : ∀ a, a ≠ Tr + 6 + i0 → zI (zsI σ (Tr + 6 + i0) j v) a = zI σ a := by
    intro a ha
    funext i
    simp only [zh]
    rw [if_neg (by omega)]
  rw [e 9 (by omega)] at b11
  exact ⟨b1, zFg_t (zFg_I j v (by omega) (by omega) (by omega)) b2, b3, fun i hi => (b4 i hi).trans (e _ (by omega)), b5, b6, b7, b8, b9, b10, b11⟩
/-- the first of several: its step object k was begun before υ and is finished at ω -/
theorem zAs_h {T : List zTok} {n Tr o o2 k k' m m1 m' : Nat} {σ υ ω : zH} {r r2 : zPS} (ht : 13 < Tr) (hk : k < 40) (hm : m ≤ m1) (hF : zFg Tr (Tr + 46) zJ6 σ υ) (hr : zKr (Tr + 2) m σ υ) (hs : ∀ i, i < k → zI υ (Tr + 6 + i) = zI σ (Tr + 6 + i)) (h3 : zI υ 9 3 = zI σ 9 3 + nI o) (h4 : zI υ 9 4 = zI σ 9 4) (h : zAs T n Tr o2 k (k + 1) k' m1 m' υ ω r2) (hz : zPz r = zPz r2) (hok : ∀ S dn ch R, r = .ok ((S, dn, ch), R) → ∃ s S' dn' ch', r2 = .ok ((S', dn', ch'), R) ∧ S = s :: S' ∧ o * dn = o + o2 * dn' ∧ o * ch = o2 * ch' ∧ (m + (zpC s).length ≤ 450 → m1 = m + (zpC s).length) ∧ (m + zcdn S ≤ 450 → k' = k + 1 + S'.length → zCSb ω Tr k s m')) : zAs T n Tr o k k k' m m' σ ω r := by
  obtain ⟨b1, b2, b3, b4, b5, b6, b7, b8, b9, b10, b11⟩ := h
  refine ⟨by rw [hz]; exact b1, zFg_t hF b2, fun a l h i hi => (b3 a l h i (by omega)).trans (hr a l h i hi), fun i hi => (b4 i hi).trans (hs i hi), by omega, b6, by omega, b8, b9, b10, fun S dn ch R q => ?_⟩
  obtain ⟨s, S', dn', ch', q1, rfl, q3, q4, q5, q6⟩ := hok S dn ch R q
  obtain ⟨x1, x2, x3, x4⟩ := b11 S' dn' ch' R q1
  refine ⟨by rw [List.length_cons]; omega, ?_, ?_, fun hc => ?_⟩
  · rw [x2, h3, q3, ← nI_add, Int32.add_assoc]
  · rw [x3, h4, q4]
  · have hc' := hc
    rw [zcdn_c] at hc
    have e1 := q5 (by omega)
    obtain ⟨y1, y2⟩ := x4 (by omega)
    refine ⟨by rw [zcdn_c]; omega, fun i hi => ?_⟩
    cases i with
    | zero => exact q6 hc' x1
    | succ i =>
      have := y2 i (by simpa using hi)
      rw [show k + 1 + i = k + (i + 1) by omega] at this
      exact this
