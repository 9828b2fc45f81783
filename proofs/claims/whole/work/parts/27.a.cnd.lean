/-! the spec of conditions: tokens into codes -/
abbrev zPC : Type := Except (Nat × Nat) (List zCd × List zTok)
def zPq : zPC → zPs
  | .ok a => .ok a.2
  | .error e => .error e
def zSq (r : zPC) (g : List zTok → zPC) : zPC := match r with
  | .error e => .error e
  | .ok (cs, R) => match g R with
    | .error e => .error e
    | .ok (c2, R2) => .ok (cs ++ c2, R2)
def zNl (f : List zTok → zPs) (R : List zTok) : zPC := match f R with
  | .ok R' => .ok ([], R')
  | .error e => .error e
def zOc (c : zCd) (R : List zTok) : zPC := .ok ([c], R)
def zSqp (r : zPv) (f : Nat → List zTok → zPv) : zPv := match r with
  | .error e => .error e
  | .ok (v, R) => f v R
def zSqc (r : zPv) (f : Nat → List zTok → zPC) : zPC := match r with
  | .error e => .error e
  | .ok (v, R) => f v R
def znm (R : List zTok) : zPv :=
  if (zhdt R).1 = 36 then zSqp (znum 0 99 R) (fun v R' => .ok (9216 + v, R'))
  else if 27 ≤ (zhdt R).1 ∧ (zhdt R).1 ≤ 34 then zSqp (zpile 9 (zgn R)) (fun p R1 => if (zhdt R).1 < 30 then .ok ((zhdt R).1 * 256 + p * 16, R1) else zSqp (znum 1 9 R1) (fun i R2 => .ok ((zhdt R).1 * 256 + p * 16 + i, R2)))
  else .error (zflt 2 R)
def zprp (R : List zTok) : zPv := if 31 ≤ (zhdt R).1 ∧ (zhdt R).1 ≤ 33 then .ok ((zhdt R).1, zgn R) else .error (zflt 2 R)
def zats (R : List zTok) : zPC := zSqc (if (zhdt R).1 = 25 then znum 2 9 (zgn R) else .ok (0, zgn R)) (fun g R2 => zSqc (if (zhdt R).1 = 26 then .ok (31, R2) else zprp R2) (fun pr R3 => zSqc (zpile 9 R3) (fun p R4 => .ok ([((zhdt R).1, pr, p * 16 + g)], R4))))
def zacm (R : List zTok) : zPC := zSqc (znm R) (fun a R1 => if 42 ≤ (zhdt R1).1 ∧ (zhdt R1).1 ≤ 47 then zSqc (znm (zgn R1)) (fun b R2 => .ok ([((zhdt R1).1, a, b)], R2)) else .error (zflt 2 R1))
def zlop (one : List zTok → zPC) (k : Nat) : Nat → List zTok → zPC
  | 0, R => .ok ([], R)
  | n + 1, R => if (zhdt R).1 = k then zSq (zSq (one (zgn R)) (zOc (k, 0, 0))) (zlop one k n) else .ok ([], R)
def zbth (one : List zTok → zPC) (R : List zTok) : zPC := zSq (one R) (zlop one 22 900)
def zcnd (one : List zTok → zPC) (R : List zTok) : zPC := zSq (zbth one R) (zlop (zbth one) 21 900)
/-- j = how many more may be nested -/
def zone : Nat → List zTok → zPC
  | 0, R => if (zhdt R).1 = 23 ∨ (zhdt R).1 = 39 then .error (zflt 4 R) else if (zhdt R).1 = 24 ∨ (zhdt R).1 = 25 ∨ (zhdt R).1 = 26 then zats R else zacm R
  | j + 1, R => if (zhdt R).1 = 23 then zSq (zone j (zgn R)) (zOc (23, 0, 0)) else if (zhdt R).1 = 39 then zSq (zcnd (zone j) (zgn R)) (zNl (zexp 40)) else if (zhdt R).1 = 24 ∨ (zhdt R).1 = 25 ∨ (zhdt R).1 = 26 then zats R else zacm R
/-! frames and appended codes -/
def zFg (lo hi : Nat) (J : Nat → Prop) (σ τ : zH) : Prop := zK τ = zK σ ∧ zN τ = zN σ ∧ zX τ = zX σ ∧ zL τ = zL σ ∧ zQ τ = zQ σ ∧ (∀ a, a ≠ 9 → zS τ a = zS σ a) ∧ (∀ a, a ≠ 9 → (a < lo ∨ hi ≤ a) → zI τ a = zI σ a ∧ zJ τ a = zJ σ a ∧ zA τ a = zA σ a ∧ zB τ a = zB σ a) ∧ ∀ i, ¬ J i → zI τ 9 i = zI σ 9 i
def zJ4 (i : Nat) : Prop := i = 1 ∨ i = 2 ∨ i = 5 ∨ i = 6
theorem zFg_r (lo hi : Nat) (J : Nat → Prop) (σ : zH) : zFg lo hi J σ σ := ⟨rfl, rfl, rfl, rfl, rfl, fun _ _ => rfl, fun _ _ _ => ⟨rfl, rfl, rfl, rfl⟩, fun _ _ => rfl⟩
theorem zFg_t {lo hi : Nat} {J : Nat → Prop} {σ τ υ : zH} (h1 : zFg lo hi J σ τ) (h2 : zFg lo hi J τ υ) : zFg lo hi J σ υ := by
  obtain ⟨a1, a2, a3, a4, a5, a6, a7, a8⟩ := h1
  obtain ⟨b1, b2, b3, b4, b5, b6, b7, b8⟩ := h2
  refine ⟨b1.trans a1, b2.trans a2, b3.trans a3, b4.trans a4, b5.trans a5, fun a h => (b6 a h).trans (a6 a h), fun a h h' => ?_, fun i h => (b8 i h).trans (a8 i h)⟩
  have x := a7 a h h'
  have y := b7 a h h'
  exact ⟨y.1.trans x.1, y.2.1.trans x.2.1, y.2.2.1.trans x.2.2.1, y.2.2.2.trans x.2.2.2⟩
theorem zFg_m {lo hi lo' hi' : Nat} {J K : Nat → Prop} {σ τ : zH} (h : zFg lo hi J σ τ) (h1 : lo' ≤ lo) (h2 : hi ≤ hi') (hk : ∀ i, J i → K i) : zFg lo' hi' K σ τ := by
  obtain ⟨a1, a2, a3, a4, a5, a6, a7, a8⟩ := h
  exact ⟨a1, a2, a3, a4, a5, a6, fun a h h' => a7 a h (by omega), fun i hi => a8 i (fun q => hi (hk i q))⟩
theorem zFg_c {lo hi : Nat} {J : Nat → Prop} {σ τ : zH} (h : zFc J σ τ) : zFg lo hi J σ τ := by
  obtain ⟨⟨a1, a2, a3, a4, a5⟩, b, c⟩ := h
  refine ⟨a1, a2, a3, a4, ?_, fun a h => (a5 a (by omega)).2.2.2.2.2, fun a h h' => ?_, c⟩
  · funext a
    by_cases h : a = 9
    · rw [h, b]
    · exact (a5 a (by omega)).2.2.1
  · have x := a5 a (by omega)
    exact ⟨x.1, x.2.1, x.2.2.2.1, x.2.2.2.2.1⟩
theorem zTks_g {lo hi : Nat} {J : Nat → Prop} {σ τ : zH} (h : zFg lo hi J σ τ) (hl : 13 < lo) {T : List zTok} (hT : zTks σ T) : zTks τ T := by
  obtain ⟨a1, a2, a3, a4, a5, a6, a7, a8⟩ := h
  unfold zTks zTkb at *
  rw [a1, a2, a5, (a7 10 (by omega) (by omega)).1, (a7 11 (by omega) (by omega)).2.2.1, (a7 12 (by omega) (by omega)).2.2.1, (a7 13 (by omega) (by omega)).2.2.1]
  exact hT
theorem zCo_g {lo hi : Nat} {J : Nat → Prop} {σ τ : zH} (h : zFg lo hi J σ τ) {o : Nat} (hO : zCo σ o) : zCo τ o := by
  obtain ⟨a1, a2, a3, a4, a5, a6, a7, a8⟩ := h
  unfold zCo at *
  rw [a1, a2, a5]
  exact hO
/-- rows of the Conditions at o are as they were below m -/
def zKr (o m : Nat) (σ τ : zH) : Prop := ∀ a, o < a → a < o + 4 → ∀ i, i < m → zA τ a i = zA σ a i
theorem zCls_k {o m : Nat} {σ τ : zH} (h : zKr o m σ τ) : ∀ (cs : List zCd) (i : Nat), i + cs.length ≤ m → zCls σ o i cs → zCls τ o i cs
  | [], _, _, _ => trivial
  | c :: cs, i, hi, hc => by
    simp only [List.length_cons] at hi
    obtain ⟨⟨h1, h2, h3⟩, h4⟩ := hc
    refine ⟨⟨?_, ?_, ?_⟩, zCls_k h cs (i + 1) (by omega) h4⟩
    · rw [h (o + 1) (by omega) (by omega) i (by omega)]; exact h1
    · rw [h (o + 2) (by omega) (by omega) i (by omega)]; exact h2
    · rw [h (o + 3) (by omega) (by omega) i (by omega)]; exact h3
theorem zCls_app {o : Nat} {σ : zH} : ∀ (cs ds : List zCd) (i : Nat), zCls σ o i cs → zCls σ o (i + cs.length) ds → zCls σ o i (cs ++ ds)
  | [], ds, i, _, h => h
  | c :: cs, ds, i, h1, h2 => ⟨h1.1, zCls_app cs ds (i + 1) h1.2 (by simp only [List.length_cons] at h2; rw [show i + 1 + cs.length = i + (cs.length + 1) by omega]; exact h2)⟩
/-- from σ to τ the codes of r were put behind the first m -/
def zAd (T : List zTok) (n o m m' : Nat) (σ τ : zH) (r : zPC) : Prop := zRS τ T n (zPq r) ∧ zFg o (o + 4) zJ4 σ τ ∧ zKr o m σ τ ∧ m ≤ m' ∧ m' ≤ 450 ∧ zI τ o 3 = nI m' ∧ ∀ cs R, r = .ok (cs, R) → m + cs.length ≤ 450 → m' = m + cs.length ∧ zCls τ o m cs
theorem zAd_s {T : List zTok} {n o m m1 m2 : Nat} {σ τ υ : zH} {r : zPC} {g : List zTok → zPC} (h1 : zAd T n o m m1 σ τ r) (h2 : zAd T n o m1 m2 τ υ ((zPq r).bind g)) : zAd T n o m m2 σ υ (zSq r g) := by
  obtain ⟨a1, a2, a3, a4, a5, a6, a7⟩ := h1
  obtain ⟨b1, b2, b3, b4, b5, b6, b7⟩ := h2
  refine ⟨?_, zFg_t a2 b2, fun a l h i hi => (b3 a l h i (by omega)).trans (a3 a l h i hi), by omega, b5, b6, fun cs R hr hc => ?_⟩
  · cases r with
    | error e => exact b1
    | ok a =>
      obtain ⟨cs, R⟩ := a
      simp only [zSq]
      have e : (zPq (Except.ok (cs, R))).bind g = g R := rfl
      rw [e] at b1
      cases hg : g R with
      | error e => rw [hg] at b1; exact b1
      | ok c => rw [hg] at b1; exact b1
  · cases r with
    | error e => cases hr
    | ok a =>
      obtain ⟨c1, R1⟩ := a
      simp only [zSq] at hr
      have e : (zPq (Except.ok (c1, R1))).bind g = g R1 := rfl
      rw [e] at b7
      cases hg : g R1 with
      | error e => rw [hg] at hr; cases hr
      | ok c =>
        obtain ⟨c2, R2⟩ := c
        rw [hg] at hr
        simp only [Except.ok.injEq, Prod.mk.injEq] at hr
        obtain ⟨rfl, rfl⟩ := hr
        simp only [List.length_append] at hc ⊢
        obtain ⟨x1, x2⟩ := a7 c1 R1 rfl (by omega)
        obtain ⟨y1, y2⟩ := b7 c2 R2 hg (by omega)
        refine ⟨by omega, zCls_app _ _ _ (zCls_k b3 _ _ (by omega) x2) (by rw [← x1]; exact y2)⟩
theorem zAd_0 {T : List zTok} {n o m : Nat} {σ τ : zH} {s : zPs} {f : List zTok → zPs} (ho : 13 < o) (hm : m ≤ 450) (hi : zI σ o 3 = nI m) (h1 : zRS τ T n (s.bind f)) (h2 : zFc zJ4 σ τ) : zAd T n o m m σ τ (s.bind (zNl f)) := by
  have hF : zFg o (o + 4) zJ4 σ τ := zFg_c h2
  have hx := h2.1.2.2.2.2
  refine ⟨?_, hF, fun a l h i hi => by rw [(hx a (by omega)).2.2.2.1], Nat.le_refl _, hm, by rw [(hx o (by omega)).1]; exact hi, fun cs R hr hc => ?_⟩
  · cases s with
    | error e => exact h1
    | ok R =>
      have e1 : (Except.ok R : zPs).bind f = f R := rfl
      have e2 : (Except.ok R : zPs).bind (zNl f) = zNl f R := rfl
      rw [e1] at h1
      rw [e2]
      unfold zNl
      cases hf : f R with
      | error e => rw [hf] at h1; exact h1
      | ok R' => rw [hf] at h1; exact h1
  · cases s with
    | error e => cases hr
    | ok R1 =>
      have e2 : (Except.ok R1 : zPs).bind (zNl f) = zNl f R1 := rfl
      rw [e2] at hr
      unfold zNl at hr
      cases hf : f R1 with
      | error e => rw [hf] at hr; cases hr
      | ok R' =>
        rw [hf] at hr
        simp only [Except.ok.injEq, Prod.mk.injEq] at hr
        obtain ⟨rfl, rfl⟩ := hr
        exact ⟨rfl, trivial⟩
theorem zRS_c {T : List zTok} {n : Nat} {σ τ : zH} {lo hi : Nat} {J : Nat → Prop} (hl : 13 < lo) (h : zFg lo hi J σ τ) (hJ : ¬ J 1 ∧ ¬ J 2 ∧ ¬ J 5 ∧ ¬ J 6) {s : zPs} (hS : zRS σ T n s) : zRS τ T n s := by
  have hk := h.1
  have hq := h.2.2.2.2.1
  have h9 := h.2.2.2.2.2.2.2
  have cu : ∀ R, zCu σ T R → zCu τ T R := by
    intro R hc
    obtain ⟨c1, c2, c3, c4, c5, t, c6, c7, c8⟩ := hc
    exact ⟨by rw [hk]; exact c1, by rw [hq]; exact c2, zTks_g h hl c3, c4, by rw [h9 2 hJ.2.1]; exact c5, t, c6, c7, by rw [h9 1 hJ.1]; exact c8⟩
  cases s with
  | error e => exact ⟨cu _ hS.1, by rw [h9 5 hJ.2.2.1]; exact hS.2.1, by rw [h9 6 hJ.2.2.2]; exact hS.2.2.1, hS.2.2.2⟩
  | ok R => exact ⟨cu _ hS.1, by rw [h9 5 hJ.2.2.1]; exact hS.2⟩
/-- one place of a row -/
theorem zA_sA (σ : zH) (a m b i : Nat) (v : Int32) : zA (zsA σ a m v) b i = if b = a ∧ i = m then v else zA σ b i := rfl
theorem zI_sA (σ : zH) (a m : Nat) (v : Int32) : zI (zsA σ a m v) = zI σ := rfl
set_option maxHeartbeats 1000000 in
theorem p_cadd {d n o m : Nat} {σ : zH} {T : List zTok} {s : zPs} {c : zCd} {x1 x2 x3 : Int32} (ho : 13 < o) (hO : zCo σ o) (hm : m ≤ 450) (hi : zI σ o 3 = nI m) (hS : zRS σ T n s) (hx : ∀ R, s = .ok R → x1 = nI c.1 ∧ x2 = nI c.2.1 ∧ x3 = nI c.2.2) {Q : Option Value → zH → Prop} (hQ : ∀ τ m', zAd T n o m m' σ τ (s.bind (zOc c)) → Q none τ) : zM d 1 [.ref o, .int x1, .int x2, .int x3] σ Q := by
  have hO' := hO
  obtain ⟨o1, o2, o3, o4, o5, o6, o7, o8, o9, o10⟩ := hO
  refine b1 ?_
  rw [o1, hi, o2, o3, o4, o5, o6, o7, o8, o9, o10]
  refine ⟨rfl, ?_⟩
  have hP : zPq (s.bind (zOc c)) = s := by cases s <;> rfl
  by_cases h : 450 ≤ m
  · rw [if_pos (nI_le h (by omega))]
    refine hQ σ m ⟨by rw [hP]; exact hS, zFg_r _ _ _ σ, fun _ _ _ _ _ => rfl, Nat.le_refl _, hm, hi, fun cs R hr hc => ?_⟩
    cases s with
    | error e => cases hr
    | ok R1 =>
      have e2 : (Except.ok R1 : zPs).bind (zOc c) = .ok ([c], R1) := rfl
      rw [e2] at hr
      simp only [Except.ok.injEq, Prod.mk.injEq] at hr
      obtain ⟨rfl, rfl⟩ := hr
      simp only [List.length_cons, List.length_nil] at hc
      omega
  · rw [if_neg (nI_ge (by omega) (by omega)), zcl m (by omega), nI_add]
    refine ⟨rfl, vp_in_nI (by omega) (by omega), rfl, vp_in_nI (by omega) (by omega), rfl, vp_in_nI (by omega) (by omega), ?_⟩
    have hF : zFg o (o + 4) (fun _ => False) σ (zsI (zsA (zsA (zsA σ (o + 1) m x1) (o + 2) m x2) (o + 3) m x3) o 3 (nI (m + 1))) := by
      refine ⟨rfl, rfl, rfl, rfl, rfl, fun _ _ => rfl, fun a h9 ha => ⟨?_, rfl, ?_, rfl⟩, fun i _ => ?_⟩
      · funext i
        simp only [zh, zI_sA]
        rw [if_neg (by omega)]
      · funext i
        simp only [zh, zA_sA]
        rw [if_neg (by omega), if_neg (by omega), if_neg (by omega)]
      · simp only [zh, zI_sA]
        rw [if_neg (by omega)]
    refine hQ _ (m + 1) ⟨by rw [hP]; exact zRS_c ho hF ⟨id, id, id, id⟩ hS, zFg_m hF (Nat.le_refl _) (Nat.le_refl _) (fun _ h => h.elim), fun a l1 l2 i hi => ?_, by omega, by omega, ?_, fun cs R hr hc => ?_⟩
    · simp only [zh, zA_sA]
      rw [if_neg (by omega), if_neg (by omega), if_neg (by omega)]
    · simp only [zh]
      simp
    · cases s with
      | error e => cases hr
      | ok R1 =>
        have e2 : (Except.ok R1 : zPs).bind (zOc c) = .ok ([c], R1) := rfl
        rw [e2] at hr
        simp only [Except.ok.injEq, Prod.mk.injEq] at hr
        obtain ⟨rfl, rfl⟩ := hr
        obtain ⟨q1, q2, q3⟩ := hx R1 rfl
        refine ⟨rfl, ⟨?_, ?_, ?_⟩, trivial⟩
        · simp only [zh, zA_sA]; simp [q1]
        · simp only [zh, zA_sA]; simp [q2]
        · simp only [zh, zA_sA]; simp [q3]
theorem p_goonS {d n : Nat} {σ : zH} {T : List zTok} {s : zPs} (hS : zRS σ T n s) {Q : Option Value → zH → Prop} (hQ : ∀ τ, zRS τ T n (s.bind (fun R => .ok (zgn R))) → zFc zJ4 σ τ → Q none τ) : zM d 18 [.ref 9] σ Q := by
  cases s with
  | error e =>
    obtain ⟨h1, h2, h3, h4⟩ := hS
    refine p_goon h1 (fun τ g1 g2 => hQ τ ⟨g1, ?_, ?_, h4⟩ (zFc_m g2 (by unfold zJ4; omega)))
    · rw [g2.2.2 5 (by omega)]; exact h2
    · rw [g2.2.2 6 (by omega)]; exact h3
  | ok R =>
    obtain ⟨h1, h2⟩ := hS
    refine p_goon h1 (fun τ g1 g2 => hQ τ ⟨g1, ?_⟩ (zFc_m g2 (by unfold zJ4; omega)))
    rw [g2.2.2 5 (by omega)]; exact h2
