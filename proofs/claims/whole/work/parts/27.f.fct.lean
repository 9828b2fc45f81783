/-! what the spec's readers answer -/
theorem zSqp_ok {r : zPv} {f : Nat → List zTok → zPv} {b : Nat × List zTok} (h : zSqp r f = .ok b) : ∃ v R, r = .ok (v, R) ∧ f v R = .ok b := by
  cases r with
  | error e => cases h
  | ok a => exact ⟨a.1, a.2, rfl, h⟩
theorem zSqc_ok {r : zPv} {f : Nat → List zTok → zPC} {b : List zCd × List zTok} (h : zSqc r f = .ok b) : ∃ v R, r = .ok (v, R) ∧ f v R = .ok b := by
  cases r with
  | error e => cases h
  | ok a => exact ⟨a.1, a.2, rfl, h⟩
theorem zSqt_ok {r : zPv} {f : Nat → List zTok → zPp} {b : (Nat × Nat × Nat × Nat) × List zTok} (h : zSqt r f = .ok b) : ∃ v R, r = .ok (v, R) ∧ f v R = .ok b := by
  cases r with
  | error e => cases h
  | ok a => exact ⟨a.1, a.2, rfl, h⟩
theorem zSq_ok {r : zPC} {g : List zTok → zPC} {b : List zCd × List zTok} (h : zSq r g = .ok b) : ∃ c1 R1 c2, r = .ok (c1, R1) ∧ g R1 = .ok (c2, b.2) ∧ b.1 = c1 ++ c2 := by
  cases r with
  | error e => cases h
  | ok a =>
    obtain ⟨c1, R1⟩ := a
    simp only [zSq] at h
    cases hg : g R1 with
    | error e => rw [hg] at h; cases h
    | ok c =>
      rw [hg] at h
      simp only [Except.ok.injEq] at h
      subst h
      exact ⟨c1, R1, c.1, rfl, hg, rfl⟩
theorem znum_ok {lo hi : Nat} {R : List zTok} {v : Nat} {R' : List zTok} (h : znum lo hi R = .ok (v, R')) : (zhdt R).1 = 36 ∧ lo ≤ v ∧ v ≤ hi ∧ v = (zhdt R).2.1 ∧ R' = zgn R := by
  unfold znum at h
  split at h
  · split at h
    · simp only [Except.ok.injEq, Prod.mk.injEq] at h
      obtain ⟨rfl, rfl⟩ := h
      rename_i a b
      exact ⟨a, b.1, b.2, rfl, rfl⟩
    · cases h
  · cases h
theorem zpile_ok {fb : Nat} {R : List zTok} {v : Nat} {R' : List zTok} (h : zpile fb R = .ok (v, R')) : 17 ≤ (zhdt R).1 ∧ (zhdt R).1 < 21 ∧ v = (zhdt R).1 - 17 ∧ v ≠ fb ∧ v < 4 ∧ R' = zgn R := by
  unfold zpile at h
  split at h
  · split at h
    · cases h
    · simp only [Except.ok.injEq, Prod.mk.injEq] at h
      obtain ⟨rfl, rfl⟩ := h
      rename_i a b
      exact ⟨a.1, a.2, rfl, b, by omega, rfl⟩
  · cases h
theorem zprp_ok {R : List zTok} {v : Nat} {R' : List zTok} (h : zprp R = .ok (v, R')) : 31 ≤ (zhdt R).1 ∧ (zhdt R).1 ≤ 33 ∧ v = (zhdt R).1 ∧ R' = zgn R := by
  unfold zprp at h
  split at h
  · simp only [Except.ok.injEq, Prod.mk.injEq] at h
    obtain ⟨rfl, rfl⟩ := h
    rename_i a
    exact ⟨a.1, a.2, rfl, rfl⟩
  · cases h
theorem zexp_ok {k : Nat} {R R' : List zTok} (h : zexp k R = .ok R') : (zhdt R).1 = k ∧ R' = zgn R := by
  unfold zexp at h
  split at h
  · simp only [Except.ok.injEq] at h
    rename_i a
    exact ⟨a, h.symm⟩
  · cases h
theorem ztgt_ok {fb : Nat} {R : List zTok} {v : Nat} {R' : List zTok} (h : ztgt fb R = .ok (v, R')) : (zhdt R).1 = 14 ∧ zpile fb (zgn R) = .ok (v, R') := by
  unfold ztgt at h
  cases hz : zexp 14 R with
  | error e => rw [hz] at h; cases h
  | ok R1 =>
    rw [hz] at h
    obtain ⟨a, rfl⟩ := zexp_ok hz
    exact ⟨a, h⟩
theorem zfon_ok {lo : Nat} {R : List zTok} {v : Nat} {R' : List zTok} (h : zfon lo R = .ok (v, R')) : ((zhdt R).1 = 16 ∨ (zhdt R).1 = 36) ∧ (v = 11 ∨ (lo ≤ v ∧ v ≤ 9)) ∧ R' = zgn R := by
  unfold zfon at h
  split at h
  · simp only [Except.ok.injEq, Prod.mk.injEq] at h
    obtain ⟨rfl, rfl⟩ := h
    rename_i a
    exact ⟨Or.inl a, Or.inl rfl, rfl⟩
  · obtain ⟨a, b, c, d, e⟩ := znum_ok h
    exact ⟨Or.inr a, Or.inr ⟨b, c⟩, e⟩
theorem zman_ok {R : List zTok} {v : Nat} {R' : List zTok} (h : zman R = .ok (v, R')) : ((zhdt R).1 = 15 ∨ (zhdt R).1 = 16 ∨ (zhdt R).1 = 36) ∧ v ≤ 11 ∧ R' = zgn R := by
  unfold zman at h
  split at h
  · simp only [Except.ok.injEq, Prod.mk.injEq] at h
    obtain ⟨rfl, rfl⟩ := h
    rename_i a
    exact ⟨Or.inl a, by omega, rfl⟩
  · obtain ⟨a, b, c⟩ := zfon_ok h
    exact ⟨by omega, by omega, c⟩
theorem zfin_ok {t : Nat × Nat × Nat × Nat} {R : List zTok} {b : (Nat × Nat × Nat × Nat) × List zTok} (h : zfin t R = .ok b) : (zhdt R).1 = 41 ∧ b = (t, zgn R) := by
  unfold zfin at h
  cases hz : zexp 41 R with
  | error e => rw [hz] at h; cases h
  | ok R1 =>
    rw [hz] at h
    obtain ⟨a, rfl⟩ := zexp_ok hz
    simp only [Except.ok.injEq] at h
    exact ⟨a, h.symm⟩
theorem znm_vn {R : List zTok} {v : Nat} {R' : List zTok} (h : znm R = .ok (v, R')) : zvn v := by
  unfold znm at h
  split at h
  · obtain ⟨x, R1, h1, h2⟩ := zSqp_ok h
    simp only [Except.ok.injEq, Prod.mk.injEq] at h2
    obtain ⟨-, -, c, -⟩ := znum_ok h1
    exact Or.inl ⟨x, c, by omega⟩
  · split at h
    · rename_i hk
      obtain ⟨p, R1, h1, h2⟩ := zSqp_ok h
      obtain ⟨-, -, -, -, hp, -⟩ := zpile_ok h1
      split at h2
      · simp only [Except.ok.injEq, Prod.mk.injEq] at h2
        exact Or.inr (Or.inl ⟨(zhdt R).1, p, hk.1, by omega, hp, h2.1.symm⟩)
      · obtain ⟨i, R2, h3, h4⟩ := zSqp_ok h2
        simp only [Except.ok.injEq, Prod.mk.injEq] at h4
        obtain ⟨-, b, c, -⟩ := znum_ok h3
        exact Or.inr (Or.inr ⟨(zhdt R).1, p, i, by omega, by omega, hp, b, c, h4.1.symm⟩)
    · cases h
theorem zpln_sw {w : Nat} (hw : w ≤ 10) {R : List zTok} {p q g h : Nat} {R' : List zTok} (hz : zpln w R = .ok ((p, q, g, h), R')) : zSw w p q g h := by
  unfold zpln at hz
  obtain ⟨p', R1, h1, hz⟩ := zSqt_ok hz
  obtain ⟨q', R2, h2, hz⟩ := zSqt_ok hz
  obtain ⟨h', R3, h3, hz⟩ := zSqt_ok hz
  obtain ⟨g', R4, h4, hz⟩ := zSqt_ok hz
  obtain ⟨-, hz⟩ := zfin_ok hz
  simp only [Prod.mk.injEq] at hz
  obtain ⟨⟨rfl, rfl, rfl, rfl⟩, -⟩ := hz
  obtain ⟨-, -, -, -, hp, -⟩ := zpile_ok h1
  unfold zrd2 at h2
  unfold zrd3 at h3
  unfold zrd4 at h4
  have f2 : (w = 6 ∨ w = 7 ∨ w = 9) → q < 4 ∧ q ≠ p := by
    intro c
    rw [if_pos c] at h2
    obtain ⟨-, -, -, a, b, -⟩ := zpile_ok h2
    exact ⟨b, a⟩
  have f3 : h ≤ 11 ∧ ((w = 3 ∨ w = 5 ∨ w = 10) → 1 ≤ h ∧ h ≠ 10) ∧ ((w = 6 ∨ w = 7 ∨ w = 8 ∨ w = 9) → h = 0) := by
    split at h3
    · obtain ⟨-, b, -⟩ := zman_ok h3
      exact ⟨b, by omega, by omega⟩
    · split at h3
      · obtain ⟨-, b, -⟩ := zfon_ok h3
        exact ⟨by omega, by omega, by omega⟩
      · simp only [Except.ok.injEq, Prod.mk.injEq] at h3
        exact ⟨by omega, by omega, by omega⟩
  have f4 : ((w = 1 ∨ w = 2 ∨ w = 3 ∨ w = 6 ∨ w = 7 ∨ w = 8) → g < 4) ∧ ((w = 1 ∨ w = 2 ∨ w = 3 ∨ w = 8) → p ≠ g) := by
    split at h4
    · obtain ⟨-, h4⟩ := ztgt_ok h4
      obtain ⟨-, -, -, a, b, -⟩ := zpile_ok h4
      exact ⟨fun _ => b, fun _ => fun e => a e.symm⟩
    · split at h4
      · obtain ⟨-, h4⟩ := ztgt_ok h4
        obtain ⟨-, -, -, a, b, -⟩ := zpile_ok h4
        exact ⟨fun _ => b, by omega⟩
      · exact ⟨by omega, by omega⟩
  exact ⟨hw, hp, fun c => ⟨(f2 c).1, fun e => (f2 c).2 e.symm⟩, f4.1, f4.2, f3.1, f3.2.1, f3.2.2⟩
/-- codes that push one value: K places high at most -/
def zCk (K : Nat) (cs : List zCd) : Prop := (∀ c ∈ cs, zvc c) ∧ (∀ n r, n + K ≤ 29 → zsafe r (n + 1) → zsafe (cs ++ r) n) ∧ ∃ C : (zCd → Bool) → Bool, ∀ g r st, zev g (cs ++ r) st = zev g r (C g :: st)
def zGd (K : Nat) (f : List zTok → zPC) : Prop := ∀ R cs R', f R = .ok (cs, R') → zCk K cs
theorem zCk_m {K L : Nat} {cs : List zCd} (h : zCk K cs) (hl : K ≤ L) : zCk L cs := ⟨h.1, fun n r a b => h.2.1 n r (by omega) b, h.2.2⟩
theorem zCk_1 {c : zCd} (h : zvc c) (hc : c.1 ≠ 21 ∧ c.1 ≠ 22 ∧ c.1 ≠ 23) : zCk 1 [c] := by
  refine ⟨fun d hd => ?_, fun n r h1 h2 => ?_, fun g => g c, fun g r st => ?_⟩
  · simp only [List.mem_singleton] at hd
    rw [hd]; exact h
  · simp only [List.singleton_append, zsafe]
    rw [if_neg (by omega), if_neg (by omega)]
    exact ⟨by omega, h2⟩
  · simp only [List.singleton_append, zev, zop]
    rw [if_neg (by omega), if_neg (by omega), if_neg (by omega)]
theorem zCk_b {K k : Nat} {c1 c2 : List zCd} (hk : k = 21 ∨ k = 22) (h1 : zCk (K + 1) c1) (h2 : zCk K c2) : zCk (K + 1) (c1 ++ (c2 ++ [(k, 0, 0)])) := by
  obtain ⟨a1, a2, C1, a3⟩ := h1
  obtain ⟨b1, b2, C2, b3⟩ := h2
  refine ⟨fun c hc => ?_, fun n r hn hr => ?_, ?_⟩
  · simp only [List.mem_append, List.mem_singleton] at hc
    rcases hc with hc | hc | rfl
    · exact a1 c hc
    · exact b1 c hc
    · exact Or.inl (by rcases hk with rfl | rfl <;> simp)
  · simp only [List.append_assoc, List.singleton_append]
    refine a2 n _ (by omega) (b2 (n + 1) _ (by omega) ?_)
    simp only [zsafe]
    rw [if_pos (by omega)]
    exact ⟨by omega, by simpa using hr⟩
  · rcases hk with rfl | rfl
    · refine ⟨fun g => C1 g || C2 g, fun g r st => ?_⟩
      simp only [List.append_assoc, List.singleton_append]
      rw [a3, b3]
      rfl
    · refine ⟨fun g => C1 g && C2 g, fun g r st => ?_⟩
      simp only [List.append_assoc, List.singleton_append]
      rw [a3, b3]
      rfl
theorem zCk_n {K : Nat} {c1 : List zCd} (h1 : zCk K c1) : zCk K (c1 ++ [(23, 0, 0)]) := by
  obtain ⟨a1, a2, C1, a3⟩ := h1
  refine ⟨fun c hc => ?_, fun n r hn hr => ?_, fun g => !C1 g, fun g r st => ?_⟩
  · simp only [List.mem_append, List.mem_singleton] at hc
    rcases hc with hc | rfl
    · exact a1 c hc
    · exact Or.inl (by simp)
  · simp only [List.append_assoc, List.singleton_append]
    refine a2 n _ (by omega) ?_
    simp only [zsafe]
    rw [if_neg (by omega), if_pos trivial]
    exact ⟨by omega, hr⟩
  · simp only [List.append_assoc, List.singleton_append]
    rw [a3]
    rfl
theorem zlop_gd {K k : Nat} {f : List zTok → zPC} (hk : k = 21 ∨ k = 22) (hf : zGd K f) : ∀ (c : Nat) (R : List zTok) (c0 ds : List zCd) (R' : List zTok), zCk (K + 1) c0 → zlop f k c R = .ok (ds, R') → zCk (K + 1) (c0 ++ ds)
  | 0, R, c0, ds, R', h0, h => by
    simp only [zlop, Except.ok.injEq, Prod.mk.injEq] at h
    rw [← h.1, List.append_nil]
    exact h0
  | c + 1, R, c0, ds, R', h0, h => by
    rw [zlop] at h
    split at h
    · obtain ⟨d1, R1, d2, e1, e2, e3⟩ := zSq_ok h
      obtain ⟨d3, R3, d4, e4, e5, e6⟩ := zSq_ok e1
      simp only [zOc, Except.ok.injEq, Prod.mk.injEq] at e5 e6 e3
      rw [e3, e6, ← List.append_assoc]
      have := zCk_b hk h0 (hf _ _ _ e4)
      rw [e5.1] at this
      exact zlop_gd hk hf c R1 _ d2 R' this e2
    · simp only [Except.ok.injEq, Prod.mk.injEq] at h
      rw [← h.1, List.append_nil]
      exact h0
theorem zsq_gd {K k : Nat} {f : List zTok → zPC} (hk : k = 21 ∨ k = 22) (hf : zGd K f) : zGd (K + 1) (fun R => zSq (f R) (zlop f k 900)) := by
  intro R cs R' h
  obtain ⟨c1, R1, c2, e1, e2, e3⟩ := zSq_ok h
  simp only at e3
  rw [e3]
  exact zlop_gd hk hf 900 R1 c1 c2 R' (zCk_m (hf _ _ _ e1) (by omega)) e2
theorem zcnd_gd {K : Nat} {f : List zTok → zPC} (hf : zGd K f) : zGd (K + 2) (zcnd f) := zsq_gd (Or.inl rfl) (zsq_gd (Or.inr rfl) hf)
theorem zacm_gd : zGd 1 zacm := by
  intro R cs R' h
  unfold zacm at h
  obtain ⟨a, R1, h1, h⟩ := zSqc_ok h
  split at h
  · rename_i hk
    obtain ⟨b, R2, h2, h⟩ := zSqc_ok h
    simp only [Except.ok.injEq, Prod.mk.injEq] at h
    rw [← h.1]
    exact zCk_1 (Or.inr (Or.inr (Or.inr (Or.inr ⟨hk.1, hk.2, znm_vn h1, znm_vn h2⟩)))) (by simp only; omega)
  · cases h
theorem zats_gd {R : List zTok} (hk : (zhdt R).1 = 24 ∨ (zhdt R).1 = 25 ∨ (zhdt R).1 = 26) {cs : List zCd} {R' : List zTok} (h : zats R = .ok (cs, R')) : zCk 1 cs := by
  unfold zats at h
  obtain ⟨g, R1, h1, h⟩ := zSqc_ok h
  obtain ⟨pr, R2, h2, h⟩ := zSqc_ok h
  obtain ⟨p, R3, h3, h⟩ := zSqc_ok h
  simp only [Except.ok.injEq, Prod.mk.injEq] at h
  rw [← h.1]
  obtain ⟨-, -, -, -, hp, -⟩ := zpile_ok h3
  refine zCk_1 ?_ (by simp only; omega)
  unfold zvc
  simp only
  rcases hk with hk | hk | hk
  · rw [hk] at h1 h2
    rw [if_neg (by omega)] at h1 h2
    obtain ⟨a, b, c, -⟩ := zprp_ok h2
    simp only [Except.ok.injEq, Prod.mk.injEq] at h1
    exact Or.inr (Or.inl ⟨hk, by omega, by omega, p, hp, by omega⟩)
  · rw [hk] at h1 h2
    rw [if_pos rfl] at h1
    rw [if_neg (by omega)] at h2
    obtain ⟨a, b, c, -⟩ := zprp_ok h2
    obtain ⟨-, d, e, -⟩ := znum_ok h1
    exact Or.inr (Or.inr (Or.inl ⟨hk, by omega, by omega, p, g, hp, d, e, rfl⟩))
  · rw [hk] at h1 h2
    rw [if_neg (by omega)] at h1
    rw [if_pos rfl] at h2
    simp only [Except.ok.injEq, Prod.mk.injEq] at h1 h2
    exact Or.inr (Or.inr (Or.inr (Or.inl ⟨hk, by omega, p, hp, by omega⟩)))
theorem zone_gd : ∀ j, zGd (2 * j + 1) (zone j)
  | 0 => by
    intro R cs R' h
    rw [zone] at h
    split at h
    · cases h
    · split at h
      · exact zats_gd (by assumption) h
      · exact zacm_gd _ _ _ h
  | j + 1 => by
    intro R cs R' h
    rw [zone] at h
    split at h
    · obtain ⟨c1, R1, c2, e1, e2, e3⟩ := zSq_ok h
      simp only [zOc, Except.ok.injEq, Prod.mk.injEq] at e2 e3
      rw [e3, ← e2.1]
      exact zCk_m (zCk_n (zone_gd j _ _ _ e1)) (by omega)
    · split at h
      · obtain ⟨c1, R1, c2, e1, e2, e3⟩ := zSq_ok h
        have e : c2 = [] := by
          unfold zNl at e2
          cases hz : zexp 40 R1 with
          | error e => rw [hz] at e2; cases e2
          | ok R3 =>
            rw [hz] at e2
            simp only [Except.ok.injEq, Prod.mk.injEq] at e2
            exact e2.1.symm
        simp only at e3
        rw [e3, e, List.append_nil]
        exact zCk_m (zcnd_gd (zone_gd j) _ _ _ e1) (by omega)
      · split at h
        · exact zCk_m (zats_gd (by assumption) h) (by omega)
        · exact zCk_m (zacm_gd _ _ _ h) (by omega)
theorem zcon_gd : zGd 19 zcon := fun R cs R' h => zcnd_gd (zone_gd 8) R cs R' h
theorem zCk_sf {cs : List zCd} (h : zCk 19 cs) : (∀ c ∈ cs, zvc c) ∧ zsafe cs 0 := by
  refine ⟨h.1, ?_⟩
  have := h.2.1 0 [] (by omega) trivial
  rw [List.append_nil] at this
  exact this
