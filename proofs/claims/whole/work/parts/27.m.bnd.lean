/-! how much room a text's codes and nodes want -/
def zplc (R : List zTok) : Nat := (zhdt R).2.2
def znd : List zCd → Nat
  | [] => 0
  | c :: cs => (if 42 ≤ c.1 then 3 else 1) + znd cs
theorem znd_app (a b : List zCd) : znd (a ++ b) = znd a + znd b := by
  induction a with
  | nil => simp [znd]
  | cons c a ih => simp only [List.cons_append, znd, ih]; omega
/-- it reads on, at least x bytes -/
def zAdv (n x : Nat) (R R' : List zTok) : Prop := zOrd n R' ∧ zplc R + x ≤ zplc R' ∧ R'.length ≤ R.length
theorem zAdv_t {n x y : Nat} {R R1 R2 : List zTok} (h1 : zAdv n x R R1) (h2 : zAdv n y R1 R2) : zAdv n (x + y) R R2 := ⟨h2.1, by have := h1.2.1; have := h2.2.1; omega, Nat.le_trans h2.2.2 h1.2.2⟩
theorem zAdv_m {n x y : Nat} {R R1 : List zTok} (h1 : zAdv n x R R1) (h : y ≤ x) : zAdv n y R R1 := ⟨h1.1, by have := h1.2.1; omega, h1.2.2⟩
theorem zAdv_r {n : Nat} {R : List zTok} (h : zOrd n R) : zAdv n 0 R R := ⟨h, Nat.le_refl _, Nat.le_refl _⟩
theorem zAdv_g {n k : Nat} {R : List zTok} (h : zOrd n R) (hk : (zhdt R).1 = k) (h9 : k ≠ 49) : zAdv n (zkl k) R (zgn R) := by
  obtain ⟨a, b, c⟩ := zOrd_g h (by omega)
  rw [hk] at b
  exact ⟨a, b, by omega⟩
theorem zkl_1 (k : Nat) : 1 ≤ zkl k := by unfold zkl; split <;> (try split) <;> omega
theorem zAdv_1 {n : Nat} {R : List zTok} (h : zOrd n R) (h9 : (zhdt R).1 ≠ 49) : zAdv n 1 R (zgn R) := zAdv_m (zAdv_g h rfl h9) (zkl_1 _)
theorem znum_adv {n lo hi : Nat} {R : List zTok} {v : Nat} {R' : List zTok} (hR : zOrd n R) (h : znum lo hi R = .ok (v, R')) : zAdv n 1 R R' := by
  obtain ⟨a, -, -, -, rfl⟩ := znum_ok h
  exact zAdv_1 hR (by omega)
theorem zpile_adv {n fb : Nat} {R : List zTok} {v : Nat} {R' : List zTok} (hR : zOrd n R) (h : zpile fb R = .ok (v, R')) : zAdv n 1 R R' := by
  obtain ⟨a, b, -, -, -, rfl⟩ := zpile_ok h
  exact zAdv_1 hR (by omega)
theorem zprp_adv {n : Nat} {R : List zTok} {v : Nat} {R' : List zTok} (hR : zOrd n R) (h : zprp R = .ok (v, R')) : zAdv n 1 R R' := by
  obtain ⟨a, b, -, rfl⟩ := zprp_ok h
  exact zAdv_1 hR (by omega)
theorem zexp_adv {n k : Nat} {R R' : List zTok} (hR : zOrd n R) (hk : k ≠ 49) (h : zexp k R = .ok R') : zAdv n 1 R R' := by
  obtain ⟨a, rfl⟩ := zexp_ok h
  exact zAdv_1 hR (by omega)
theorem ztgt_adv {n fb : Nat} {R : List zTok} {v : Nat} {R' : List zTok} (hR : zOrd n R) (h : ztgt fb R = .ok (v, R')) : zAdv n 1 R R' := by
  obtain ⟨a, b⟩ := ztgt_ok h
  have h1 := zAdv_1 hR (by omega)
  exact zAdv_m (zAdv_t h1 (zpile_adv h1.1 b)) (by omega)
theorem zfon_adv {n lo : Nat} {R : List zTok} {v : Nat} {R' : List zTok} (hR : zOrd n R) (h : zfon lo R = .ok (v, R')) : zAdv n 1 R R' := by
  obtain ⟨a, -, rfl⟩ := zfon_ok h
  exact zAdv_1 hR (by omega)
theorem zman_adv {n : Nat} {R : List zTok} {v : Nat} {R' : List zTok} (hR : zOrd n R) (h : zman R = .ok (v, R')) : zAdv n 1 R R' := by
  obtain ⟨a, -, rfl⟩ := zman_ok h
  exact zAdv_1 hR (by omega)
theorem znm_adv {n : Nat} {R : List zTok} {v : Nat} {R' : List zTok} (hR : zOrd n R) (h : znm R = .ok (v, R')) : zAdv n 1 R R' := by
  unfold znm at h
  split at h
  · obtain ⟨x, R1, h1, h2⟩ := zSqp_ok h
    simp only [Except.ok.injEq, Prod.mk.injEq] at h2
    rw [← h2.2]
    exact znum_adv hR h1
  · split at h
    · rename_i hk
      obtain ⟨p, R1, h1, h2⟩ := zSqp_ok h
      have a1 := zAdv_1 hR (by omega)
      have a2 := zAdv_t a1 (zpile_adv a1.1 h1)
      split at h2
      · simp only [Except.ok.injEq, Prod.mk.injEq] at h2
        rw [← h2.2]
        exact zAdv_m a2 (by omega)
      · obtain ⟨i, R2, h3, h4⟩ := zSqp_ok h2
        simp only [Except.ok.injEq, Prod.mk.injEq] at h4
        rw [← h4.2]
        exact zAdv_m (zAdv_t a2 (znum_adv a2.1 h3)) (by omega)
    · cases h
/-- codes and nodes against bytes -/
def zBd (n a b : Nat) (f : List zTok → zPC) : Prop := ∀ R cs R', zOrd n R → f R = .ok (cs, R') → zAdv n 0 R R' ∧ 5 * cs.length + 2 * zplc R + a ≤ 2 * zplc R' ∧ 5 * znd cs + 4 * zplc R ≤ 4 * zplc R' + b
theorem zacm_bd (n : Nat) : zBd n 1 3 zacm := by
  intro R cs R' hR h
  unfold zacm at h
  obtain ⟨a, R1, h1, h⟩ := zSqc_ok h
  have a1 := znm_adv hR h1
  split at h
  · rename_i hk
    obtain ⟨b, R2, h2, h⟩ := zSqc_ok h
    simp only [Except.ok.injEq, Prod.mk.injEq] at h
    have a2 := zAdv_t a1 (zAdv_1 a1.1 (by omega))
    have a3 := zAdv_t a2 (znm_adv a2.1 h2)
    rw [← h.1, ← h.2]
    have := a3.2.1
    refine ⟨zAdv_m a3 (by omega), ?_, ?_⟩
    · simp only [List.length_cons, List.length_nil]; omega
    · simp only [znd]
      split <;> omega
  · cases h
theorem zats_bd {n : Nat} {R : List zTok} (hk : (zhdt R).1 = 24 ∨ (zhdt R).1 = 25 ∨ (zhdt R).1 = 26) {cs : List zCd} {R' : List zTok} (hR : zOrd n R) (h : zats R = .ok (cs, R')) : zAdv n 0 R R' ∧ 5 * cs.length + 2 * zplc R + 1 ≤ 2 * zplc R' ∧ 5 * znd cs + 4 * zplc R ≤ 4 * zplc R' + 3 := by
  unfold zats at h
  obtain ⟨g, R1, h1, h⟩ := zSqc_ok h
  obtain ⟨pr, R2, h2, h⟩ := zSqc_ok h
  obtain ⟨p, R3, h3, h⟩ := zSqc_ok h
  simp only [Except.ok.injEq, Prod.mk.injEq] at h
  have a0 : zAdv n 3 R (zgn R) := by
    refine zAdv_m (zAdv_g hR rfl (by omega)) ?_
    unfold zkl
    rw [if_neg (by omega), if_pos (by omega)]
    omega
  have a1 : zAdv n 3 R R1 := by
    split at h1
    · exact zAdv_m (zAdv_t a0 (znum_adv a0.1 h1)) (by omega)
    · simp only [Except.ok.injEq, Prod.mk.injEq] at h1
      rw [← h1.2]; exact a0
  have a2 : zAdv n 3 R R2 := by
    split at h2
    · simp only [Except.ok.injEq, Prod.mk.injEq] at h2
      rw [← h2.2]; exact a1
    · exact zAdv_m (zAdv_t a1 (zprp_adv a1.1 h2)) (by omega)
  have a3 := zAdv_t a2 (zpile_adv a2.1 h3)
  rw [← h.1, ← h.2]
  have := a3.2.1
  refine ⟨zAdv_m a3 (by omega), ?_, ?_⟩
  · simp only [List.length_cons, List.length_nil]; omega
  · simp only [znd]
    split <;> omega
theorem zlop_bd {n k : Nat} {f : List zTok → zPC} (hk : k = 21 ∨ k = 22) (hf : zBd n 1 3 f) : ∀ c, zBd n 0 0 (zlop f k c)
  | 0 => by
    intro R cs R' hR h
    simp only [zlop, Except.ok.injEq, Prod.mk.injEq] at h
    rw [← h.1, ← h.2]
    exact ⟨zAdv_r hR, by simp, by simp [znd]⟩
  | c + 1 => by
    intro R cs R' hR h
    rw [zlop] at h
    split at h
    · rename_i hk'
      obtain ⟨d1, R1, d2, e1, e2, e3⟩ := zSq_ok h
      obtain ⟨d3, R3, d4, e4, e5, e6⟩ := zSq_ok e1
      simp only [zOc, Except.ok.injEq, Prod.mk.injEq] at e5 e6 e3
      have a0 : zAdv n 2 R (zgn R) := by
        refine zAdv_m (zAdv_g hR hk' (by omega)) ?_
        unfold zkl
        split
        · omega
        · rw [if_pos (by omega)]; omega
      obtain ⟨a1, a2, a3⟩ := hf _ _ _ a0.1 e4
      rw [e5.2] at a1 a2 a3
      obtain ⟨b1, b2, b3⟩ := zlop_bd hk hf c _ _ _ a1.1 e2
      simp only at b1 b2 b3
      rw [e3, e6, ← e5.1]
      have := a0.2.1
      refine ⟨zAdv_m (zAdv_t (zAdv_t a0 a1) b1) (by omega), ?_, ?_⟩
      · simp only [List.length_append, List.length_cons, List.length_nil]
        omega
      · simp only [znd_app, znd]
        rw [if_neg (by omega)]
        omega
    · simp only [Except.ok.injEq, Prod.mk.injEq] at h
      rw [← h.1, ← h.2]
      exact ⟨zAdv_r hR, by simp, by simp [znd]⟩
theorem zsq_bd {n k : Nat} {f : List zTok → zPC} (hk : k = 21 ∨ k = 22) (hf : zBd n 1 3 f) : zBd n 1 3 (fun R => zSq (f R) (zlop f k 900)) := by
  intro R cs R' hR h
  obtain ⟨c1, R1, c2, e1, e2, e3⟩ := zSq_ok h
  simp only at e3 e2
  obtain ⟨a1, a2, a3⟩ := hf _ _ _ hR e1
  obtain ⟨b1, b2, b3⟩ := zlop_bd hk hf 900 _ _ _ a1.1 e2
  rw [e3]
  refine ⟨zAdv_m (zAdv_t a1 b1) (by omega), ?_, ?_⟩
  · rw [List.length_append]; omega
  · rw [znd_app]; omega
theorem zcnd_bd {n : Nat} {f : List zTok → zPC} (hf : zBd n 1 3 f) : zBd n 1 3 (zcnd f) := zsq_bd (Or.inl rfl) (zsq_bd (Or.inr rfl) hf)
theorem zNl_ok {f : List zTok → zPs} {R : List zTok} {b : List zCd × List zTok} (h : zNl f R = .ok b) : b.1 = [] ∧ f R = .ok b.2 := by
  unfold zNl at h
  cases hz : f R with
  | error e => rw [hz] at h; cases h
  | ok R' =>
    rw [hz] at h
    simp only [Except.ok.injEq] at h
    rw [← h]
    exact ⟨rfl, rfl⟩
theorem zone_bd (n : Nat) : ∀ j, zBd n 1 3 (zone j)
  | 0 => by
    intro R cs R' hR h
    rw [zone] at h
    split at h
    · cases h
    · split at h
      · exact zats_bd (by assumption) hR h
      · exact zacm_bd n _ _ _ hR h
  | j + 1 => by
    intro R cs R' hR h
    rw [zone] at h
    split at h
    · rename_i hk
      obtain ⟨c1, R1, c2, e1, e2, e3⟩ := zSq_ok h
      simp only [zOc, Except.ok.injEq, Prod.mk.injEq] at e2 e3
      have a0 : zAdv n 3 R (zgn R) := zAdv_g hR hk (by omega)
      obtain ⟨a1, a2, a3⟩ := zone_bd n j _ _ _ a0.1 e1
      have := a0.2.1
      rw [e3, ← e2.1, ← e2.2]
      refine ⟨zAdv_m (zAdv_t a0 a1) (by omega), ?_, ?_⟩
      · simp only [List.length_append, List.length_cons, List.length_nil]; omega
      · simp only [znd_app, znd]
        rw [if_neg (by omega)]
        omega
    · split at h
      · rename_i hk
        obtain ⟨c1, R1, c2, e1, e2, e3⟩ := zSq_ok h
        obtain ⟨f1, f2⟩ := zNl_ok e2
        simp only at e3 f1 f2
        have a0 := zAdv_1 hR (by omega)
        obtain ⟨a1, a2, a3⟩ := zcnd_bd (zone_bd n j) _ _ _ a0.1 e1
        have a4 := zexp_adv a1.1 (by omega) f2
        have := a0.2.1
        have := a4.2.1
        rw [e3, f1, List.append_nil]
        exact ⟨zAdv_m (zAdv_t (zAdv_t a0 a1) a4) (by omega), by omega, by omega⟩
      · split at h
        · exact zats_bd (by assumption) hR h
        · exact zacm_bd n _ _ _ hR h
theorem zcon_bd (n : Nat) : zBd n 1 3 zcon := fun R cs R' hR h => zcnd_bd (zone_bd n 8) R cs R' hR h
theorem zpln_adv {n w : Nat} {R : List zTok} {t : Nat × Nat × Nat × Nat} {R' : List zTok} (hR : zOrd n R) (hz : zpln w R = .ok (t, R')) : zAdv n 0 R R' := by
  unfold zpln at hz
  obtain ⟨p', R1, h1, hz⟩ := zSqt_ok hz
  obtain ⟨q', R2, h2, hz⟩ := zSqt_ok hz
  obtain ⟨h', R3, h3, hz⟩ := zSqt_ok hz
  obtain ⟨g', R4, h4, hz⟩ := zSqt_ok hz
  obtain ⟨k, hz⟩ := zfin_ok hz
  simp only [Prod.mk.injEq] at hz
  have a1 := zpile_adv hR h1
  have a2 : zAdv n 0 R R2 := by
    unfold zrd2 at h2
    split at h2
    · exact zAdv_m (zAdv_t a1 (zpile_adv a1.1 h2)) (by omega)
    · simp only [Except.ok.injEq, Prod.mk.injEq] at h2
      rw [← h2.2]; exact zAdv_m a1 (by omega)
  have a3 : zAdv n 0 R R3 := by
    unfold zrd3 at h3
    split at h3
    · exact zAdv_m (zAdv_t a2 (zman_adv a2.1 h3)) (by omega)
    · split at h3
      · exact zAdv_m (zAdv_t a2 (zfon_adv a2.1 h3)) (by omega)
      · simp only [Except.ok.injEq, Prod.mk.injEq] at h3
        rw [← h3.2]; exact a2
  have a4 : zAdv n 0 R R4 := by
    unfold zrd4 at h4
    split at h4
    · exact zAdv_m (zAdv_t a3 (ztgt_adv a3.1 h4)) (by omega)
    · split at h4
      · exact zAdv_m (zAdv_t a3 (ztgt_adv a3.1 h4)) (by omega)
      · simp only [Except.ok.injEq, Prod.mk.injEq] at h4
        rw [← h4.2]; exact a3
  rw [hz.2]
  exact zAdv_m (zAdv_t a4 (zAdv_1 a4.1 (by omega))) (by omega)
