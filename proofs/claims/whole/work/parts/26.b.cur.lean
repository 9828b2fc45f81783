/-! the class's faults: the cursor, or the first fault -/
abbrev zPs : Type := Except (Nat × Nat) (List zTok)
def zflt (f : Nat) (R : List zTok) : Nat × Nat := (if (zhdt R).1 = 48 then 1 else f, (zhdt R).2.2)
def zexp (k : Nat) (R : List zTok) : zPs := if (zhdt R).1 = k then .ok (zgn R) else .error (zflt 2 R)
def zTok1 (T : List zTok) (n : Nat) : Prop := T.drop (T.length - 1) = [(49, 0, n)] ∧ ∀ t ∈ T, t.1 < 50 ∧ t.2.1 < 100 ∧ t.2.2 ≤ 900
def zRS (σ : zH) (T : List zTok) (n : Nat) : zPs → Prop
  | .ok R => zCu σ T R ∧ zI σ 9 5 = nI 0
  | .error e => zCu σ T [(49, 0, n)] ∧ zI σ 9 5 = nI e.1 ∧ zI σ 9 6 = nI e.2 ∧ 0 < e.1 ∧ e.1 < 10
theorem zCu_hd {σ : zH} {T R : List zTok} {n : Nat} (hT : zTok1 T n) (h : zCu σ T R) : (zhdt R).1 < 50 ∧ (zhdt R).2.1 < 100 ∧ (zhdt R).2.2 ≤ 900 := by
  obtain ⟨-, -, -, -, -, t, c6, c7, -⟩ := h
  rw [← c7, zdrop_c c6]
  have hm : T.getD t (0, 0, 0) ∈ T := by
    simp only [List.getD]
    rw [List.getElem?_eq_getElem c6]
    exact List.getElem_mem _
  exact hT.2 _ hm
set_option maxHeartbeats 1000000 in
theorem p_fail {d f n : Nat} {σ : zH} {T : List zTok} {s : zPs} (hT : zTok1 T n) (hf : 0 < f ∧ f < 10) (hS : zRS σ T n s) {Q : Option Value → zH → Prop} (hQ : ∀ τ, zRS τ T n (s.bind (fun R => .error (zflt f R))) → zFc (fun i => i = 1 ∨ i = 2 ∨ i = 5 ∨ i = 6) σ τ → Q none τ) : zM d 19 [.ref 9, .int (nI f)] σ Q := by
  refine b19 ?_
  cases s with
  | error e =>
    have hS' := hS
    obtain ⟨h1, h2, h3, h4, h5⟩ := hS
    rw [h2, if_neg (by rw [← nI_0]; exact fun q => by have := (nI_eq (by omega) (by omega)).mp q; omega)]
    exact ⟨h1.1, hQ σ hS' (zFc_r _ σ)⟩
  | ok R =>
    obtain ⟨h1, h2⟩ := hS
    have hh := zCu_hd hT h1
    obtain ⟨c1, c2, c3, c4, c5, t, c6, c7, c8⟩ := h1
    have hT3 := c3
    obtain ⟨⟨a1, a2, a3, a4, a5, a6, a7, a8, a9, a10⟩, b1, b2⟩ := c3
    have hp : (zhdt R).2.2 = (T.getD t (0, 0, 0)).2.2 := by rw [← c7, zdrop_c c6]; rfl
    obtain ⟨K, hK⟩ : ∃ K, K = (zflt f R).1 := ⟨_, rfl⟩
    have e5 : (if ¬ nI (zhdt R).1 = nI 48 then nI f else nI 1) = nI K := by
      rw [hK]
      unfold zflt
      by_cases h : (zhdt R).1 = 48
      · rw [if_neg (by rw [h]; exact fun q => q rfl)]
        simp only [h, if_true]
      · rw [if_pos (fun q => h ((nI_eq (by omega) (by omega)).mp q))]
        simp only [h, if_false]
    have hK10 : 0 < K ∧ K < 10 := by
      rw [hK]
      unfold zflt
      simp only
      split <;> omega
    rw [h2, if_pos (by decide), c2, a1, a3, a6, a9, c5, e5]
    have f1 : zI (zsI σ 9 5 (nI K)) 9 1 = nI t := by simp only [zh]; simpa using c8
    rw [f1, zcl t (by omega), (b2 t c6).2.1, ← hp]
    have f2 : zI (zsI (zsI σ 9 5 (nI K)) 9 6 (nI (zhdt R).2.2)) 10 3 = nI T.length := by simp only [zh]; simpa using b1
    rw [f2, pk_sub (by omega)]
    refine ⟨c1, rfl, rfl, vp_in_nI (by omega) (by omega), ?_⟩
    have hF : zFc (fun i => i = 1 ∨ i = 2 ∨ i = 5 ∨ i = 6) σ (zsI (zsI (zsI (zsI σ 9 5 (nI K)) 9 6 (nI (zhdt R).2.2)) 9 1 (nI (T.length - 1))) 9 2 (nI 49)) := zFc_t (zFc_t (zFc_t (zFc_I _ (by omega)) (zFc_I _ (by omega))) (zFc_I _ (by omega))) (zFc_I _ (by omega))
    refine hQ _ ⟨⟨c1, c2, zTks_c hF hT3, c4, ?_, T.length - 1, by omega, hT.1, ?_⟩, ?_, ?_, ?_⟩ hF
    · simp only [zh]
      simp only [↓reduceIte, and_self]
      rfl
    · simp only [zh]
      simp
    · simp only [zh]
      simp
      rw [hK]
    · simp only [zh]
      simp
      rfl
    · show 0 < (zflt f R).1 ∧ (zflt f R).1 < 10
      rw [← hK]
      exact hK10
theorem p_expect {d k n : Nat} {σ : zH} {T : List zTok} {s : zPs} (hT : zTok1 T n) (hk : k < 50) (hS : zRS σ T n s) {Q : Option Value → zH → Prop} (hQ : ∀ τ, zRS τ T n (s.bind (zexp k)) → zFc (fun i => i = 1 ∨ i = 2 ∨ i = 5 ∨ i = 6) σ τ → Q none τ) : zM (d + 1) 20 [.ref 9, .int (nI k)] σ Q := by
  refine b20 ?_
  cases s with
  | error e =>
    have hS' := hS
    obtain ⟨h1, h2, h3, h4⟩ := hS
    have e2 : zI σ 9 2 = nI 49 := h1.2.2.2.2.1
    rw [e2]
    refine ⟨h1.1, ?_⟩
    by_cases h : k = 49
    · rw [if_neg (by rw [h]; exact fun q => q rfl)]
      refine p_goon h1 (fun τ g1 g2 => ?_)
      rw [zqv_s]
      refine hQ τ ⟨g1, ?_, ?_, h4⟩ (zFc_m g2 (by omega))
      · rw [g2.2.2 5 (by omega)]; exact h2
      · rw [g2.2.2 6 (by omega)]; exact h3
    · rw [if_pos (fun q => h ((nI_eq (by omega) (by omega)).mp q).symm)]
      refine p_fail hT (by omega) hS' (fun τ g1 g2 => ?_)
      rw [zqv_s]
      exact hQ τ g1 g2
  | ok R =>
    have hS' := hS
    obtain ⟨h1, h2⟩ := hS
    have hh := zCu_hd hT h1
    have e2 : zI σ 9 2 = nI (zhdt R).1 := h1.2.2.2.2.1
    rw [e2]
    refine ⟨h1.1, ?_⟩
    by_cases h : (zhdt R).1 = k
    · rw [if_neg (by rw [h]; exact fun q => q rfl)]
      refine p_goon h1 (fun τ g1 g2 => ?_)
      rw [zqv_s]
      refine hQ τ ?_ (zFc_m g2 (by omega))
      show zRS τ T n (zexp k R)
      unfold zexp
      rw [if_pos h]
      exact ⟨g1, by rw [g2.2.2 5 (by omega)]; exact h2⟩
    · rw [if_pos (fun q => h ((nI_eq (by omega) (by omega)).mp q))]
      refine p_fail hT (by omega) hS' (fun τ g1 g2 => ?_)
      rw [zqv_s]
      refine hQ τ ?_ g2
      show zRS τ T n (zexp k R)
      unfold zexp
      rw [if_neg h]
      exact g1
