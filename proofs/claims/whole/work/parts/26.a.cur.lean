/-! the class's cursor -/
def zCu (σ : zH) (T R : List zTok) : Prop := zK σ 9 = 3 ∧ zQ σ 9 0 = 10 ∧ zTks σ T ∧ T.length ≤ 901 ∧ zI σ 9 2 = nI (zhdt R).1 ∧ ∃ t, t < T.length ∧ T.drop t = R ∧ zI σ 9 1 = nI t
/-- the Reader's own fields change, and of these the named alone -/
def zFc (J : Nat → Prop) (σ τ : zH) : Prop := zFr 9 10 σ τ ∧ zQ τ 9 = zQ σ 9 ∧ ∀ i, ¬ J i → zI τ 9 i = zI σ 9 i
theorem zFc_r (J : Nat → Prop) (σ : zH) : zFc J σ σ := ⟨zFr_r _ _ σ, rfl, fun _ _ => rfl⟩
theorem zFc_t {J : Nat → Prop} {σ τ υ : zH} (h1 : zFc J σ τ) (h2 : zFc J τ υ) : zFc J σ υ := ⟨zFr_t h1.1 h2.1, h2.2.1.trans h1.2.1, fun i h => (h2.2.2 i h).trans (h1.2.2 i h)⟩
theorem zFc_m {J K : Nat → Prop} {σ τ : zH} (h : zFc J σ τ) (hk : ∀ i, J i → K i) : zFc K σ τ := ⟨h.1, h.2.1, fun i hi => h.2.2 i (fun q => hi (hk i q))⟩
theorem zFc_I {J : Nat → Prop} {σ : zH} {j : Nat} (v : Int32) (h : J j) : zFc J σ (zsI σ 9 j v) := by
  refine ⟨zFr_sI j v (by omega) (by omega), rfl, fun i hi => ?_⟩
  have : i ≠ j := fun q => hi (q ▸ h)
  simp only [zh]
  rw [if_neg (by omega)]
theorem zTks_c {J : Nat → Prop} {σ τ : zH} (h : zFc J σ τ) {T : List zTok} (hT : zTks σ T) : zTks τ T := by
  unfold zTks zTkb at *
  have hf := h.1
  rw [hf.1, hf.2.1, (zFr_o hf (a := 10) (by omega)).2.2.1, (zFr_o hf (a := 10) (by omega)).1, (zFr_o hf (a := 11) (by omega)).2.2.2.1, (zFr_o hf (a := 12) (by omega)).2.2.2.1, (zFr_o hf (a := 13) (by omega)).2.2.2.1]
  exact hT
theorem zdrop_c {T : List zTok} {t : Nat} (h : t < T.length) : T.drop t = T.getD t (0, 0, 0) :: T.drop (t + 1) := by
  rw [List.drop_eq_getElem_cons h]
  simp [List.getD, h]
set_option maxHeartbeats 1000000 in
theorem p_goon {d : Nat} {σ : zH} {T R : List zTok} (hC : zCu σ T R) {Q : Option Value → zH → Prop} (hQ : ∀ τ, zCu τ T (zgn R) → zFc (fun i => i = 1 ∨ i = 2) σ τ → Q none τ) : zM d 18 [.ref 9] σ Q := by
  have hC' := hC
  obtain ⟨c1, c2, c3, c4, c5, t, c6, c7, c8⟩ := hC
  obtain ⟨⟨a1, a2, a3, a4, a5, a6, a7, a8, a9, a10⟩, b1, b2⟩ := c3
  refine b18 ?_
  rw [c1, c2, a1, a2, a5, a8, b1, c8, pk_sub (by omega), nI_add]
  refine ⟨rfl, rfl, ?_⟩
  by_cases h : t + 1 < T.length
  · rw [if_neg (nI_ge (by omega) (by omega))]
    have e : zI (zsI σ 9 1 (nI (t + 1))) 9 1 = nI (t + 1) := by simp only [zh]; simp
    rw [e, zcl _ (by omega), (b2 (t + 1) h).1]
    refine ⟨rfl, vp_in_nI (by omega) (by omega), ?_⟩
    have hF : zFc (fun i => i = 1 ∨ i = 2) σ (zsI (zsI σ 9 1 (nI (t + 1))) 9 2 (nI (T.getD (t + 1) (0, 0, 0)).1)) := zFc_t (zFc_I _ (Or.inl rfl)) (zFc_I _ (Or.inr rfl))
    have hg : zgn R = T.drop (t + 1) := by
      rw [← c7, zdrop_c c6]
      exact zgn_c (by rw [List.length_drop]; omega)
    refine hQ _ ⟨c1, c2, zTks_c hF ⟨⟨a1, a2, a3, a4, a5, a6, a7, a8, a9, a10⟩, b1, b2⟩, c4, ?_, t + 1, h, hg.symm, ?_⟩ hF
    · simp only [zh]
      simp only [↓reduceIte, and_self]
      rw [hg, zdrop_c h]
      rfl
    · simp only [zh]
      simp
  · rw [if_pos (nI_le (by omega) (by omega))]
    have hg : zgn R = R := by
      rw [← c7, zdrop_c c6, List.drop_eq_nil_of_le (by omega)]
      rfl
    rw [hg] at hQ
    exact hQ σ hC' (zFc_r _ σ)
