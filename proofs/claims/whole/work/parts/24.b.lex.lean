/-! the class's tokens -/
theorem zbn_ff (b : Bool) : (nI (zbn1 b) = 0) ↔ b = false := by cases b <;> decide
theorem e_let {d c : Nat} {σ : zH} (hc : c < 256) {Q : Option Value → zH → Prop} (hQ : Q (some (.int (nI (zbn1 (zcA c))))) σ) : zM d 94 [.int (nI c)] σ Q := by
  refine b94 ?_
  by_cases h : c < 97
  · rw [if_pos (nI_lt h (by omega))]
    have e : zcA c = false := by unfold zcA; simp; omega
    rw [e] at hQ
    exact hQ
  · rw [if_neg (nI_nlt (by omega) (by omega))]
    by_cases h2 : 122 < c
    · rw [if_pos (nI_lt h2 (by omega))]
      have e : zcA c = false := by unfold zcA; simp; omega
      rw [e] at hQ
      exact hQ
    · rw [if_neg (nI_nlt (by omega) (by omega))]
      have e : zcA c = true := by unfold zcA; simp; omega
      rw [e] at hQ
      exact hQ
theorem e_dgt {d c : Nat} {σ : zH} (hc : c < 256) {Q : Option Value → zH → Prop} (hQ : Q (some (.int (nI (zbn1 (zcD c))))) σ) : zM d 95 [.int (nI c)] σ Q := by
  refine b95 ?_
  by_cases h : c < 48
  · rw [if_pos (nI_lt h (by omega))]
    have e : zcD c = false := by unfold zcD; simp; omega
    rw [e] at hQ
    exact hQ
  · rw [if_neg (nI_nlt (by omega) (by omega))]
    by_cases h2 : 57 < c
    · rw [if_pos (nI_lt h2 (by omega))]
      have e : zcD c = false := by unfold zcD; simp; omega
      rw [e] at hQ
      exact hQ
    · rw [if_neg (nI_nlt (by omega) (by omega))]
      have e : zcD c = true := by unfold zcD; simp; omega
      rw [e] at hQ
      exact hQ
theorem zWL_b : ∀ k, k < 35 → ∀ i, i < 8 → (zWL.getD k []).getD i 32 < 256 := by decide +kernel
theorem zWL_A : ∀ k, k < 35 → (zWL.getD k []).all zcA = true := by decide +kernel
theorem ztw_gd (p : Nat → Bool) (l : List Nat) : ∀ (j d : Nat), j < (l.takeWhile p).length → (l.takeWhile p).getD j d = l.getD j 0 := by
  induction l with
  | nil => intro j d h; simp at h
  | cons a l ih =>
    intro j d h
    rw [List.takeWhile_cons] at h ⊢
    split at h
    · rename_i hp
      rw [if_pos hp]
      cases j with
      | zero => rfl
      | succ j => exact ih j d (by simpa using h)
    · simp at h
theorem zWd_gd {B : List Nat} {i j d : Nat} (h : j < (zWd B i).length) : (zWd B i).getD j d = B.getD (i + j) 0 := by
  unfold zWd at *
  rw [ztw_gd zcR (B.drop i) j d h]
  simp [List.getD, List.getElem?_drop]
theorem zpad_o {w : List Nat} {i : Nat} (h : w.length ≤ i) : w.getD i 32 = 32 := by rw [List.getD_eq_getElem?_getD, List.getElem?_eq_none h]; rfl
set_option maxHeartbeats 1000000 in
theorem l_isw {d k i : Nat} {σ : zH} {B w : List Nat} (hk : k < 35) (hB : zTp σ B) (hw : w = zWd B i) (hall : w.all zcA = true) (h8 : w.length ≤ 8) (hi : i + w.length ≤ B.length) {Q : Option Value → zH → Prop} (hQ : Q (some (.int (nI (zbn1 (decide (zWL.getD k [] = w)))))) σ) : ∀ (m j : Nat), j + m = 8 → (∀ x, x < j → (zWL.getD k []).getD x 32 = w.getD x 32) → zW (d + 5) 93 3 [(0, .int (nI k)), (1, .ref 2), (2, .int (nI i)), (3, .int (nI (i + w.length))), (4, .int (nI j))] [] σ Q := by
  have ⟨t1, t2, t3, t4, t5, t6, t7, t8⟩ := hB
  obtain ⟨l8, lc⟩ := zWL_8 k hk
  intro m
  induction m with
  | zero =>
    intro j hj hx
    have e : zWL.getD k [] = w := zpad_eq (zWL_A k hk) hall l8 h8 (fun x h => hx x (by omega))
    rw [decide_eq_true e] at hQ
    refine b93_3 ?_
    rw [if_pos (nI_le (by omega) (by omega))]
    exact hQ
  | succ m ih =>
    intro j hj hx
    have at32 : w.getD j 32 < 256 → zW (d + 5) 93 32 [(0, .int (nI k)), (1, .ref 2), (2, .int (nI i)), (3, .int (nI (i + w.length))), (4, .int (nI j))] [.int (nI (w.getD j 32))] σ Q := by
      intro hb
      refine b93_32 ?_
      rw [pk_mul, nI_add, zcl _ (by omega)]
      refine ⟨vp_in_nI (by omega) (by omega), ?_⟩
      have hz := zWL_b k hk j (by omega)
      rw [show zwch (k * 8 + j) = nI ((zWL.getD k []).getD j 32) by unfold zwch; rw [lc j (by omega)], nI_add]
      by_cases he : (zWL.getD k []).getD j 32 = w.getD j 32
      · rw [if_pos (by rw [he])]
        refine ih (j + 1) (by omega) (fun x h => ?_)
        rcases Nat.lt_or_ge x j with q | q
        · exact hx x q
        · rw [show x = j by omega]; exact he
      · rw [if_neg (fun q => he ((nI_eq (by omega) (by omega)).mp q))]
        have e : ¬ zWL.getD k [] = w := fun q => he (by rw [q])
        rw [decide_eq_false e] at hQ
        exact hQ
    refine b93_3 ?_
    rw [if_neg (nI_ge (by omega) (by omega)), nI_add]
    by_cases hl : j < w.length
    · have hg : w.getD j 32 = B.getD (i + j) 0 := by rw [hw]; exact zWd_gd (by rw [← hw]; exact hl)
      have h256 : B.getD (i + j) 0 < 256 := t8 _ (zgd_mem (by omega))
      rw [if_neg (nI_ge (by omega) (by omega)), t1, t2, t3, t4, zcl _ (by omega), t7 _ (by omega), ← hg]
      exact ⟨rfl, rfl, vp_in_nI (by omega) (by omega), at32 (by omega)⟩
    · have hg : w.getD j 32 = 32 := zpad_o (by omega)
      rw [if_pos (nI_le (by omega) (by omega)), show nI 32 = nI (w.getD j 32) by rw [hg]]
      exact at32 (by omega)
theorem zidx {w : List Nat} : ∀ (L : List (List Nat)) (k : Nat), (∀ x, x < k → L.getD x [] ≠ w) → k < L.length → L.getD k [] = w → L.idxOf w = k := by
  intro L
  induction L with
  | nil => intro k _ h; simp at h
  | cons a L ih =>
    intro k h1 h2 h3
    rw [List.idxOf_cons]
    cases k with
    | zero =>
      have : a = w := h3
      rw [this]
      simp
    | succ k =>
      have : a ≠ w := h1 0 (by omega)
      rw [ih k (fun x h => h1 (x + 1) (by omega)) (by simpa using h2) h3, beq_eq_false_iff_ne.mpr this]
      rfl
theorem zidx_n {w : List Nat} : ∀ (L : List (List Nat)), (∀ x, x < L.length → L.getD x [] ≠ w) → L.idxOf w = L.length := by
  intro L
  induction L with
  | nil => intro _; rfl
  | cons a L ih =>
    intro h1
    have : a ≠ w := h1 0 (by simp)
    rw [List.idxOf_cons, ih (fun x h => h1 (x + 1) (by simpa using h)), beq_eq_false_iff_ne.mpr this]
    rfl
theorem e_wk {d i : Nat} {σ : zH} {B w : List Nat} (hB : zTp σ B) (hw : w = zWd B i) (hall : w.all zcA = true) (h8 : w.length ≤ 8) (hi : i + w.length ≤ B.length) {Q : Option Value → zH → Prop} (hQ : Q (some (.int (nI (zWL.idxOf w)))) σ) : zM (d + 6) 92 [.ref 2, .int (nI i), .int (nI (i + w.length))] σ Q := by
  have loop : ∀ (m k : Nat), k + m = 35 → (∀ x, x < k → zWL.getD x [] ≠ w) → zW (d + 6) 92 2 [(0, .ref 2), (1, .int (nI i)), (2, .int (nI (i + w.length))), (3, .int (nI k))] [] σ Q := by
    intro m
    induction m with
    | zero =>
      intro k hk hx
      refine b92_2 ?_
      rw [if_pos (nI_le (by omega) (by omega))]
      rw [zidx_n zWL (by rw [zWL_n]; exact fun x h => hx x (by omega)), zWL_n] at hQ
      exact hQ
    | succ m ih =>
      intro k hk hx
      refine b92_2 ?_
      rw [if_neg (nI_ge (by omega) (by omega))]
      refine b93 (l_isw (by omega) hB hw hall h8 hi ?_ 8 0 (by omega) (fun x h => absurd h (by omega)))
      rw [zqi_s]
      by_cases he : zWL.getD k [] = w
      · rw [decide_eq_true he, if_neg (by decide)]
        rw [zidx zWL k hx (by rw [zWL_n]; omega) he] at hQ
        exact hQ
      · rw [decide_eq_false he, if_pos (by decide), nI_add]
        refine ih (k + 1) (by omega) (fun x h => ?_)
        rcases Nat.lt_or_ge x k with q | q
        · exact hx x q
        · rw [show x = k by omega]; exact he
  exact b92 (loop 35 0 (by omega) (fun x h => absurd h (by omega)))
