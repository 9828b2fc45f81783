/-- the table's rows hold the piles P, each a list of its cards, the uppermost first -/
def zTR (ly sz : Nat → Int32) (P : Nat → List Nat) : Prop := ∀ p, p < 4 → sz p = nI (P p).length ∧ (P p).length ≤ 9 ∧ ∀ i, i < (P p).length → ly (16 * p + i) = nI ((P p).getD ((P p).length - 1 - i) 0)
theorem zTR_push {ly sz : Nat → Int32} {P : Nat → List Nat} (h : zTR ly sz P) {p : Nat} (hp : p < 4) (hl : (P p).length < 9) (c : Nat) : zTR (zu ly (16 * p + (P p).length) (nI c)) (zu sz p (nI ((P p).length + 1))) (zu P p (c :: P p)) := by
  intro q hq
  obtain ⟨h1, h2, h3⟩ := h q hq
  by_cases hqp : q = p
  · subst hqp
    rw [zu_same, zu_same]
    refine ⟨rfl, by simp only [List.length_cons]; omega, fun i hi => ?_⟩
    simp only [List.length_cons] at hi ⊢
    by_cases hi2 : i = (P q).length
    · subst hi2
      rw [zu_same, show (P q).length + 1 - 1 - (P q).length = 0 by omega]
      rfl
    · rw [zu_ne _ _ (by omega), h3 i (by omega), show (P q).length + 1 - 1 - i = ((P q).length - 1 - i) + 1 by omega, List.getD_cons_succ]
  · rw [zu_ne _ _ hqp, zu_ne _ _ hqp]
    refine ⟨h1, h2, fun i hi => ?_⟩
    rw [zu_ne _ _ (by omega), h3 i hi]
theorem zTR_pop {ly sz : Nat → Int32} {P : Nat → List Nat} (h : zTR ly sz P) {p : Nat} (hp : p < 4) {c : Nat} {l : List Nat} (hl : P p = c :: l) : zTR ly (zu sz p (nI l.length)) (zu P p l) ∧ sz p = nI (l.length + 1) ∧ l.length < 9 ∧ ly (16 * p + l.length) = nI c := by
  obtain ⟨g1, g2, g3⟩ := h p hp
  rw [hl] at g1 g2 g3
  simp only [List.length_cons] at g1 g2 g3
  refine ⟨fun q hq => ?_, g1, by omega, ?_⟩
  · obtain ⟨h1, h2, h3⟩ := h q hq
    by_cases hqp : q = p
    · subst hqp
      rw [zu_same, zu_same]
      refine ⟨rfl, by omega, fun i hi => ?_⟩
      rw [g3 i (by omega), show l.length + 1 - 1 - i = (l.length - 1 - i) + 1 by omega, List.getD_cons_succ]
    · rw [zu_ne _ _ hqp, zu_ne _ _ hqp]
      exact ⟨h1, h2, h3⟩
  · rw [g3 l.length (by omega), show l.length + 1 - 1 - l.length = 0 by omega]
    rfl
theorem s_push {d t p c : Nat} {σ : zH} (hT : zTb σ t) {ly hd sz : Nat → Int32} {mk : Int32} {P : Nat → List Nat} (hR : zTR ly sz P) (hp : p < 4) (hl : (P p).length < 9) {Q : Option Value → zH → Prop} (hQ : ∀ ly' sz', zTR ly' sz' (zu P p (c :: P p)) → Q none (zTa σ t ly' hd sz' mk)) : zM d 70 [.ref t, .int (nI p), .int (nI c)] (zTa σ t ly hd sz mk) Q :=
  e_push hT hp (hR p hp).1 hl (hQ _ _ (zTR_push hR hp hl c))
theorem s_pop {d t p c : Nat} {l : List Nat} {σ : zH} (hT : zTb σ t) {ly hd sz : Nat → Int32} {mk : Int32} {P : Nat → List Nat} (hR : zTR ly sz P) (hp : p < 4) (hl : P p = c :: l) {Q : Option Value → zH → Prop} (hQ : ∀ sz', zTR ly sz' (zu P p l) → Q (some (.int (nI c))) (zTa σ t ly hd sz' mk)) : zM d 71 [.ref t, .int (nI p)] (zTa σ t ly hd sz mk) Q := by
  obtain ⟨h1, h2, h3, h4⟩ := zTR_pop hR hp hl
  refine e_pop hT hp h2 h3 ?_
  rw [h4]
  exact hQ _ h1
theorem s_cardAt {d t p k : Nat} {σ : zH} (hT : zTb σ t) {ly hd sz : Nat → Int32} {mk : Int32} {P : Nat → List Nat} (hR : zTR ly sz P) (hp : p < 4) (hk : k < 2 ^ 31) {Q : Option Value → zH → Prop} (hQ : Q (some (.int (nI (if 1 ≤ k then (P p).getD (k - 1) 0 else 0)))) (zTa σ t ly hd sz mk)) : zM d 61 [.ref t, .int (nI p), .int (nI k)] (zTa σ t ly hd sz mk) Q := by
  obtain ⟨h1, h2, h3⟩ := hR p hp
  refine e_cardAt hT hp h1 h2 hk ?_
  by_cases hk1 : 1 ≤ k ∧ k ≤ (P p).length
  · rw [if_pos hk1, h3 _ (by omega), show (P p).length - 1 - ((P p).length - k) = k - 1 by omega]
    rw [if_pos hk1.1] at hQ
    exact hQ
  · rw [if_neg hk1]
    by_cases hk2 : 1 ≤ k
    · rw [if_pos hk2, List.getD_eq_getElem?_getD, List.getElem?_eq_none (by omega)] at hQ
      exact hQ
    · rw [if_neg hk2] at hQ
      exact hQ
