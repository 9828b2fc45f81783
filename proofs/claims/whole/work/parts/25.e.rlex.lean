/-! the reference's next -/
def zdb (c : Nat) : Bool := decide (c = 33) || decide (c = 60) || decide (c = 62)
set_option maxHeartbeats 2000000 in
theorem l_rsg {d i c : Nat} {υ : zH} {eq : Bool} (hc : c < 256) (hM : zMb υ) (h14 : zI υ 160 14 = nI i) {Q : Option Value → zH → Prop} (hQ : ∀ τ, zFy υ τ → zI τ 160 4 = zI υ 160 4 → zRtk τ (zsk c eq, 0, i) → Q none τ) (he : eq = true → zdb c = true) : zW (d + 1) 142 138 [(0, .ref 160), (1, .int (nI c)), (2, .int (nI (zbn1 eq)))] [] υ Q := by
  have k0 := hM.1
  have fin : ∀ K V, (37 ≤ zsk c eq → zsk c eq ≤ 47 → K = 3 ∧ V = nI (zsc (zsk c eq))) → (zsk c eq = 48 → K = 4) → 37 ≤ zsk c eq ∧ zsk c eq ≤ 48 → Q none (zsI (zsI υ 160 13 (nI K)) 160 15 V) := by
    intro K V h1 h2 h3
    have e13 : zI (zsI (zsI υ 160 13 (nI K)) 160 15 V) 160 13 = nI K := by simp only [zh]; simp
    have e15 : zI (zsI (zsI υ 160 13 (nI K)) 160 15 V) 160 15 = V := by simp only [zh]; simp
    refine hQ _ (zFy_t (zFy_I _ (by omega)) (zFy_I _ (by omega))) (by simp only [zh]; simp) ⟨by simp only [zh]; simpa using h14, ?_, ?_, ?_, ?_, ?_⟩ <;> simp only
    · omega
    · omega
    · omega
    · intro g1 g2
      rw [e13, e15, (h1 g1 g2).1]
      exact ⟨rfl, (h1 g1 g2).2⟩
    · intro g
      rw [e13, h2 g]
  have at186 : ∀ k, zsk c eq = k → 37 ≤ k ∧ k ≤ 47 → zsc k = (if eq then 256 + c else c) → zW (d + 1) 142 186 [(0, .ref 160), (1, .int (nI c)), (2, .int (nI (zbn1 eq)))] [] υ Q := by
    intro k h1 h2 h3
    refine b142_186 ?_
    cases eq with
    | true =>
      rw [if_pos (by decide), if_neg (c := nI (zbn1 true) = 0) (by decide), nI_add]
      exact ⟨k0, fin 3 _ (fun _ _ => ⟨rfl, by rw [h1, h3]; rfl⟩) (by omega) (by omega)⟩
    | false =>
      rw [if_neg (by decide), if_neg (c := nI 1 = 0) (by decide), if_pos (c := nI (zbn1 false) = 0) (by decide)]
      exact ⟨k0, fin 3 _ (fun _ _ => ⟨rfl, by rw [h1, h3]; rfl⟩) (by omega) (by omega)⟩
  refine b142_138 ?_
  by_cases h123 : c = 123
  · rw [if_pos (by rw [h123])]
    have ef : eq = false := by
      cases eq with
      | false => rfl
      | true => have := he rfl; rw [h123] at this; exact absurd this (by decide)
    exact at186 37 (by rw [h123, ef]; rfl) (by omega) (by rw [h123, ef]; rfl)
  rw [if_neg (fun q => h123 ((nI_eq (by omega) (by omega)).mp q))]
  by_cases h125 : c = 125
  · rw [if_pos (by rw [h125])]
    have ef : eq = false := by
      cases eq with
      | false => rfl
      | true => have := he rfl; rw [h125] at this; exact absurd this (by decide)
    exact at186 38 (by rw [h125, ef]; rfl) (by omega) (by rw [h125, ef]; rfl)
  rw [if_neg (fun q => h125 ((nI_eq (by omega) (by omega)).mp q))]
  by_cases h40 : c = 40
  · rw [if_pos (by rw [h40])]
    have ef : eq = false := by
      cases eq with
      | false => rfl
      | true => have := he rfl; rw [h40] at this; exact absurd this (by decide)
    exact at186 39 (by rw [h40, ef]; rfl) (by omega) (by rw [h40, ef]; rfl)
  rw [if_neg (fun q => h40 ((nI_eq (by omega) (by omega)).mp q))]
  by_cases h41 : c = 41
  · rw [if_pos (by rw [h41])]
    have ef : eq = false := by
      cases eq with
      | false => rfl
      | true => have := he rfl; rw [h41] at this; exact absurd this (by decide)
    exact at186 40 (by rw [h41, ef]; rfl) (by omega) (by rw [h41, ef]; rfl)
  rw [if_neg (fun q => h41 ((nI_eq (by omega) (by omega)).mp q))]
  by_cases h59 : c = 59
  · rw [if_pos (by rw [h59])]
    have ef : eq = false := by
      cases eq with
      | false => rfl
      | true => have := he rfl; rw [h59] at this; exact absurd this (by decide)
    exact at186 41 (by rw [h59, ef]; rfl) (by omega) (by rw [h59, ef]; rfl)
  rw [if_neg (fun q => h59 ((nI_eq (by omega) (by omega)).mp q))]
  by_cases h61 : c = 61
  · rw [if_pos (by rw [h61])]
    have ef : eq = false := by
      cases eq with
      | false => rfl
      | true => have := he rfl; rw [h61] at this; exact absurd this (by decide)
    exact at186 42 (by rw [h61, ef]; rfl) (by omega) (by rw [h61, ef]; rfl)
  rw [if_neg (fun q => h61 ((nI_eq (by omega) (by omega)).mp q))]
  by_cases h60 : c = 60
  · rw [if_pos (by rw [h60])]
    cases eq with
    | true => exact at186 45 (by rw [h60]; rfl) (by omega) (by rw [h60]; rfl)
    | false => exact at186 44 (by rw [h60]; rfl) (by omega) (by rw [h60]; rfl)
  rw [if_neg (fun q => h60 ((nI_eq (by omega) (by omega)).mp q))]
  cases eq with
  | true =>
    rw [if_pos (by decide)]
    refine b142_206 ?_
    rw [if_neg (c := nI (zbn1 true) = 0) (by decide), nI_add]
    have hd := he rfl
    by_cases h62 : c = 62
    · exact ⟨k0, k0, fin 3 _ (fun _ _ => ⟨rfl, by rw [h62]; rfl⟩) (by rw [h62]; intro q; exact absurd q (by decide)) (by rw [h62]; decide)⟩
    · have h33 : c = 33 := by
        unfold zdb at hd
        simp only [Bool.or_eq_true, decide_eq_true_eq] at hd
        omega
      exact ⟨k0, k0, fin 3 _ (fun _ _ => ⟨rfl, by rw [h33]; rfl⟩) (by rw [h33]; intro q; exact absurd q (by decide)) (by rw [h33]; decide)⟩
  | false =>
    rw [if_neg (by decide), if_pos (c := nI (zbn1 false) = 0) (by decide)]
    by_cases h62 : c = 62
    · rw [if_neg (c := ¬ nI c = nI 62) (by rw [h62]; exact fun q => q rfl), if_neg (by decide)]
      exact ⟨k0, fin 3 _ (fun _ _ => ⟨rfl, by rw [h62]; rfl⟩) (by rw [h62]; intro q; exact absurd q (by decide)) (by rw [h62]; decide)⟩
    · rw [if_pos (c := ¬ nI c = nI 62) (fun q => h62 ((nI_eq (by omega) (by omega)).mp q)), if_pos (by decide)]
      have e48 : zsk c false = 48 := by
        unfold zsk
        rw [if_neg h40, if_neg h41, if_neg h59, if_neg h60, if_neg h61, if_neg h62, if_neg h123, if_neg h125]
        simp
      exact ⟨k0, fin 4 _ (by rw [e48]; omega) (fun _ => rfl) (by rw [e48]; omega)⟩
