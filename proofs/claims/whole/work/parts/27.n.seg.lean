/-! the shape of a row of steps -/
def zndS (S : List zStp) : Nat := (S.map (fun s => znd (zpC s))).sum
theorem zndS_app (S1 S2 : List zStp) : zndS (S1 ++ S2) = zndS S1 + zndS S2 := by unfold zndS; rw [List.map_append, List.sum_append]
theorem zndS_c (s : zStp) (S : List zStp) : zndS (s :: S) = znd (zpC s) + zndS S := by unfold zndS; rw [List.map_cons, List.sum_cons]
/-- steps a .. b - 1 are whole; dn may be done, ch are free -/
def zSeg (St : List zStp) : Nat → Nat → Nat → Nat → Nat → Nat → Prop
  | 0, a, b, _, dn, ch => a = b ∧ dn = 0 ∧ ch = 0
  | f + 1, a, b, dp, dn, ch => (a = b ∧ dn = 0 ∧ ch = 0) ∨ (∃ d1 c1 d2 c2, dn = d1 + d2 ∧ ch = c1 + c2 ∧ a < zpA (zSg St a) ∧ zpA (zSg St a) ≤ b ∧ zSeg St f (zpA (zSg St a)) b dp d2 c2 ∧ ((zpW (zSg St a) ≤ 10 ∧ zpA (zSg St a) = a + 1 ∧ d1 = 1 ∧ c1 = zfr1 (zSg St a)) ∨ (zpW (zSg St a) = 11 ∧ dp < 4 ∧ zpH (zSg St a) ≤ 9 ∧ 2 ≤ zpH (zSg St a) ∧ ∃ d c, zSeg St f (a + 1) (zpA (zSg St a)) (dp + 1) d c ∧ d1 = 1 + zpH (zSg St a) * d ∧ c1 = zpH (zSg St a) * c) ∨ (zpW (zSg St a) = 12 ∧ dp < 4 ∧ a < zpM (zSg St a) ∧ zpM (zSg St a) ≤ zpA (zSg St a) ∧ ∃ d c d' c', zSeg St f (a + 1) (zpM (zSg St a)) (dp + 1) d c ∧ zSeg St f (zpM (zSg St a)) (zpA (zSg St a)) (dp + 1) d' c' ∧ d1 = 1 + (d + d') ∧ c1 = c + c')))
theorem zSeg_wf (St : List zStp) : ∀ (f a b dp dn ch : Nat), zSeg St f a b dp dn ch → zwf St f a b dp ∧ zch St f a b = ch
  | 0, a, b, dp, dn, ch, h => by
    obtain ⟨h1, h2, h3⟩ := h
    exact ⟨h1, h3.symm⟩
  | f + 1, a, b, dp, dn, ch, h => by
    rw [zSeg] at h
    rcases h with ⟨h1, h2, h3⟩ | ⟨d1, c1, d2, c2, h1, h2, h3, h4, h5, h6⟩
    · refine ⟨Or.inl h1, ?_⟩
      rw [zch, if_pos (by omega), h3]
    · obtain ⟨r1, r2⟩ := zSeg_wf St f _ _ _ _ _ h5
      rw [zwf, zch, if_neg (by omega), h2]
      rcases h6 with ⟨q1, q2, q3, q4⟩ | ⟨q1, q2, q3, q3', d, c, q4, q5, q6⟩ | ⟨q1, q2, q3, q4, d, c, d', c', q5, q6, q7, q8⟩
      · refine ⟨Or.inr ⟨by omega, Or.inl ⟨q1, q2, by rw [← q2]; exact r1⟩⟩, ?_⟩
        rw [if_neg (by omega), if_neg (by omega), r2, q4]
      · obtain ⟨s1, s2⟩ := zSeg_wf St f _ _ _ _ _ q4
        refine ⟨Or.inr ⟨by omega, Or.inr (Or.inl ⟨q1, q2, h3, h4, s1, r1⟩)⟩, ?_⟩
        rw [if_pos q1, s2, r2, q6]
      · obtain ⟨s1, s2⟩ := zSeg_wf St f _ _ _ _ _ q5
        obtain ⟨t1, t2⟩ := zSeg_wf St f _ _ _ _ _ q6
        refine ⟨Or.inr ⟨by omega, Or.inr (Or.inr ⟨q1, q2, q3, q4, h4, s1, t1, r1⟩)⟩, ?_⟩
        rw [if_neg (by omega), if_pos q1, s2, t2, r2, q8]
theorem zfr1_1 (s : zStp) : zfr1 s ≤ 1 := by unfold zfr1; split <;> omega
theorem zSeg_le (St : List zStp) : ∀ (f a b dp dn ch : Nat), zSeg St f a b dp dn ch → dp ≤ 4 → a ≤ b ∧ ch ≤ dn ∧ dn ≤ 9 ^ (4 - dp) * (b - a)
  | 0, a, b, dp, dn, ch, h, _ => by
    obtain ⟨h1, h2, h3⟩ := h
    exact ⟨by omega, by omega, by omega⟩
  | f + 1, a, b, dp, dn, ch, h, hd => by
    rw [zSeg] at h
    rcases h with ⟨h1, h2, h3⟩ | ⟨d1, c1, d2, c2, h1, h2, h3, h4, h5, h6⟩
    · exact ⟨by omega, by omega, by omega⟩
    · obtain ⟨r1, r2, r3⟩ := zSeg_le St f _ _ _ _ _ h5 hd
      obtain ⟨N, hN⟩ : ∃ N, N = 9 ^ (4 - dp) := ⟨_, rfl⟩
      have N1 : 1 ≤ N := by rw [hN]; exact Nat.one_le_pow _ _ (by decide)
      rw [← hN] at r3 ⊢
      have key : d1 ≤ N * (zpA (zSg St a) - a) → dn ≤ N * (b - a) := by
        intro k
        have e : N * (b - a) = N * (zpA (zSg St a) - a) + N * (b - zpA (zSg St a)) := by
          rw [← Nat.mul_add]
          congr 1
          omega
        omega
      rcases h6 with ⟨q1, q2, q3, q4⟩ | ⟨q1, q2, q3, q3', d, c, q4, q5, q6⟩ | ⟨q1, q2, q3, q4, d, c, d', c', q5, q6, q7, q8⟩
      · have := zfr1_1 (zSg St a)
        refine ⟨by omega, by omega, key ?_⟩
        rw [q2, show a + 1 - a = 1 by omega]
        omega
      · obtain ⟨s1, s2, s3⟩ := zSeg_le St f _ _ _ _ _ q4 (by omega)
        obtain ⟨M, hM⟩ : ∃ M, M = 9 ^ (4 - (dp + 1)) := ⟨_, rfl⟩
        have eN : N = 9 * M := by rw [hN, hM, show 4 - dp = 4 - (dp + 1) + 1 by omega, Nat.pow_succ, Nat.mul_comm]
        rw [← hM] at s3
        have c1d : c1 ≤ d1 := by
          rw [q5, q6]
          have := Nat.mul_le_mul_left (zpH (zSg St a)) s2
          omega
        refine ⟨by omega, by omega, key ?_⟩
        rw [q5]
        have m1 : zpH (zSg St a) * d ≤ 9 * (M * (zpA (zSg St a) - (a + 1))) := Nat.mul_le_mul q3 s3
        rw [← Nat.mul_assoc, ← eN] at m1
        have e : N * (zpA (zSg St a) - a) = N * (zpA (zSg St a) - (a + 1)) + N := by
          rw [show zpA (zSg St a) - a = zpA (zSg St a) - (a + 1) + 1 by omega, Nat.mul_add, Nat.mul_one]
        omega
      · obtain ⟨s1, s2, s3⟩ := zSeg_le St f _ _ _ _ _ q5 (by omega)
        obtain ⟨t1, t2, t3⟩ := zSeg_le St f _ _ _ _ _ q6 (by omega)
        obtain ⟨M, hM⟩ : ∃ M, M = 9 ^ (4 - (dp + 1)) := ⟨_, rfl⟩
        have eN : N = 9 * M := by rw [hN, hM, show 4 - dp = 4 - (dp + 1) + 1 by omega, Nat.pow_succ, Nat.mul_comm]
        rw [← hM] at s3 t3
        refine ⟨by omega, by omega, key ?_⟩
        rw [q7]
        have MN : M ≤ N := by omega
        have u1 := Nat.mul_le_mul_right (zpM (zSg St a) - (a + 1)) MN
        have u2 := Nat.mul_le_mul_right (zpA (zSg St a) - zpM (zSg St a)) MN
        have e : N * (zpA (zSg St a) - a) = N * (zpM (zSg St a) - (a + 1)) + N * (zpA (zSg St a) - zpM (zSg St a)) + N := by
          rw [show zpA (zSg St a) - a = (zpM (zSg St a) - (a + 1)) + (zpA (zSg St a) - zpM (zSg St a)) + 1 by omega, Nat.mul_add, Nat.mul_add, Nat.mul_one]
        omega
/-- S, put at k into any row, is whole there -/
def zStr (S : List zStp) (k dp dn ch : Nat) : Prop := ∀ (St : List zStp) (f : Nat), (∀ i, i < S.length → zSg St (k + i) = zSg S i) → S.length ≤ f → zSeg St f k (k + S.length) dp dn ch
theorem zStr_nil (k dp : Nat) : zStr [] k dp 0 0 := by
  intro St f _ _
  cases f with
  | zero => exact ⟨rfl, rfl, rfl⟩
  | succ f => exact Or.inl ⟨rfl, rfl, rfl⟩
/-- one whole step with what it holds, then the rest -/
def zHd (S : List zStp) (k dp d1 c1 : Nat) : Prop := ∃ s C, S = s :: C ∧ zpA s = k + S.length ∧ ((zpW s ≤ 10 ∧ C = [] ∧ d1 = 1 ∧ c1 = zfr1 s) ∨ (zpW s = 11 ∧ dp < 4 ∧ zpH s ≤ 9 ∧ 2 ≤ zpH s ∧ ∃ d c, zStr C (k + 1) (dp + 1) d c ∧ d1 = 1 + zpH s * d ∧ c1 = zpH s * c) ∨ (zpW s = 12 ∧ dp < 4 ∧ ∃ C1 C2 d c d' c', C = C1 ++ C2 ∧ zpM s = k + 1 + C1.length ∧ zStr C1 (k + 1) (dp + 1) d c ∧ zStr C2 (k + 1 + C1.length) (dp + 1) d' c' ∧ d1 = 1 + (d + d') ∧ c1 = c + c'))
theorem zStr_c {S1 S2 : List zStp} {k dp d1 c1 d2 c2 : Nat} (h1 : zHd S1 k dp d1 c1) (h2 : zStr S2 (k + S1.length) dp d2 c2) : zStr (S1 ++ S2) k dp (d1 + d2) (c1 + c2) := by
  intro St f hSt hf
  obtain ⟨s, C, rfl, hA, hc⟩ := h1
  simp only [List.length_append, List.length_cons] at hf hA h2
  obtain ⟨g, rfl⟩ : ∃ g, f = g + 1 := ⟨f - 1, by omega⟩
  have e0 : zSg St k = s := by
    have := hSt 0 (by simp)
    simpa [zSg] using this
  have eC : ∀ i, i < C.length → zSg St (k + 1 + i) = zSg C i := by
    intro i hi
    have := hSt (i + 1) (by simp; omega)
    rw [show k + 1 + i = k + (i + 1) by omega, this]
    unfold zSg
    simp only [List.getD, List.cons_append, List.getElem?_cons_succ]
    rw [List.getElem?_append_left hi]
  have e2 : ∀ i, i < S2.length → zSg St (k + (C.length + 1) + i) = zSg S2 i := by
    intro i hi
    have := hSt (C.length + 1 + i) (by simp; omega)
    rw [show k + (C.length + 1) + i = k + (C.length + 1 + i) by omega, this, zSg_a2 (by simp)]
    congr 1
    simp
  rw [zSeg]
  refine Or.inr ⟨d1, c1, d2, c2, rfl, rfl, ?_⟩
  rw [e0, hA]
  refine ⟨by omega, by simp, ?_, ?_⟩
  · have := h2 St g e2 (by omega)
    rw [show k + (s :: C ++ S2).length = k + (C.length + 1) + S2.length by simp; omega]
    exact this
  · rcases hc with ⟨q1, rfl, q3, q4⟩ | ⟨q1, q2, q3, q3', d, c, q4, q5, q6⟩ | ⟨q1, q2, C1, C2, d, c, d', c', rfl, q4, q5, q6, q7, q8⟩
    · exact Or.inl ⟨q1, rfl, q3, q4⟩
    · refine Or.inr (Or.inl ⟨q1, q2, q3, q3', d, c, ?_, q5, q6⟩)
      have := q4 St g eC (by omega)
      rw [show k + (C.length + 1) = k + 1 + C.length by omega]
      exact this
    · simp only [List.length_append] at hf ⊢
      refine Or.inr (Or.inr ⟨q1, q2, by omega, by omega, d, c, d', c', ?_, ?_, q7, q8⟩)
      · rw [q4]
        exact q5 St g (fun i hi => by rw [eC i (by simp; omega), zSg_a1 hi]) (by omega)
      · rw [q4, show k + (C1.length + C2.length + 1) = k + 1 + C1.length + C2.length by omega]
        refine q6 St g (fun i hi => ?_) (by omega)
        rw [show k + 1 + C1.length + i = k + 1 + (C1.length + i) by omega, eC _ (by simp; omega), zSg_a2 (by omega)]
        congr 1
        omega
