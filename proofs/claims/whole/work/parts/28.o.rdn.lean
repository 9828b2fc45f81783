/-! the reference's counts of steps done and of choices -/
theorem zclip {c n d1 v : Nat} (hn : n ≤ c) (hc : c < 1000) (hv : v < 100000) (h : min c (n + v) = min c (n + d1)) : (if nI n + nI v ≤ nI c then nI n + nI v else nI c) = nI (min c (n + d1)) := by
  rw [nI_add, ← h]
  by_cases q : n + v ≤ c
  · rw [if_pos (nI_le q (by omega)), Nat.min_eq_right q]
  · rw [if_neg (nI_ge (by omega) (by omega)), Nat.min_eq_left (by omega)]
theorem zclm {c n h d : Nat} (hh : 1 ≤ h) : min c (n + h * min c d) = min c (n + h * d) := by
  by_cases q : d ≤ c
  · rw [Nat.min_eq_right q]
  · rw [Nat.min_eq_left (show c ≤ d by omega)]
    have h1 : c ≤ h * c := Nat.le_mul_of_pos_left c (by omega)
    have h2 : h * c ≤ h * d := Nat.mul_le_mul_left h (by omega)
    rw [Nat.min_eq_left (by omega), Nat.min_eq_left (by omega)]
set_option maxHeartbeats 4000000 in
theorem l_rdn {d bk : Nat} {σ : zH} {St : List zStp} (hM : zMb σ) (hbk : bk < 2) (h29 : zI σ 160 29 = nI bk) (hS : ∀ k, k < St.length → zRSt σ bk k (zSg St k)) (h40 : St.length ≤ 40) : ∀ (f a b dp dn ch : Nat), zSeg St f a b dp dn ch → dp ≤ 4 → ∀ (to n : Nat) (Q : Option Value → zH → Prop), b ≤ to → to ≤ St.length → n ≤ 501 → zW (d + (5 - dp)) 158 5 [(0, .ref 160), (2, .int (nI to)), (3, .int (nI (min 501 (n + dn)))), (4, .int (nI b))] [] σ Q → zW (d + (5 - dp)) 158 5 [(0, .ref 160), (2, .int (nI to)), (3, .int (nI n)), (4, .int (nI a))] [] σ Q := by
  have ⟨mK0, mQ1, mK1, mN1, mQ6, mK6, mN6, mQ7, mK7, mN7, mQ8, mK8, mN8, mQ9, mK9, mN9, mQ10, mK10, mN10, mQ11, mK11, mN11, mQ21, mK21, mN21, mQ22, mK22, mN22, mQ23, mK23, mN23, mQ24, mK24, mN24, mQ25, mK25, mN25, mQ26, mK26, mN26, mQ27, mK27, mN27, mQ28, mK28, mN28, mQ32, mK32, mN32, mQ33, mK33, mN33, mQ34, mK34, mN34, mQ35, mK35, mN35, mQ40, mK40, mN40, mQ41, mK41, mN41, mQ42, mK42, mN42, mQ43, mK43, mN43, mQ44, mK44, mN44, mQ45, mK45, mN45, mQ62, mK62, mN62⟩ := hM
  intro f
  induction f with
  | zero =>
    intro a b dp dn ch h hd to n Q hb ht hn hQ
    obtain ⟨rfl, rfl, -⟩ := h
    rw [Nat.add_zero, Nat.min_eq_right hn] at hQ
    exact hQ
  | succ f ih =>
    intro a b dp dn ch h hd to n Q hb ht hn hQ
    rw [zSeg] at h
    rcases h with ⟨rfl, rfl, -⟩ | ⟨d1, c1, d2, c2, rfl, -, hA1, hA2, h5, h6⟩
    · rw [Nat.add_zero, Nat.min_eq_right hn] at hQ
      exact hQ
    · obtain ⟨s1, s2, s3, s4, s5, s6, s7⟩ := hS a (by omega)
      obtain ⟨w, hw⟩ : ∃ w, w = zpW (zSg St a) := ⟨_, rfl⟩
      obtain ⟨A, hA⟩ : ∃ A, A = zpA (zSg St a) := ⟨_, rfl⟩
      obtain ⟨h0, hh0⟩ : ∃ h0, h0 = zpH (zSg St a) := ⟨_, rfl⟩
      rw [← hw] at s1 s2 s5 s6 s7 h6
      rw [← hA] at h5 h6 hA1 hA2 s3
      have l11 := zlg0 (w := w) 11 (v := 499984983411) (by omega) (by decide) (by decide)
      have l12 := zlg0 (w := w) 12 (v := 26982) (by omega) (by decide) (by decide)
      have nxt : zW (d + (5 - dp)) 158 5 [(0, .ref 160), (2, .int (nI to)), (3, .int (nI (min 501 (n + d1)))), (4, .int (nI A))] [] σ Q := by
        refine ih A b dp d2 c2 h5 hd to (min 501 (n + d1)) Q hb ht (Nat.min_le_left _ _) ?_
        have e : min 501 (min 501 (n + d1) + d2) = min 501 (n + (d1 + d2)) := by omega
        rw [e]
        exact hQ
      obtain ⟨D, hD⟩ : ∃ D, d + (5 - dp) = D + 1 := ⟨d + (4 - dp), by omega⟩
      rw [hD] at nxt ⊢
      refine b158_5 ?_
      rw [if_neg (nI_ge (by omega) (by omega)), mQ21, mK21, mN21, h29, pk_mul, nI_add, zcl (48 * bk + a) (by omega), s1, nI_add]
      refine ⟨mK0, rfl, vp_in_nI (by omega) (by omega), ?_⟩
      -- a step that holds others
      have grp : ∀ v, (w = 11 ∨ w = 12) → dp < 4 → zA σ 175 (48 * bk + a) = nI A → (∀ Q', Q' (some (.int (nI (min 501 v)))) σ → zM D 158 [.ref 160, .int (nI (a + 1)), .int (nI A)] σ Q') → (w = 11 → zA σ 172 (48 * bk + a) = nI h0 ∧ 2 ≤ h0 ∧ h0 ≤ 9) → d1 = 1 + (if w = 11 then h0 * v else v) → zW (D + 1) 158 54 [(0, .ref 160), (2, .int (nI to)), (3, .int (nI (n + 1))), (4, .int (nI a)), (5, .int (nI (48 * bk + a)))] [] σ Q := by
        intro v hw2 hdp h175 hin h172 hd1
        refine b158_54 ?_
        rw [mQ28, mK28, mN28, zcl (48 * bk + a) (by omega), h175, nI_add]
        refine ⟨mK0, rfl, vp_in_nI (by omega) (by omega), hin _ ?_⟩
        rw [zqi_s, mQ21, mK21, mN21, mQ25, mK25, mN25, s1]
        refine ⟨mK0, rfl, vp_in_nI (by omega) (by omega), ?_⟩
        by_cases c11 : w = 11
        · obtain ⟨e172, l2, l9⟩ := h172 c11
          rw [if_neg (fun q => q (l11.mpr c11)), e172, pk_mul]
          refine ⟨rfl, vp_in_nI (by omega) (by omega), b158_101 ?_⟩
          rw [mQ28, mK28, mN28, zcl (48 * bk + a) (by omega), h175]
          refine ⟨mK0, rfl, vp_in_nI (by omega) (by omega), ?_⟩
          rw [if_pos c11] at hd1
          have e1 : (if nI (n + 1) + nI (h0 * min 501 v) ≤ nI 501 then nI (n + 1) + nI (h0 * min 501 v) else nI 501) = nI (min 501 (n + d1)) := by
            have hb9 : h0 * min 501 v ≤ 9 * 501 := Nat.mul_le_mul l9 (Nat.min_le_left _ _)
            have hz : min 501 (n + 1 + h0 * min 501 v) = min 501 (n + d1) := by
              rw [zclm (by omega), hd1, Nat.add_assoc]
            rw [nI_add, ← hz]
            by_cases q : n + 1 + h0 * min 501 v ≤ 501
            · rw [if_pos (nI_le q (by omega)), Nat.min_eq_right q]
            · rw [if_neg (nI_ge (by omega) (by omega)), Nat.min_eq_left (by omega)]
          rw [e1]
          exact nxt
        · rw [if_pos (fun q => c11 (l11.mp q))]
          refine b158_101 ?_
          rw [mQ28, mK28, mN28, zcl (48 * bk + a) (by omega), h175]
          refine ⟨mK0, rfl, vp_in_nI (by omega) (by omega), ?_⟩
          rw [if_neg c11] at hd1
          have e1 : (if nI (n + 1) + nI (min 501 v) ≤ nI 501 then nI (n + 1) + nI (min 501 v) else nI 501) = nI (min 501 (n + d1)) := by
            have hz : min 501 (n + 1 + min 501 v) = min 501 (n + d1) := by omega
            have := Nat.min_le_left 501 v
            rw [nI_add, ← hz]
            by_cases q : n + 1 + min 501 v ≤ 501
            · rw [if_pos (nI_le q (by omega)), Nat.min_eq_right q]
            · rw [if_neg (nI_ge (by omega) (by omega)), Nat.min_eq_left (by omega)]
          rw [e1]
          exact nxt
      -- the call within
      have inn : ∀ v, dp < 4 → (∀ Q', zW (d + (5 - (dp + 1))) 158 5 [(0, .ref 160), (2, .int (nI A)), (3, .int (nI (min 501 v))), (4, .int (nI A))] [] σ Q' → zW (d + (5 - (dp + 1))) 158 5 [(0, .ref 160), (2, .int (nI A)), (3, .int (nI 0)), (4, .int (nI (a + 1)))] [] σ Q') → ∀ Q', Q' (some (.int (nI (min 501 v)))) σ → zM D 158 [.ref 160, .int (nI (a + 1)), .int (nI A)] σ Q' := by
        intro v hdp hseg Q' hq
        obtain ⟨E, hE⟩ : ∃ E, d + (5 - (dp + 1)) = E + 1 := ⟨d + (3 - dp), by omega⟩
        have hDE : D = E + 1 := by omega
        rw [hE] at hseg
        rw [hDE]
        refine b158 (hseg Q' (b158_5 ?_))
        rw [if_pos (nI_le (Nat.le_refl _) (by omega))]
        exact hq
      rcases h6 with ⟨q1, q2, q3, q4⟩ | ⟨q1, q2, q3, q3', d0, c0, q4, q5, q6⟩ | ⟨q1, q2, q3, q4, d0, c0, d', c', q5, q6, q7, q8⟩
      · rw [if_neg (fun q => by have := l11.mp q; omega), if_pos (fun q => by have := l12.mp q; omega)]
        have e1 : (if nI (n + 1) ≤ nI 501 then nI (n + 1) else nI 501) = nI (min 501 (n + d1)) := by
          rw [q3]
          by_cases q : n + 1 ≤ 501
          · rw [if_pos (nI_le q (by omega)), Nat.min_eq_right q]
          · rw [if_neg (nI_ge (by omega) (by omega)), Nat.min_eq_left (by omega)]
        rw [e1, nI_add, ← q2]
        exact nxt
      · obtain ⟨t1, t2, t3, t4⟩ := s6 q1
        rw [← hA] at t4
        rw [← hh0] at t1 t2 t3 q5
        rw [if_pos (l11.mpr q1)]
        refine grp d0 (Or.inl q1) q2 t4 (inn d0 q2 (fun Q' hq => ?_)) (fun _ => ⟨t1, t2, t3⟩) (by rw [if_pos q1]; exact q5)
        refine ih (a + 1) A (dp + 1) d0 c0 q4 (by omega) A 0 Q' (Nat.le_refl _) (by omega) (by omega) ?_
        rw [Nat.zero_add]
        exact hq
      · obtain ⟨t1, t2, -⟩ := s7 q1
        rw [← hA] at t2
        rw [if_neg (fun q => by have := l11.mp q; omega), if_neg (fun q => q (l12.mpr q1))]
        refine grp (d0 + d') (Or.inr q1) q2 t2 (inn (d0 + d') q2 (fun Q' hq => ?_)) (fun c => by omega) (by rw [if_neg (by omega)]; exact q7)
        refine ih (a + 1) (zpM (zSg St a)) (dp + 1) d0 c0 q5 (by omega) A 0 Q' q4 (by omega) (by omega) ?_
        refine ih (zpM (zSg St a)) A (dp + 1) d' c' q6 (by omega) A (min 501 (0 + d0)) Q' (Nat.le_refl _) (by omega) (Nat.min_le_left _ _) ?_
        have e : min 501 (min 501 (0 + d0) + d') = min 501 (d0 + d') := by omega
        rw [e]
        exact hq
theorem p_rdn {d bk dn ch : Nat} {σ : zH} {St : List zStp} (hM : zMb σ) (hbk : bk < 2) (h29 : zI σ 160 29 = nI bk) (hS : ∀ k, k < St.length → zRSt σ bk k (zSg St k)) (h40 : St.length ≤ 40) {f : Nat} (hs : zSeg St f 0 St.length 0 dn ch) {Q : Option Value → zH → Prop} (hQ : Q (some (.int (nI (min 501 dn)))) σ) : zM (d + 5) 158 [.ref 160, .int (nI 0), .int (nI St.length)] σ Q := by
  refine b158 (l_rdn (d := d) hM hbk h29 hS h40 f 0 St.length 0 dn ch hs (by omega) St.length 0 Q (Nat.le_refl _) (Nat.le_refl _) (by omega) ?_)
  rw [Nat.zero_add]
  refine b158_5 ?_
  rw [if_pos (nI_le (Nat.le_refl _) (by omega))]
  exact hQ
