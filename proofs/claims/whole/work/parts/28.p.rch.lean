/-! the reference's choices -/
theorem zcl100 {n v x : Nat} (hv : v ≤ 900) (hn : n ≤ 100) (h : min 100 (n + v) = min 100 (n + x)) : (if nI n + nI v ≤ nI 100 then nI n + nI v else nI 100) = nI (min 100 (n + x)) := by
  rw [nI_add, ← h]
  by_cases q : n + v ≤ 100
  · rw [if_pos (nI_le q (by omega)), Nat.min_eq_right q]
  · rw [if_neg (nI_ge (by omega) (by omega)), Nat.min_eq_left (by omega)]
set_option maxHeartbeats 4000000 in
theorem l_rch {d bk : Nat} {σ : zH} {St : List zStp} (hM : zMb σ) (hbk : bk < 2) (h29 : zI σ 160 29 = nI bk) (hS : ∀ k, k < St.length → zRSt σ bk k (zSg St k)) (h40 : St.length ≤ 40) : ∀ (f a b dp dn ch : Nat), zSeg St f a b dp dn ch → dp ≤ 4 → ∀ (to n : Nat) (Q : Option Value → zH → Prop), b ≤ to → to ≤ St.length → n ≤ 100 → zW (d + (5 - dp)) 159 5 [(0, .ref 160), (2, .int (nI to)), (3, .int (nI (min 100 (n + ch)))), (4, .int (nI b))] [] σ Q → zW (d + (5 - dp)) 159 5 [(0, .ref 160), (2, .int (nI to)), (3, .int (nI n)), (4, .int (nI a))] [] σ Q := by
  have ⟨mK0, mQ1, mK1, mN1, mQ6, mK6, mN6, mQ7, mK7, mN7, mQ8, mK8, mN8, mQ9, mK9, mN9, mQ10, mK10, mN10, mQ11, mK11, mN11, mQ21, mK21, mN21, mQ22, mK22, mN22, mQ23, mK23, mN23, mQ24, mK24, mN24, mQ25, mK25, mN25, mQ26, mK26, mN26, mQ27, mK27, mN27, mQ28, mK28, mN28, mQ32, mK32, mN32, mQ33, mK33, mN33, mQ34, mK34, mN34, mQ35, mK35, mN35, mQ40, mK40, mN40, mQ41, mK41, mN41, mQ42, mK42, mN42, mQ43, mK43, mN43, mQ44, mK44, mN44, mQ45, mK45, mN45, mQ62, mK62, mN62⟩ := hM
  intro f
  induction f with
  | zero =>
    intro a b dp dn ch h hd to n Q hb ht hn hQ
    obtain ⟨rfl, -, rfl⟩ := h
    rw [Nat.add_zero, Nat.min_eq_right hn] at hQ
    exact hQ
  | succ f ih =>
    intro a b dp dn ch h hd to n Q hb ht hn hQ
    rw [zSeg] at h
    rcases h with ⟨rfl, -, rfl⟩ | ⟨d1, c1, d2, c2, -, rfl, hA1, hA2, h5, h6⟩
    · rw [Nat.add_zero, Nat.min_eq_right hn] at hQ
      exact hQ
    · obtain ⟨s1, s2, s3, s4, s5, s6, s7⟩ := hS a (by omega)
      have hfr : zfr1 (zSg St a) = if zfree (zpW (zSg St a)) (zpH (zSg St a)) then 1 else 0 := rfl
      rw [hfr] at h6
      obtain ⟨w, hw⟩ : ∃ w, w = zpW (zSg St a) := ⟨_, rfl⟩
      obtain ⟨A, hA⟩ : ∃ A, A = zpA (zSg St a) := ⟨_, rfl⟩
      obtain ⟨h0, hh0⟩ : ∃ h0, h0 = zpH (zSg St a) := ⟨_, rfl⟩
      rw [← hw] at s1 s2 s5 s6 s7 h6
      rw [← hA] at h5 h6 hA1 hA2 s3
      rw [← hh0] at s5 s6 h6
      have l11 := zlg0 (w := w) 11 (v := 499984983411) (by omega) (by decide) (by decide)
      have l12 := zlg0 (w := w) 12 (v := 26982) (by omega) (by decide) (by decide)
      have l6 := zlg0 (w := w) 6 (v := 125797015120997) (by omega) (by decide) (by decide)
      have nxt : zW (d + (5 - dp)) 159 5 [(0, .ref 160), (2, .int (nI to)), (3, .int (nI (min 100 (n + c1)))), (4, .int (nI A))] [] σ Q := by
        refine ih A b dp d2 c2 h5 hd to (min 100 (n + c1)) Q hb ht (Nat.min_le_left _ _) ?_
        have e : min 100 (min 100 (n + c1) + c2) = min 100 (n + (c1 + c2)) := by omega
        rw [e]
        exact hQ
      obtain ⟨D, hD⟩ : ∃ D, d + (5 - dp) = D + 1 := ⟨d + (4 - dp), by omega⟩
      rw [hD] at nxt ⊢
      have inn : ∀ v, dp < 4 → (∀ Q', zW (d + (5 - (dp + 1))) 159 5 [(0, .ref 160), (2, .int (nI A)), (3, .int (nI (min 100 v))), (4, .int (nI A))] [] σ Q' → zW (d + (5 - (dp + 1))) 159 5 [(0, .ref 160), (2, .int (nI A)), (3, .int (nI 0)), (4, .int (nI (a + 1)))] [] σ Q') → ∀ Q', Q' (some (.int (nI (min 100 v)))) σ → zM D 159 [.ref 160, .int (nI (a + 1)), .int (nI A)] σ Q' := by
        intro v hdp hseg Q' hq
        obtain ⟨E, hE⟩ : ∃ E, d + (5 - (dp + 1)) = E + 1 := ⟨d + (3 - dp), by omega⟩
        have hDE : D = E + 1 := by omega
        rw [hE] at hseg
        rw [hDE]
        refine b159 (hseg Q' (b159_5 ?_))
        rw [if_pos (nI_le (Nat.le_refl _) (by omega))]
        exact hq
      refine b159_5 ?_
      rw [if_neg (nI_ge (by omega) (by omega)), mQ21, mK21, mN21, mQ25, mK25, mN25, mQ28, mK28, mN28, h29, pk_mul, nI_add, zcl (48 * bk + a) (by omega), s1, nI_add]
      refine ⟨mK0, rfl, vp_in_nI (by omega) (by omega), ?_⟩
      rcases h6 with ⟨q1, q2, q3, q4⟩ | ⟨q1, q2, q3, q3', d0, c0, q4, q5, q6⟩ | ⟨q1, q2, q3, q4, d0, c0, d', c', q5, q6, q7, q8⟩
      · rw [if_pos (fun q => by have := l11.mp q; omega), if_pos (fun q => by have := l12.mp q; omega)]
        obtain ⟨z1, z2⟩ := s5 q1
        by_cases c6 : w = 6
        · rw [if_pos (l6.mpr c6)]
          refine b159_151 ?_
          have ef : c1 = 1 := by rw [q4, c6]; rfl
          rw [zcl100 (v := 1) (x := c1) (by omega) hn (by rw [ef]), nI_add, ← q2]
          exact nxt
        · rw [if_neg (fun q => c6 (l6.mp q))]
          refine ⟨rfl, vp_in_nI (by omega) (by omega), ?_⟩
          have e172 : zA σ 172 (48 * bk + a) = nI h0 := z1.2.2.2.2
          have h11 : h0 ≤ 11 := z2.2.2.2.2.2.1
          have ef : (if ¬ nI h0 = nI 11 then nI 0 else nI 1) = nI c1 := by
            rw [q4]
            unfold zfree
            by_cases c : h0 = 11
            · rw [if_neg (by rw [c]; exact fun q => q rfl)]
              simp [c]
            · rw [if_pos (by rw [nI_eq (by omega) (by omega)]; exact c)]
              simp [c, c6]
          have hc1 : c1 ≤ 1 := by rw [q4]; split <;> omega
          rw [e172, ef, zcl100 (v := c1) (x := c1) (by omega) hn rfl, ← q2]
          exact nxt
      · obtain ⟨t1, t2, t3, t4⟩ := s6 q1
        rw [← hA] at t4
        rw [if_neg (fun q => q (l11.mpr q1)), t4, t1]
        refine ⟨rfl, vp_in_nI (by omega) (by omega), rfl, vp_in_nI (by omega) (by omega), ?_⟩
        refine inn c0 q2 (fun Q' hq => ?_) _ ?_
        · refine ih (a + 1) A (dp + 1) d0 c0 q4 (by omega) A 0 Q' (Nat.le_refl _) (by omega) (by omega) ?_
          rw [Nat.zero_add]
          exact hq
        · rw [zqi_s, mQ28, mK28, mN28, t4, pk_mul]
          refine ⟨mK0, rfl, vp_in_nI (by omega) (by omega), ?_⟩
          have hb9 : h0 * min 100 c0 ≤ 9 * 100 := Nat.mul_le_mul t3 (Nat.min_le_left _ _)
          rw [zcl100 (v := h0 * min 100 c0) (x := c1) (by omega) hn (by rw [zclm (by omega), q6])]
          exact nxt
      · obtain ⟨t1, t2, -⟩ := s7 q1
        rw [← hA] at t2
        rw [if_pos (fun q => by have := l11.mp q; omega), if_neg (fun q => q (l12.mpr q1)), t2]
        refine ⟨rfl, vp_in_nI (by omega) (by omega), ?_⟩
        refine inn (c0 + c') q2 (fun Q' hq => ?_) _ ?_
        · refine ih (a + 1) (zpM (zSg St a)) (dp + 1) d0 c0 q5 (by omega) A 0 Q' q4 (by omega) (by omega) ?_
          refine ih (zpM (zSg St a)) A (dp + 1) d' c' q6 (by omega) A (min 100 (0 + c0)) Q' (Nat.le_refl _) (by omega) (Nat.min_le_left _ _) ?_
          have e : min 100 (min 100 (0 + c0) + c') = min 100 (c0 + c') := by omega
          rw [e]
          exact hq
        · rw [zqi_s, mQ28, mK28, mN28, t2]
          refine ⟨mK0, rfl, vp_in_nI (by omega) (by omega), ?_⟩
          rw [zcl100 (v := min 100 (c0 + c')) (x := c1) (by have := Nat.min_le_left 100 (c0 + c'); omega) hn (by rw [q8]; omega)]
          exact nxt
theorem p_rch {d bk dn ch : Nat} {σ : zH} {St : List zStp} (hM : zMb σ) (hbk : bk < 2) (h29 : zI σ 160 29 = nI bk) (hS : ∀ k, k < St.length → zRSt σ bk k (zSg St k)) (h40 : St.length ≤ 40) {f : Nat} (hs : zSeg St f 0 St.length 0 dn ch) {Q : Option Value → zH → Prop} (hQ : Q (some (.int (nI (min 100 ch)))) σ) : zM (d + 5) 159 [.ref 160, .int (nI 0), .int (nI St.length)] σ Q := by
  refine b159 (l_rch (d := d) hM hbk h29 hS h40 f 0 St.length 0 dn ch hs (by omega) St.length 0 Q (Nat.le_refl _) (Nat.le_refl _) (by omega) ?_)
  rw [Nat.zero_add]
  refine b159_5 ?_
  rw [if_pos (nI_le (Nat.le_refl _) (by omega))]
  exact hQ
