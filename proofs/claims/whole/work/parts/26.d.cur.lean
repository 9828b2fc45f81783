/-! the class's piles -/
def zpile (fb : Nat) (R : List zTok) : zPv := if 17 ≤ (zhdt R).1 ∧ (zhdt R).1 < 21 then (if (zhdt R).1 - 17 = fb then .error (zflt 3 R) else .ok ((zhdt R).1 - 17, zgn R)) else .error (zflt 2 R)
theorem nI_neg {k : Nat} (h : k < 17) : nI k - nI 17 < 0 := by
  have : ∀ k, k < 17 → nI k - nI 17 < 0 := by decide
  exact this k h
/-- the pile that may not stand here: 9 for none, as the class's -1 -/
def zfbI (fb : Nat) : Int32 := if fb < 4 then nI fb else -1
set_option maxHeartbeats 1000000 in
theorem p_cpile {d fb n : Nat} {σ : zH} {T : List zTok} {s : zPs} (hT : zTok1 T n) (hS : zRS σ T n s) {Q : Option Value → zH → Prop} (hQ : ∀ τ, zRS τ T n (zPo (s.bind (zpile fb))) → zFc (fun i => i = 1 ∨ i = 2 ∨ i = 5 ∨ i = 6) σ τ → Q (some (.int (nI (zPx 0 (s.bind (zpile fb)))))) τ) : zM (d + 1) 26 [.ref 9, .int (zfbI fb)] σ Q := by
  refine b26 ?_
  cases s with
  | error e =>
    have hS' := hS
    obtain ⟨h1, h2, h3, h4⟩ := hS
    have e2 : zI σ 9 2 = nI 49 := h1.2.2.2.2.1
    rw [e2, if_neg (by decide), if_neg (by decide)]
    refine ⟨h1.1, p_fail hT (by omega) hS' (fun τ g1 g2 => ?_)⟩
    rw [zqv_s]
    exact hQ τ g1 g2
  | ok R =>
    have hS' := hS
    obtain ⟨h1, h2⟩ := hS
    have hh := zCu_hd hT h1
    have e2 : zI σ 9 2 = nI (zhdt R).1 := h1.2.2.2.2.1
    have hb : (Except.ok R : zPs).bind (zpile fb) = zpile fb R := rfl
    rw [hb] at hQ
    have bad : ∀ f, f = 2 ∨ f = 3 → zpile fb R = .error (zflt f R) → zM d 19 [.ref 9, .int (nI f)] σ (fun r σ1 => zqv r (Q (some (.int (nI 0))) σ1)) := by
      intro f hf hz
      refine p_fail hT (by omega) hS' (fun τ g1 g2 => ?_)
      rw [zqv_s]
      rw [hz] at hQ
      exact hQ τ g1 g2
    rw [e2]
    refine ⟨h1.1, ?_⟩
    by_cases hl : (zhdt R).1 < 17
    · rw [if_pos (nI_neg hl)]
      exact bad 2 (by omega) (by unfold zpile; rw [if_neg (by omega)])
    · rw [pk_sub (by omega), if_neg (by rw [← nI_0]; exact nI_nlt (by omega) (by omega))]
      by_cases hu : (zhdt R).1 < 21
      · rw [if_pos (nI_lt (by omega) (by omega))]
        by_cases hf : (zhdt R).1 - 17 = fb
        · have e : zfbI fb = nI fb := by unfold zfbI; rw [if_pos (by omega)]
          rw [e, if_neg (by rw [hf]; exact fun q => q rfl)]
          exact bad 3 (by omega) (by unfold zpile; rw [if_pos (by omega), if_pos hf])
        · have e : ¬ nI ((zhdt R).1 - 17) = zfbI fb := by
            unfold zfbI
            split
            · exact fun q => hf ((nI_eq (by omega) (by omega)).mp q)
            · have : ∀ k, k < 4 → nI k ≠ -1 := by decide
              exact this _ (by omega)
          rw [if_pos e]
          have hz : zpile fb R = .ok ((zhdt R).1 - 17, zgn R) := by unfold zpile; rw [if_pos (by omega), if_neg hf]
          rw [hz] at hQ
          refine p_goon h1 (fun τ g1 g2 => ?_)
          rw [zqv_s]
          exact hQ τ ⟨g1, by rw [g2.2.2 5 (by omega)]; exact h2⟩ (zFc_m g2 (by omega))
      · rw [if_neg (nI_nlt (by omega) (by omega))]
        exact bad 2 (by omega) (by unfold zpile; rw [if_neg (by omega)])
