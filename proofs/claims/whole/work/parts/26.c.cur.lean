/-! the class's numbers -/
abbrev zPv : Type := Except (Nat × Nat) (Nat × List zTok)
def zPo : zPv → zPs
  | .ok a => .ok a.2
  | .error e => .error e
def zPx (lo : Nat) : zPv → Nat
  | .ok a => a.1
  | .error _ => lo
def znum (lo hi : Nat) (R : List zTok) : zPv := if (zhdt R).1 = 36 then (if lo ≤ (zhdt R).2.1 ∧ (zhdt R).2.1 ≤ hi then .ok ((zhdt R).2.1, zgn R) else .error (zflt 3 R)) else .error (zflt 2 R)
set_option maxHeartbeats 1000000 in
theorem p_cnum {d lo hi n : Nat} {σ : zH} {T : List zTok} {s : zPs} (hT : zTok1 T n) (hlo : lo < 100) (hhi : hi < 100) (hS : zRS σ T n s) {Q : Option Value → zH → Prop} (hQ : ∀ τ, zRS τ T n (zPo (s.bind (znum lo hi))) → zFc (fun i => i = 1 ∨ i = 2 ∨ i = 5 ∨ i = 6) σ τ → Q (some (.int (nI (zPx lo (s.bind (znum lo hi)))))) τ) : zM (d + 1) 31 [.ref 9, .int (nI lo), .int (nI hi)] σ Q := by
  refine b31 ?_
  cases s with
  | error e =>
    have hS' := hS
    obtain ⟨h1, h2, h3, h4⟩ := hS
    have e2 : zI σ 9 2 = nI 49 := h1.2.2.2.2.1
    obtain ⟨c1, c2, c3, c4, c5, t, c6, c7, c8⟩ := h1
    obtain ⟨⟨a1, a2, a3, a4, a5, a6, a7, a8, a9, a10⟩, b1, b2⟩ := c3
    rw [e2, c1, c2, a1, a4, a7, a10, c8, if_neg (by decide)]
    refine ⟨rfl, rfl, rfl, vp_in_nI (by omega) (by omega), ?_⟩
    refine p_fail hT (by omega) hS' (fun τ g1 g2 => ?_)
    rw [zqv_s]
    exact hQ τ g1 g2
  | ok R =>
    have hS' := hS
    obtain ⟨h1, h2⟩ := hS
    have hh := zCu_hd hT h1
    have h1' := h1
    have e2 : zI σ 9 2 = nI (zhdt R).1 := h1.2.2.2.2.1
    obtain ⟨c1, c2, c3, c4, c5, t, c6, c7, c8⟩ := h1
    obtain ⟨⟨a1, a2, a3, a4, a5, a6, a7, a8, a9, a10⟩, b1, b2⟩ := c3
    have hv : (T.getD t (0, 0, 0)).2.1 = (zhdt R).2.1 := by rw [← c7, zdrop_c c6]; rfl
    rw [e2, c1, c2, a1, a4, a7, a10, c8, zcl t (by omega), (b2 t c6).2.2, hv]
    refine ⟨rfl, rfl, rfl, vp_in_nI (by omega) (by omega), ?_⟩
    have hb : (Except.ok R : zPs).bind (znum lo hi) = znum lo hi R := rfl
    rw [hb] at hQ
    have bad : ∀ f, f = 2 ∨ f = 3 → znum lo hi R = .error (zflt f R) → zM d 19 [.ref 9, .int (nI f)] σ (fun r σ1 => zqv r (Q (some (.int (nI lo))) σ1)) := by
      intro f hf hz
      refine p_fail hT (by omega) hS' (fun τ g1 g2 => ?_)
      rw [zqv_s]
      rw [hz] at hQ
      exact hQ τ g1 g2
    by_cases h36 : (zhdt R).1 = 36
    · rw [if_pos (by rw [h36])]
      by_cases hl : lo ≤ (zhdt R).2.1
      · rw [if_neg (nI_nlt (by omega) (by omega))]
        by_cases hu : (zhdt R).2.1 ≤ hi
        · rw [if_pos (nI_le hu (by omega))]
          have hz : znum lo hi R = .ok ((zhdt R).2.1, zgn R) := by unfold znum; rw [if_pos h36, if_pos ⟨hl, hu⟩]
          rw [hz] at hQ
          refine p_goon h1' (fun τ g1 g2 => ?_)
          rw [zqv_s]
          exact hQ τ ⟨g1, by rw [g2.2.2 5 (by omega)]; exact h2⟩ (zFc_m g2 (by omega))
        · rw [if_neg (nI_ge (by omega) (by omega))]
          exact bad 3 (by omega) (by unfold znum; rw [if_pos h36, if_neg (by omega)])
      · rw [if_pos (nI_lt (by omega) (by omega))]
        exact bad 3 (by omega) (by unfold znum; rw [if_pos h36, if_neg (by omega)])
    · rw [if_neg (fun q => h36 ((nI_eq (by omega) (by omega)).mp q))]
      exact bad 2 (by omega) (by unfold znum; rw [if_neg h36])
