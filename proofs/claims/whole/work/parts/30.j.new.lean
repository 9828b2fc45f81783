/-! the first state -/
theorem zIC_e0 {σ τ : zH} (h : ∀ b, b < 160 → zEo b σ τ) (hc : zIC σ zm0) : zIC τ zm0 := by
  obtain ⟨T, T', o, o', a1, a2, a3, a4, a5, a6, a7, a8, a9, a10⟩ := hc
  have f1 := h 1 (by omega)
  have hT := a1.2.1
  have ho := a1.2.2.1
  have hr : ∀ (lo hi : Nat), hi < 160 → ∀ b, lo ≤ b → b ≤ hi → zEo b σ τ := fun lo hi hh b _ h2 => h b (by omega)
  refine ⟨T, T', o, o', ?_, zTp_e (hr _ _ (by omega)) a2, zc4_e (hr _ _ (by omega)) a3, zc9_e (hr _ _ (by omega)) a4, zTb_e (hr _ _ (by omega)) a5, zc18_e (hr _ _ (by omega)) a6, zc54_e (hr _ _ (by omega)) a7, ?_, ⟨?_, zTs_e (hr _ _ (by omega)) a9.2⟩, ⟨?_, zCo_e (hr _ _ (by omega)) a10.2⟩⟩
  · unfold zc1 at *
    rw [f1.1, f1.2.2.2.2.1, f1.2.2.1, f1.2.2.2.1]
    exact a1
  · unfold zc59 at *
    rw [(h 59 (by omega)).1, (h 59 (by omega)).2.1]
    exact a8
  · obtain ⟨⟨b1, b2, b3, b4⟩, b5⟩ := a9
    refine ⟨zTs_e (hr _ _ (by omega)) b1, ?_, b3, fun k hk => absurd hk (Nat.not_lt_zero k)⟩
    rw [(h T (by omega)).2.2.1]
    exact b2
  · obtain ⟨⟨b1, b2, b3, b4, b5, b6⟩, b7⟩ := a10
    refine ⟨zCo_e (hr _ _ (by omega)) b1, by rw [(h o (by omega)).2.2.1]; exact b2, b3, ⟨?_, trivial⟩, b5, b6⟩
    unfold zCc
    rw [(h (o + 1) (by omega)).2.2.2.2.2.1, (h (o + 2) (by omega)).2.2.2.2.2.1, (h (o + 3) (by omega)).2.2.2.2.2.1]
    exact b4.1
theorem zMok_0 : zMok zm0 := by
  refine ⟨⟨Nat.zero_le _, fun c hc => absurd hc List.not_mem_nil⟩, ⟨by decide, by decide⟩, zDb_fr 10 (by omega) ⟨fun c => ⟨Nat.zero_le _, Nat.zero_le _, Nat.zero_le _⟩, rfl, rfl, rfl⟩, ⟨zrw1_l _, zrw1_c (by decide)⟩, ⟨Nat.zero_le _, ?_⟩, (fun e g br q => by cases q), (fun x q => by cases q), Nat.zero_le _⟩
  refine ⟨0, 0, ?_, by omega⟩
  exact zStr_nil 0 0 [] 0 (fun i hi => absurd hi (Nat.not_lt_zero i)) (Nat.le_refl _)
theorem zmok_trick {m : zMS} (h : zMok m) : zMok (zstk m) := by
  obtain ⟨h1, h2, h3, h4, h5, h6, h7, h8⟩ := h
  unfold zstk
  cases e : ztrt (zmB m) with
  | error x => exact ⟨⟨Nat.zero_le _, fun c hc => absurd hc List.not_mem_nil⟩, h2, h3, h4, h5, h6, h7, h8⟩
  | ok S =>
    refine ⟨⟨Nat.zero_le _, fun c hc => absurd hc List.not_mem_nil⟩, h2, h3, h4, ?_, h6, h7, h8⟩
    show S.length ≤ 40 ∧ ∃ dn ch, zSeg S S.length 0 S.length 0 dn ch ∧ ch ≤ 8
    unfold ztrt at e
    have hO := (zOrd_k (B := zmB m) (zmB m).length 0 (by omega) (by omega)).1
    split at e
    · cases e
    · rename_i S' dn ch R' e'
      obtain ⟨k1, k2, -⟩ := zstx_ok hO e'
      split at e
      · rename_i hc
        split at e
        · cases e
          have := k2 S S.length (fun i _ => by rw [Nat.zero_add]) (Nat.le_refl _)
          rw [Nat.zero_add] at this
          exact ⟨k1, dn, ch, this, hc⟩
        · cases e
      · cases e
theorem zmok_claim {m : zMS} (h : zMok m) : zMok (zscl m) := by
  obtain ⟨h1, h2, h3, h4, h5, h6, h7, h8⟩ := h
  unfold zscl
  cases e : zclt (zmB m) with
  | error x => exact ⟨⟨Nat.zero_le _, fun c hc => absurd hc List.not_mem_nil⟩, h2, h3, h4, h5, h6, h7, h8⟩
  | ok S => exact ⟨⟨Nat.zero_le _, fun c hc => absurd hc List.not_mem_nil⟩, h2, h3, h4, h5, h6, h7, h8⟩
