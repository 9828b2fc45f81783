/-! the reference's reading of runs -/
def zFy (σ τ : zH) : Prop := zK τ = zK σ ∧ zN τ = zN σ ∧ zQ τ = zQ σ ∧ zX τ = zX σ ∧ zL τ = zL σ ∧ (∀ a i, ¬ (a = 160 ∧ i = 18) → zJ τ a i = zJ σ a i) ∧ zS τ = zS σ ∧ (∀ a i, ¬ (a = 160 ∧ (i = 4 ∨ i = 13 ∨ i = 14 ∨ i = 15)) → zI τ a i = zI σ a i) ∧ zA τ = zA σ ∧ zB τ = zB σ
theorem zFy_r (σ : zH) : zFy σ σ := ⟨rfl, rfl, rfl, rfl, rfl, fun _ _ _ => rfl, rfl, fun _ _ _ => rfl, rfl, rfl⟩
theorem zFy_t {σ τ υ : zH} (h1 : zFy σ τ) (h2 : zFy τ υ) : zFy σ υ := by
  obtain ⟨a1, a2, a3, a4, a5, a6, a7, a8, a9, a10⟩ := h1
  obtain ⟨b1, b2, b3, b4, b5, b6, b7, b8, b9, b10⟩ := h2
  exact ⟨b1.trans a1, b2.trans a2, b3.trans a3, b4.trans a4, b5.trans a5, fun a i h => (b6 a i h).trans (a6 a i h), b7.trans a7, fun a i h => (b8 a i h).trans (a8 a i h), b9.trans a9, b10.trans a10⟩
theorem zFy_z {σ τ : zH} (h : zFy σ τ) : zFz σ τ := by
  obtain ⟨a1, a2, a3, a4, a5, a6, a7, a8, a9, a10⟩ := h
  exact ⟨a1, a2, a3, fun i hi => a8 160 i (by omega), fun a ha => by rw [a9], by rw [a10]⟩
theorem zFy_I {σ : zH} {j : Nat} (v : Int32) (hj : j = 4 ∨ j = 13 ∨ j = 14 ∨ j = 15) : zFy σ (zsI σ 160 j v) := by
  refine ⟨rfl, rfl, rfl, rfl, rfl, fun _ _ _ => rfl, rfl, fun a i h => ?_, rfl, rfl⟩
  simp only [zh]
  rw [if_neg (by omega)]
theorem zFy_J {σ : zH} (v : Int64) : zFy σ (zsJ σ 160 18 v) := by
  refine ⟨rfl, rfl, rfl, rfl, rfl, fun a i h => ?_, rfl, fun _ _ _ => rfl, rfl, rfl⟩
  simp only [zh]
  rw [if_neg (by omega)]
/-- the text that the reference reads -/
def zRx (σ : zH) (B : List Nat) : Prop := zMb σ ∧ zRtp σ B ∧ zI σ 160 3 = nI B.length
theorem zRx_l {σ τ : zH} (h : zFy σ τ) {B : List Nat} (hx : zRx σ B) : zRx τ B := ⟨zMb_z (zFy_z h) hx.1, zRtp_z (zFy_z h) hx.2.1, by rw [h.2.2.2.2.2.2.2.1 160 3 (by omega)]; exact hx.2.2⟩
def zhr (B : List Nat) (j : Nat) : Int32 := if j < B.length then nI (B.getD j 0) else -1
theorem e_here {d j : Nat} {σ : zH} {B : List Nat} (hx : zRx σ B) (h4 : zI σ 160 4 = nI j) (hj : j ≤ B.length) {Q : Option Value → zH → Prop} (hQ : Q (some (.int (zhr B j))) σ) : zM d 139 [.ref 160] σ Q := by
  obtain ⟨hM, ⟨t1, t2, t3⟩, h3⟩ := hx
  have ⟨mK0, mQ1, mK1, mN1, mQ6, mK6, mN6, mQ7, mK7, mN7, mQ8, mK8, mN8, mQ9, mK9, mN9, mQ10, mK10, mN10, mQ11, mK11, mN11, mQ21, mK21, mN21, mQ22, mK22, mN22, mQ23, mK23, mN23, mQ24, mK24, mN24, mQ25, mK25, mN25, mQ26, mK26, mN26, mQ27, mK27, mN27, mQ28, mK28, mN28, mQ32, mK32, mN32, mQ33, mK33, mN33, mQ34, mK34, mN34, mQ35, mK35, mN35, mQ40, mK40, mN40, mQ41, mK41, mN41, mQ42, mK42, mN42, mQ43, mK43, mN43, mQ44, mK44, mN44, mQ45, mK45, mN45, mQ62, mK62, mN62⟩ := hM
  refine b139 ?_
  unfold zhr at hQ
  rw [h3, h4]
  by_cases h : j < B.length
  · rw [if_pos h] at hQ
    rw [if_neg (nI_ge h (by omega)), mQ1, mK1, mN1, zcl j (by omega), t2 j h]
    exact ⟨mK0, rfl, vp_in_nI (by omega) (by omega), hQ⟩
  · rw [if_neg h] at hQ
    rw [if_pos (nI_le (by omega) (by omega))]
    exact ⟨mK0, hQ⟩
def zhA (B : List Nat) (j : Nat) : Bool := decide (j < B.length) && zcA (B.getD j 0)
def zhD (B : List Nat) (j : Nat) : Bool := decide (j < B.length) && zcD (B.getD j 0)
theorem e_rlet {d j : Nat} {σ : zH} {B : List Nat} (hB : ∀ c ∈ B, c < 256) {Q : Option Value → zH → Prop} (hQ : Q (some (.int (nI (zbn1 (zhA B j))))) σ) : zM d 140 [.int (zhr B j)] σ Q := by
  unfold zhr zhA at *
  by_cases h : j < B.length
  · have hc := hB _ (zgd_mem h)
    rw [if_pos h]
    rw [decide_eq_true h, Bool.true_and] at hQ
    obtain ⟨c, hcc⟩ : ∃ c, c = B.getD j 0 := ⟨_, rfl⟩
    rw [← hcc] at hc hQ ⊢
    refine b140 ?_
    by_cases h1 : c < 97
    · rw [if_pos (nI_lt h1 (by omega))]
      have e : zcA c = false := by unfold zcA; simp; omega
      rw [e] at hQ
      exact hQ
    · rw [if_neg (nI_nlt (by omega) (by omega))]
      by_cases h2 : 122 < c
      · rw [if_pos (nI_lt h2 (by omega))]
        have e : zcA c = false := by unfold zcA; simp; omega
        rw [e] at hQ
        exact hQ
      · rw [if_neg (nI_nlt (by omega) (by omega))]
        have e : zcA c = true := by unfold zcA; simp; omega
        rw [e] at hQ
        exact hQ
  · rw [if_neg h]
    rw [decide_eq_false h, Bool.false_and] at hQ
    refine b140 ?_
    rw [if_pos (by decide)]
    exact hQ
theorem e_rdgt {d j : Nat} {σ : zH} {B : List Nat} (hB : ∀ c ∈ B, c < 256) {Q : Option Value → zH → Prop} (hQ : Q (some (.int (nI (zbn1 (zhD B j))))) σ) : zM d 141 [.int (zhr B j)] σ Q := by
  unfold zhr zhD at *
  by_cases h : j < B.length
  · have hc := hB _ (zgd_mem h)
    rw [if_pos h]
    rw [decide_eq_true h, Bool.true_and] at hQ
    obtain ⟨c, hcc⟩ : ∃ c, c = B.getD j 0 := ⟨_, rfl⟩
    rw [← hcc] at hc hQ ⊢
    refine b141 ?_
    by_cases h1 : c < 48
    · rw [if_pos (nI_lt h1 (by omega))]
      have e : zcD c = false := by unfold zcD; simp; omega
      rw [e] at hQ
      exact hQ
    · rw [if_neg (nI_nlt (by omega) (by omega))]
      by_cases h2 : 57 < c
      · rw [if_pos (nI_lt h2 (by omega))]
        have e : zcD c = false := by unfold zcD; simp; omega
        rw [e] at hQ
        exact hQ
      · rw [if_neg (nI_nlt (by omega) (by omega))]
        have e : zcD c = true := by unfold zcD; simp; omega
        rw [e] at hQ
        exact hQ
  · rw [if_neg h]
    rw [decide_eq_false h, Bool.false_and] at hQ
    refine b141 ?_
    rw [if_pos (by decide)]
    exact hQ
