/-! performing -/
def zTp (σ : zH) (B : List Nat) : Prop := zK σ 2 = 8 ∧ zQ σ 2 0 = 3 ∧ zK σ 3 = 20 ∧ zN σ 3 = 900 ∧ zI σ 2 1 = nI B.length ∧ B.length ≤ 900 ∧ (∀ i, i < B.length → zA σ 3 i = nI (B.getD i 0)) ∧ ∀ c ∈ B, c < 256
theorem zTp_fr {lo hi : Nat} {σ τ : zH} (h : zFr lo hi σ τ) {B : List Nat} (h8 : 3 < lo) (hB : zTp σ B) : zTp τ B := by
  unfold zTp at *
  rw [h.1, h.2.1, (zFr_o h (a := 2) (by omega)).2.2.1, (zFr_o h (a := 2) (by omega)).1, (zFr_o h (a := 3) (by omega)).2.2.2.1]
  exact hB
/-- stuck, how the cards lie, choices taken, steps done -/
abbrev zPf : Type := Bool × zTS × Nat × Nat
def zpp (B : List Nat) (s : zStp) (st : zPf) : zPf := if zfree (zpW s) (zpH s) then (if B.length ≤ st.2.2.1 ∨ zasks (zpW s) (zpP s) (zpQ s) (zpl st.2.1) ≤ B.getD st.2.2.1 0 then (true, st.2.1, st.2.2.1, st.2.2.2) else (false, zacS s st.2.1 (B.getD st.2.2.1 0), st.2.2.1 + 1, st.2.2.2)) else (false, zacS s st.2.1 0, st.2.2.1, st.2.2.2)
def zdn1 (st : zPf) : zPf := if st.1 then st else (false, st.2.1, st.2.2.1, st.2.2.2 + 1)
def zit (g : zPf → zPf) : Nat → zPf → zPf
  | 0, s => s
  | m + 1, s => zit g m (g s)
def zpf (D : zDT) (St : List zStp) (B : List Nat) : Nat → Nat → Nat → zPf → zPf
  | 0, _, _, st => st
  | f + 1, a, b, st => if b ≤ a ∨ st.1 = true then st else zpf D St B f (zpA (zSg St a)) b (zdn1 (if zpW (zSg St a) = 11 then zit (fun s => zpf D St B f (a + 1) (zpA (zSg St a)) s) (zpH (zSg St a)) st else if zpW (zSg St a) = 12 then (if zmeet D (zpC (zSg St a)) st.2.1 then zpf D St B f (a + 1) (zpM (zSg St a)) st else zpf D St B f (zpM (zSg St a)) (zpA (zSg St a)) st) else zpp B (zSg St a) st))
def zSh (σ : zH) (n : Nat) (B : List Nat) (pl : Int32) (st : zPf) : Prop := (zK σ 54 = 4 ∧ zQ σ 54 0 = 4 ∧ zQ σ 54 1 = 2 ∧ zQ σ 54 2 = 55) ∧ zI σ 54 3 = pl ∧ zI σ 54 4 = nI (zbn1 st.1) ∧ zI σ 54 5 = nI st.2.2.2 ∧ zI σ 54 6 = nI st.2.2.1 ∧ zTc σ 55 (zpl st.2.1) (zmk st.2.1) ∧ st.2.2.1 ≤ B.length ∧ zVS n st.2.1
theorem zTc_sI {σ : zH} {t a j : Nat} {v : Int32} {P : Nat → List Nat} {mk : Nat} (h : zTc σ t P mk) (ha : a < t ∨ t + 4 ≤ a) : zTc (zsI σ a j v) t P mk := zTc_fr (lo := a) (hi := a + 1) (zFr_sI j v (by omega) (by omega)) (by omega) h
theorem zTc_ts {σ : zH} {t : Nat} {a : (Nat → List Nat) × Nat} (h : zTc σ t a.1 a.2) : zTc σ t (zpl (zts a)) (zmk (zts a)) := by
  refine ⟨h.1, fun p hp => ?_, h.2.2⟩
  rw [zpl_ts a hp]
  exact h.2.1 p hp
set_option maxHeartbeats 4000000 in
theorem p_splain {d n so : Nat} {σ : zH} {B : List Nat} {pl : Int32} {s : zStp} {st : zPf} (hso : 59 ≤ so) (hS : zSr σ so (zpW s) (zpP s) (zpQ s) (zpG s) (zpH s)) (hw : zSw (zpW s) (zpP s) (zpQ s) (zpG s) (zpH s)) (hB : zTp σ B) (hSh : zSh σ n B pl st) (hst : st.1 = false) {Q : Option Value → zH → Prop} (hQ : ∀ τ, zSh τ n B pl (zpp B s st) → zFr 54 59 σ τ → Q none τ) : zM (d + 4) 45 [.ref 54, .ref so] σ Q := by
  obtain ⟨sk, x, tk, dn⟩ := st
  simp only at hst
  subst hst
  obtain ⟨⟨a1, a2, a3, a4⟩, b1, b2, b3, b4, b5, b6, b7⟩ := hSh
  simp only at b2 b3 b4 b5 b6 b7
  have ⟨t1, t2, t3, t4, t5, t6, t7, t8⟩ := hB
  have hV : zVP n (zpl x) (zmk x) := b7
  have ht9 : zTot (zpl x) ≤ 9 := by have := hV.1; have := hV.2.1; omega
  refine b45 ?_
  refine ⟨hS.1, e_isFree hS hw ?_⟩
  rw [zqi_s]
  by_cases hfr : zfree (zpW s) (zpH s) = true
  · rw [if_pos hfr, if_neg (by decide), a1, a3, a4, b4, t1, t2, t3, t4, t5]
    refine ⟨rfl, rfl, ?_⟩
    have hstuck : B.length ≤ tk ∨ zasks (zpW s) (zpP s) (zpQ s) (zpl x) ≤ B.getD tk 0 → Q none (zsI σ 54 4 (nI 1)) := by
      intro h
      have hz : zpp B s (false, x, tk, dn) = (true, x, tk, dn) := by unfold zpp; rw [if_pos hfr, if_pos h]
      refine hQ _ ?_ (zFr_sI 4 _ (by omega) (by omega))
      rw [hz]
      refine ⟨⟨a1, a2, a3, a4⟩, ?_, ?_, ?_, ?_, zTc_sI b5 (by omega), b6, b7⟩ <;> simp only [zh] <;> simp <;> first | assumption | rfl
    by_cases hl : B.length ≤ tk
    · rw [if_pos (nI_le hl (by omega))]
      exact hstuck (Or.inl hl)
    · have hcl : (nI tk).toNatClampNeg = tk := zcl tk (by omega)
      rw [if_neg (nI_ge (by omega) (by omega)), hcl, t7 tk (by omega)]
      refine ⟨rfl, vp_in_nI (by omega) (by omega), b5.1.1, ?_⟩
      refine p_choicesAt b5 (by omega) hS hw ht9 ?_
      have hak := zasks_le hw hV
      have hB256 : B.getD tk 0 < 256 := t8 _ (zgd_mem (by omega))
      rw [zqi_s]
      by_cases hlt : B.getD tk 0 < zasks (zpW s) (zpP s) (zpQ s) (zpl x)
      · rw [if_pos (nI_lt hlt (by omega)), a1, a3, a4, b4, t1, t2, t3, t4, hcl, t7 tk (by omega), nI_add]
        refine ⟨rfl, rfl, rfl, vp_in_nI (by omega) (by omega), b5.1.1, ?_⟩
        have hF1 : zFr 54 59 σ (zsI σ 54 6 (nI (tk + 1))) := zFr_sI 6 _ (by omega) (by omega)
        have hSr1 : zSr (zsI σ 54 6 (nI (tk + 1))) so (zpW s) (zpP s) (zpQ s) (zpG s) (zpH s) := zSr_fr hF1 (by omega) hS
        refine p_act (d := d) (zTc_sI b5 (by omega)) (by omega) hSr1 hw ht9 hV.2.2.1 (by omega) (fun e6 => ?_) (fun τ hF hT => ?_)
        · have : zasks (zpW s) (zpP s) (zpQ s) (zpl x) = zbn ((zpl x) (zpP s)).length ((zpl x) (zpQ s)).length := by unfold zasks; rw [if_pos e6]
          omega
        · have hz : zpp B s (false, x, tk, dn) = (false, zacS s x (B.getD tk 0), tk + 1, dn) := by unfold zpp; rw [if_pos hfr, if_neg (by simp only; omega)]
          have o54 := zFr_o hF (a := 54) (by omega)
          rw [zqv_s]
          refine hQ τ ?_ (zFr_t hF1 (zFr_m hF (by omega) (by omega)))
          rw [hz]
          refine ⟨⟨by rw [hF.1]; exact a1, by rw [o54.2.2.1]; exact a2, by rw [o54.2.2.1]; exact a3, by rw [o54.2.2.1]; exact a4⟩, ?_, ?_, ?_, ?_, zTc_ts hT, by show tk + 1 ≤ B.length; omega, zVS_ts (zact_V hw hV)⟩ <;> rw [o54.1] <;> simp only [zh] <;> simp <;> assumption
      · rw [if_neg (nI_nlt (by omega) (by omega))]
        exact ⟨a1, hstuck (Or.inr (by omega))⟩
  · rw [if_neg hfr, if_pos (by decide), a1, a4]
    refine ⟨rfl, b5.1.1, ?_⟩
    refine p_act (d := d) b5 (by omega) hS hw ht9 hV.2.2.1 (by omega) (fun e6 => ?_) (fun τ hF hT => ?_)
    · exfalso
      apply hfr
      unfold zfree
      simp [e6]
    · have hz : zpp B s (false, x, tk, dn) = (false, zacS s x 0, tk, dn) := by unfold zpp; rw [if_neg hfr]
      have o54 := zFr_o hF (a := 54) (by omega)
      rw [zqv_s]
      refine hQ τ ?_ (zFr_m hF (by omega) (by omega))
      rw [hz]
      refine ⟨⟨by rw [hF.1]; exact a1, by rw [o54.2.2.1]; exact a2, by rw [o54.2.2.1]; exact a3, by rw [o54.2.2.1]; exact a4⟩, ?_, ?_, ?_, ?_, zTc_ts hT, b6, zVS_ts (zact_V hw hV)⟩ <;> rw [o54.1] <;> assumption
