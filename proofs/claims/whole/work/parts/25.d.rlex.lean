/-! the reference's next token -/
def zsc (k : Nat) : Nat := [123, 125, 40, 41, 59, 61, 289, 60, 316, 62, 318].getD (k - 37) 0
def zRtk (σ : zH) (t : zTok) : Prop := zI σ 160 14 = nI t.2.2 ∧ (t.1 = 49 → zI σ 160 13 = nI 0) ∧ (t.1 ≤ 35 → zI σ 160 13 = nI 1 ∧ ∃ x, x < 2 ^ 63 ∧ zJ σ 160 18 = lN x ∧ ∀ k, k < 35 → (x = zwdn k ↔ t.1 = k)) ∧ (t.1 = 36 → zI σ 160 13 = nI 2 ∧ zI σ 160 15 = nI t.2.1) ∧ (37 ≤ t.1 → t.1 ≤ 47 → zI σ 160 13 = nI 3 ∧ zI σ 160 15 = nI (zsc t.1)) ∧ (t.1 = 48 → zI σ 160 13 = nI 4)
def zgn : List zTok → List zTok
  | _ :: b :: l => b :: l
  | l => l
def zhdt (R : List zTok) : zTok := R.headD (49, 0, 0)
theorem zgn_c {t : zTok} {R : List zTok} (h : 1 ≤ R.length) : zgn (t :: R) = R := by
  cases R with
  | nil => simp at h
  | cons b l => rfl
theorem zidx_le (w : List Nat) : zWL.idxOf w ≤ 35 := by
  have := List.idxOf_le_length (a := w) (l := zWL)
  rw [zWL_n] at this
  exact this
theorem zall_eq {w : List Nat} (h : w.all zcR = true) (fl : Bool) : w.all (fun c => zcA c == fl) = if fl then w.all zcA else w.all zcD := by
  induction w with
  | nil => cases fl <;> rfl
  | cons c w ih =>
    rw [List.all_cons, Bool.and_eq_true] at h
    have e := zcR_ad h.1
    rw [List.all_cons, List.all_cons, List.all_cons, ih h.2, e]
    cases fl <;> cases zcD c <;> rfl
/-- what a run of the reference gives is the token -/
theorem zRtk_run {σ0 τ : zH} {B : List Nat} {i : Nat} {fl : Bool} (hi : i < B.length) (hr : zcR (B.getD i 0) = true) (hfl : fl = zcA (B.getD i 0)) (h : zRu σ0 τ i fl (i + (zWd B i).length) (zWd B i) (zWd B i)) (h13 : zI τ 160 13 = nI (zrk fl (zWd B i))) : zRtk τ (zwdk (zWd B i), zwdv (zWd B i), i) := by
  have hall : (zWd B i).all zcR = true := ztw_all _
  have hcons : zWd B i = B.getD i 0 :: zWd B (i + 1) := (zWd_u B i).trans (if_pos ⟨hi, hr⟩)
  obtain ⟨-, -, r3, r4, r5⟩ := h
  have e1 := zall_eq hall fl
  have hA0 : (zWd B i).all zcA = true → fl = true := by
    intro q
    rw [hcons, List.all_cons, Bool.and_eq_true] at q
    rw [hfl]; exact q.1
  have hD0 : (zWd B i).all zcD = true → fl = false := by
    intro q
    rw [hcons, List.all_cons, Bool.and_eq_true] at q
    rw [hfl, zcR_ad hr, q.1]; rfl
  unfold zrk at h13
  rw [e1] at h13
  generalize zWd B i = w at *
  have hle := zidx_le w
  by_cases c1 : w.all zcA = true ∧ w.length ≤ 8
  · have f1 := hA0 c1.1
    rw [f1, if_pos ⟨c1.1, by simpa using c1.2⟩] at h13
    have ek : zwdk w = zWL.idxOf w := by unfold zwdk; rw [if_pos c1]
    refine ⟨r3, ?_, ?_, ?_, ?_, ?_⟩ <;> simp only [ek]
    · omega
    · refine fun _ => ⟨h13, zpkw w, zpkw_63 c1.1 c1.2, by rw [r5, List.take_of_length_le c1.2], fun k hk => zidx_iff hk c1.1⟩
    · omega
    · omega
    · omega
  · by_cases c2 : w.all zcD = true ∧ w.length ≤ 2
    · have f1 := hD0 c2.1
      rw [f1, if_pos ⟨c2.1, by simpa using c2.2⟩] at h13
      have ek : zwdk w = 36 := by unfold zwdk; rw [if_neg c1, if_pos c2]
      refine ⟨r3, ?_, ?_, ?_, ?_, ?_⟩ <;> simp only [ek]
      · omega
      · omega
      · refine fun _ => ⟨h13, ?_⟩
        rw [r4, f1, if_neg (by decide), List.take_of_length_le c2.2, znr_f, znf_n c2.1]
        unfold zwdv
        rw [if_pos c2]
      · omega
      · omega
    · have ek : zwdk w = 48 := by unfold zwdk; rw [if_neg c1, if_neg c2]
      have h4 : zI τ 160 13 = nI 4 := by
        rw [h13]
        cases fl with
        | true => rw [if_neg (fun q => c1 (by simpa using q))]
        | false => rw [if_neg (fun q => c2 (by simpa using q))]
      refine ⟨r3, ?_, ?_, ?_, ?_, ?_⟩ <;> simp only [ek]
      · omega
      · omega
      · omega
      · omega
      · exact fun _ => h4
