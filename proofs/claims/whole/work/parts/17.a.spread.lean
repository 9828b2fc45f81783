/-! the class's Spread -/
def zWs (w : Nat) : Prop := w = 19 ∨ w = 24 ∨ w = 34 ∨ w = 39 ∨ w = 44 ∨ w = 49
/-- pointers nw, nx, wt; what each Ways holds; large -/
def zSp (σ : zH) (nw nx : Nat) (wt : Nat → Nat) (C : Nat → List (Nat × Nat)) (lg : Bool) : Prop := (zK σ 18 = 5 ∧ zQ σ 18 0 = 30 ∧ zQ σ 18 3 = 29 ∧ zK σ 29 = 24 ∧ zN σ 29 = 4) ∧ zTb σ 30 ∧ (zQ σ 18 1 = nw ∧ zQ σ 18 2 = nx ∧ ∀ i, i < 4 → zS σ 29 i = wt i) ∧ (zWs nw ∧ zWs nx ∧ ∀ i, i < 4 → zWs (wt i)) ∧ (∀ w, zWs w → zWc σ w (C w)) ∧ zI σ 18 4 = nI (zbn1 lg)
/-- what is in use from depth dp on -/
def zAct (dp nw nx : Nat) (wt : Nat → Nat) (w : Nat) : Prop := w = nw ∨ w = nx ∨ ∃ j, dp ≤ j ∧ j < 4 ∧ w = wt j
def zDis (dp nw nx : Nat) (wt : Nat → Nat) : Prop := nw ≠ nx ∧ (∀ j, dp ≤ j → j < 4 → wt j ≠ nw ∧ wt j ≠ nx) ∧ ∀ i j, dp ≤ i → i < 4 → dp ≤ j → j < 4 → wt i = wt j → i = j
theorem zWs_sep {w v : Nat} (h1 : zWs w) (h2 : zWs v) (h : w ≠ v) : w + 5 ≤ v ∨ v + 5 ≤ w := by
  unfold zWs at *
  omega
theorem zWs_t {w : Nat} (h1 : zWs w) : (w + 5 ≤ 30 ∨ 34 ≤ w) ∧ 18 < w ∧ w + 5 ≤ 54 ∧ (w + 5 ≤ 29 ∨ 30 < w) := by
  unfold zWs at *
  omega
/-- the table changes -/
theorem zSp_t {σ τ : zH} {nw nx : Nat} {wt : Nat → Nat} {C : Nat → List (Nat × Nat)} {lg : Bool} (h : zSp σ nw nx wt C lg) (hf : zFr 30 34 σ τ) (hb : zTb τ 30) : zSp τ nw nx wt C lg := by
  obtain ⟨⟨a1, a2, a3, a4, a5⟩, -, ⟨c1, c2, c3⟩, d1, e1, f1⟩ := h
  have o18 := zFr_o hf (a := 18) (by omega)
  have o29 := zFr_o hf (a := 29) (by omega)
  refine ⟨⟨by rw [hf.1]; exact a1, by rw [o18.2.2.1]; exact a2, by rw [o18.2.2.1]; exact a3, by rw [hf.1]; exact a4, by rw [hf.2.1]; exact a5⟩, hb, ⟨by rw [o18.2.2.1]; exact c1, by rw [o18.2.2.1]; exact c2, by rw [o29.2.2.2.2.2]; exact c3⟩, d1, fun w hw => zWc_fr hf (by have := zWs_t hw; omega) (e1 w hw), by rw [o18.1]; exact f1⟩
/-- one Ways changes -/
theorem zSp_w {σ τ : zH} {nw nx : Nat} {wt : Nat → Nat} {C : Nat → List (Nat × Nat)} {lg : Bool} (h : zSp σ nw nx wt C lg) {v : Nat} (hv : zWs v) {L : List (Nat × Nat)} (hf : zFr v (v + 5) σ τ) (hb : zWc τ v L) : zSp τ nw nx wt (zu C v L) lg := by
  obtain ⟨⟨a1, a2, a3, a4, a5⟩, b1, ⟨c1, c2, c3⟩, d1, e1, f1⟩ := h
  have hv' := zWs_t hv
  have o18 := zFr_o hf (a := 18) (by omega)
  have o29 := zFr_o hf (a := 29) (by omega)
  refine ⟨⟨by rw [hf.1]; exact a1, by rw [o18.2.2.1]; exact a2, by rw [o18.2.2.1]; exact a3, by rw [hf.1]; exact a4, by rw [hf.2.1]; exact a5⟩, zTb_fr hf (by omega) b1, ⟨by rw [o18.2.2.1]; exact c1, by rw [o18.2.2.1]; exact c2, by rw [o29.2.2.2.2.2]; exact c3⟩, d1, fun w hw => ?_, by rw [o18.1]; exact f1⟩
  by_cases e : w = v
  · rw [e, zu_same]; exact hb
  · rw [zu_ne _ _ e]
    exact zWc_fr hf (by have := zWs_sep hw hv e; omega) (e1 w hw)
/-- the Spread's own fields change -/
theorem zSp_lg {σ : zH} {nw nx : Nat} {wt : Nat → Nat} {C : Nat → List (Nat × Nat)} {lg : Bool} (h : zSp σ nw nx wt C lg) (lg' : Bool) : zSp (zsI σ 18 4 (nI (zbn1 lg'))) nw nx wt C lg' := by
  have hf : zFr 18 19 σ (zsI σ 18 4 (nI (zbn1 lg'))) := zFr_sI 4 _ (by omega) (by omega)
  obtain ⟨a, b1, c, d1, e1, f1⟩ := h
  refine ⟨a, zTb_fr hf (by omega) b1, c, d1, fun w hw => zWc_fr hf (by have := zWs_t hw; omega) (e1 w hw), by simp only [zh, and_self, if_true]⟩
theorem zSp_nw {σ : zH} {nw nx : Nat} {wt : Nat → Nat} {C : Nat → List (Nat × Nat)} {lg : Bool} (h : zSp σ nw nx wt C lg) {v : Nat} (hv : zWs v) : zSp (zsQ σ 18 1 v) v nx wt C lg := by
  have hf : zFr 18 19 σ (zsQ σ 18 1 v) := zFr_sQ 1 v (by omega) (by omega)
  obtain ⟨⟨a1, a2, a3, a4, a5⟩, b1, ⟨c1, c2, c3⟩, ⟨d1, d2, d3⟩, e1, f1⟩ := h
  refine ⟨⟨a1, ?_, ?_, a4, a5⟩, zTb_fr hf (by omega) b1, ⟨?_, ?_, c3⟩, ⟨hv, d2, d3⟩, fun w hw => zWc_fr hf (by have := zWs_t hw; omega) (e1 w hw), f1⟩ <;> simp only [zh] <;> simp <;> assumption
theorem zSp_nx {σ : zH} {nw nx : Nat} {wt : Nat → Nat} {C : Nat → List (Nat × Nat)} {lg : Bool} (h : zSp σ nw nx wt C lg) {v : Nat} (hv : zWs v) : zSp (zsQ σ 18 2 v) nw v wt C lg := by
  have hf : zFr 18 19 σ (zsQ σ 18 2 v) := zFr_sQ 2 v (by omega) (by omega)
  obtain ⟨⟨a1, a2, a3, a4, a5⟩, b1, ⟨c1, c2, c3⟩, ⟨d1, d2, d3⟩, e1, f1⟩ := h
  refine ⟨⟨a1, ?_, ?_, a4, a5⟩, zTb_fr hf (by omega) b1, ⟨?_, ?_, c3⟩, ⟨d1, hv, d3⟩, fun w hw => zWc_fr hf (by have := zWs_t hw; omega) (e1 w hw), f1⟩ <;> simp only [zh] <;> simp <;> assumption
theorem zSp_wt {σ : zH} {nw nx : Nat} {wt : Nat → Nat} {C : Nat → List (Nat × Nat)} {lg : Bool} (h : zSp σ nw nx wt C lg) {v i : Nat} (hv : zWs v) : zSp (zsS σ 29 i v) nw nx (zu wt i v) C lg := by
  have hf : zFr 29 30 σ (zsS σ 29 i v) := by rw [zsS_w]; exact zFr_wS _ (by omega) (by omega)
  obtain ⟨⟨a1, a2, a3, a4, a5⟩, b1, ⟨c1, c2, c3⟩, ⟨d1, d2, d3⟩, e1, f1⟩ := h
  refine ⟨⟨a1, a2, a3, a4, a5⟩, zTb_fr hf (by omega) b1, ⟨c1, c2, fun j hj => ?_⟩, ⟨d1, d2, fun j hj => ?_⟩, fun w hw => zWc_fr hf (by have := zWs_t hw; omega) (e1 w hw), f1⟩
  · rw [zsS_w]
    simp only [zh, if_true]
    unfold zu
    split
    · rfl
    · exact c3 j hj
  · unfold zu
    split
    · exact hv
    · exact d3 j hj
/-- the steps: word, pile, second, target, how, middle, after, codes -/
abbrev zStp : Type := Nat × Nat × Nat × Nat × Nat × Nat × Nat × List zCd
def zpW (s : zStp) : Nat := s.1
def zpP (s : zStp) : Nat := s.2.1
def zpQ (s : zStp) : Nat := s.2.2.1
def zpG (s : zStp) : Nat := s.2.2.2.1
def zpH (s : zStp) : Nat := s.2.2.2.2.1
def zpM (s : zStp) : Nat := s.2.2.2.2.2.1
def zpA (s : zStp) : Nat := s.2.2.2.2.2.2.1
def zpC (s : zStp) : List zCd := s.2.2.2.2.2.2.2
/-- one way out of x, by choice c -/
def zacS (s : zStp) (x : zTS) (c : Nat) : zTS := zts (zact (zpW s) (zpP s) (zpQ s) (zpG s) (zpH s) c (zpl x) (zmk x))
def zchs (s : zStp) (x : zTS) : Nat := if zfree (zpW s) (zpH s) then zasks (zpW s) (zpP s) (zpQ s) (zpl x) else 1
def zrw (s : zStp) (r : List Nat) (c : Nat) : List Nat := if zfree (zpW s) (zpH s) then r ++ [c] else r
def zinn (s : zStp) (x : zTS) (r : List Nat) : Nat → Nat → zSt → Option zSt
  | 0, _, M => some M
  | m + 1, c, M => match zputS M (zacS s x c) (zrw s r c) with
    | none => none
    | some M' => zinn s x r m (c + 1) M'
def zall (s : zStp) : zSt → zSt → Option zSt
  | [], M => some M
  | (x, r) :: E, M => match zinn s x r (zchs s x) 0 M with
    | none => none
    | some M' => zall s E M'
