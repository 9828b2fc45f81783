/-! texts as tokens: kind (the class's), number, place -/
def zcA (c : Nat) : Bool := decide (97 ≤ c) && decide (c ≤ 122)
def zcD (c : Nat) : Bool := decide (48 ≤ c) && decide (c ≤ 57)
def zcR (c : Nat) : Bool := zcA c || zcD c
def zcB (c : Nat) : Bool := decide (c = 32) || decide (c = 10)
/-- the words, by their kinds -/
def zWL : List (List Nat) := (List.range 35).map (fun k => ((zwtx.drop (8 * k)).take 8).filter (fun c => decide (c ≠ 32)))
/-- the run of letters and digits from a place on -/
def zWd (B : List Nat) (i : Nat) : List Nat := (B.drop i).takeWhile zcR
def zwdk (w : List Nat) : Nat := if w.all zcA = true ∧ w.length ≤ 8 then zWL.idxOf w else if w.all zcD = true ∧ w.length ≤ 2 then 36 else 48
def zwdv (w : List Nat) : Nat := if w.all zcD = true ∧ w.length ≤ 2 then w.foldl (fun a c => a * 10 + (c - 48)) 0 else 0
def zsk (c : Nat) (eq : Bool) : Nat := if c = 33 then (if eq then 43 else 48) else if c = 40 then 39 else if c = 41 then 40 else if c = 59 then 41 else if c = 60 then (if eq then 45 else 44) else if c = 61 then 42 else if c = 62 then (if eq then 47 else 46) else if c = 123 then 37 else if c = 125 then 38 else 48
def zsl (k : Nat) : Nat := if k = 43 ∨ k = 45 ∨ k = 47 then 2 else 1
def zeqn (B : List Nat) (i : Nat) : Bool := decide (i + 1 < B.length) && decide (B.getD (i + 1) 0 = 61)
abbrev zTok : Type := Nat × Nat × Nat
def ztk (B : List Nat) (i : Nat) : zTok × Nat := if zcR (B.getD i 0) = true then ((zwdk (zWd B i), zwdv (zWd B i), i), i + (zWd B i).length) else ((zsk (B.getD i 0) (zeqn B i), 0, i), i + zsl (zsk (B.getD i 0) (zeqn B i)))
def zTF (B : List Nat) : Nat → Nat → List zTok
  | 0, _ => [(49, 0, B.length)]
  | f + 1, i => if B.length ≤ i then [(49, 0, B.length)] else if zcB (B.getD i 0) = true then zTF B f (i + 1) else (ztk B i).1 :: zTF B f (ztk B i).2
def zTk (B : List Nat) (i : Nat) : List zTok := zTF B (B.length - i) i
theorem zWd_u (B : List Nat) (i : Nat) : zWd B i = if i < B.length ∧ zcR (B.getD i 0) = true then B.getD i 0 :: zWd B (i + 1) else [] := by
  unfold zWd
  by_cases h : i < B.length
  · rw [List.drop_eq_getElem_cons h, List.takeWhile_cons]
    have e : B.getD i 0 = B[i] := by simp [List.getD, h]
    rw [e]
    by_cases h2 : zcR B[i] = true
    · rw [if_pos h2, if_pos ⟨h, h2⟩]
    · rw [if_neg h2, if_neg (fun q => h2 q.2)]
  · rw [if_neg (fun q => h q.1), List.drop_eq_nil_of_le (by omega)]
    rfl
theorem ztw_le (p : Nat → Bool) (l : List Nat) : (l.takeWhile p).length ≤ l.length := by
  induction l with
  | nil => simp
  | cons a l ih =>
    rw [List.takeWhile_cons]
    split
    · simp only [List.length_cons]; omega
    · simp
theorem zgdE {l : List Nat} {i d : Nat} (h : i < l.length) : l.getD i d = l[i] := by simp [List.getD, h]
theorem zWd_le (B : List Nat) (i : Nat) (h : i ≤ B.length) : i + (zWd B i).length ≤ B.length := by
  have h1 := ztw_le zcR (B.drop i)
  rw [List.length_drop] at h1
  unfold zWd
  omega
theorem zsk_eq {c : Nat} {eq : Bool} (h : zsl (zsk c eq) = 2) : eq = true := by
  cases eq with
  | true => rfl
  | false =>
    have h1 : ¬ (zsk c false = 43 ∨ zsk c false = 45 ∨ zsk c false = 47) := by
      unfold zsk
      simp only [Bool.false_eq_true, if_false]
      repeat' split
      all_goals decide
    unfold zsl at h
    rw [if_neg h1] at h
    omega
theorem zsl_12 (k : Nat) : 1 ≤ zsl k ∧ zsl k ≤ 2 := by
  unfold zsl
  split <;> omega
theorem ztk_e {B : List Nat} {i : Nat} (h : i < B.length) : i < (ztk B i).2 ∧ (ztk B i).2 ≤ B.length := by
  unfold ztk
  split
  · rename_i hr
    have h1 := zWd_le B i (by omega)
    have h2 := zWd_u B i
    rw [if_pos ⟨h, hr⟩] at h2
    have h3 : (zWd B i).length = (zWd B (i + 1)).length + 1 := by rw [h2]; rfl
    simp only
    omega
  · simp only
    have h1 := zsl_12 (zsk (B.getD i 0) (zeqn B i))
    refine ⟨by omega, ?_⟩
    by_cases h2 : zsl (zsk (B.getD i 0) (zeqn B i)) = 2
    · have h3 := zsk_eq h2
      unfold zeqn at h3
      simp only [Bool.and_eq_true, decide_eq_true_eq] at h3
      omega
    · omega
theorem zTF_f {B : List Nat} : ∀ (f i : Nat), B.length - i ≤ f → zTF B f i = zTF B (B.length - i) i := by
  intro f
  induction f using Nat.strongRecOn with
  | ind f ih =>
    intro i h
    by_cases hi : B.length ≤ i
    · rw [show B.length - i = 0 by omega]
      cases f with
      | zero => rfl
      | succ f => rw [zTF, zTF, if_pos hi]
    · obtain ⟨f', rfl⟩ : ∃ f', f = f' + 1 := ⟨f - 1, by omega⟩
      obtain ⟨g, hg⟩ : ∃ g, B.length - i = g + 1 := ⟨B.length - i - 1, by omega⟩
      have he := ztk_e (B := B) (i := i) (by omega)
      rw [hg, zTF, zTF, if_neg hi, if_neg hi]
      split
      · rw [ih f' (by omega) (i + 1) (by omega), show B.length - (i + 1) = g by omega]
      · rw [ih f' (by omega) _ (by omega), ← ih g (by omega) (ztk B i).2 (by omega)]
theorem zTk_u (B : List Nat) (i : Nat) : zTk B i = if B.length ≤ i then [(49, 0, B.length)] else if zcB (B.getD i 0) = true then zTk B (i + 1) else (ztk B i).1 :: zTk B (ztk B i).2 := by
  unfold zTk
  by_cases hi : B.length ≤ i
  · rw [if_pos hi, show B.length - i = 0 by omega, zTF]
  · obtain ⟨g, hg⟩ : ∃ g, B.length - i = g + 1 := ⟨B.length - i - 1, by omega⟩
    have he := ztk_e (B := B) (i := i) (by omega)
    rw [if_neg hi, hg, zTF, if_neg hi]
    split
    · rw [show B.length - (i + 1) = g by omega]
    · rw [zTF_f g _ (by omega)]
theorem zTk_len {B : List Nat} : ∀ (m i : Nat), B.length - i ≤ m → (zTk B i).length ≤ B.length - i + 1 ∧ 1 ≤ (zTk B i).length := by
  intro m
  induction m with
  | zero =>
    intro i h
    rw [zTk_u, if_pos (by omega)]
    simp
  | succ m ih =>
    intro i h
    rw [zTk_u]
    by_cases hi : B.length ≤ i
    · rw [if_pos hi]
      simp
    · rw [if_neg hi]
      have he := ztk_e (B := B) (i := i) (by omega)
      split
      · have := ih (i + 1) (by omega)
        omega
      · have := ih (ztk B i).2 (by omega)
        rw [List.length_cons]
        omega
/-! words -/
theorem zWL_8 : ∀ k, k < 35 → (zWL.getD k []).length ≤ 8 ∧ ∀ i, i < 8 → zwtx.getD (k * 8 + i) 0 = (zWL.getD k []).getD i 32 := by decide +kernel
theorem zWL_a : ∀ w ∈ zWL, w.all zcA = true := by decide +kernel
theorem zWL_n : zWL.length = 35 := by decide +kernel
theorem zcA_32 {w : List Nat} (h : w.all zcA = true) : ∀ i, i < w.length → w.getD i 32 ≠ 32 := by
  intro i hi e
  rw [List.all_eq_true] at h
  have h2 := h (w.getD i 32) (by rw [zgdE hi]; exact List.getElem_mem hi)
  rw [e] at h2
  exact absurd h2 (by decide)
theorem zpad_eq {v w : List Nat} (hv : v.all zcA = true) (hw : w.all zcA = true) (hv8 : v.length ≤ 8) (hw8 : w.length ≤ 8) (h : ∀ i, i < 8 → v.getD i 32 = w.getD i 32) : v = w := by
  have o : ∀ (l : List Nat) i, l.length ≤ i → l.getD i 32 = 32 := fun l i h => by rw [List.getD_eq_getElem?_getD, List.getElem?_eq_none h]; rfl
  have hl : v.length = w.length := by
    rcases Nat.lt_trichotomy v.length w.length with q | q | q
    · exact absurd ((h v.length (by omega)).symm.trans (o v _ (Nat.le_refl _))) (zcA_32 hw _ q)
    · exact q
    · exact absurd ((h w.length (by omega)).trans (o w _ (Nat.le_refl _))) (zcA_32 hv _ q)
  refine List.ext_getElem hl (fun i h1 h2 => ?_)
  have := h i (by omega)
  rw [zgdE h1, zgdE h2] at this
  exact this
