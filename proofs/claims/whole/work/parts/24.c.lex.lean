/-! the class's row of tokens -/
def zTkb (σ : zH) : Prop := zK σ 10 = 9 ∧ zQ σ 10 0 = 11 ∧ zQ σ 10 1 = 12 ∧ zQ σ 10 2 = 13 ∧ zK σ 11 = 20 ∧ zK σ 12 = 20 ∧ zK σ 13 = 20 ∧ zN σ 11 = 901 ∧ zN σ 12 = 901 ∧ zN σ 13 = 901
def zTks (σ : zH) (T : List zTok) : Prop := zTkb σ ∧ zI σ 10 3 = nI T.length ∧ ∀ j, j < T.length → zA σ 11 j = nI (T.getD j (0, 0, 0)).1 ∧ zA σ 12 j = nI (T.getD j (0, 0, 0)).2.2 ∧ zA σ 13 j = nI (T.getD j (0, 0, 0)).2.1
theorem zTks_fr {lo hi : Nat} {σ τ : zH} (h : zFr lo hi σ τ) {T : List zTok} (h8 : 13 < lo) (hB : zTks σ T) : zTks τ T := by
  unfold zTks zTkb at *
  rw [h.1, h.2.1, (zFr_o h (a := 10) (by omega)).2.2.1, (zFr_o h (a := 10) (by omega)).1, (zFr_o h (a := 11) (by omega)).2.2.2.1, (zFr_o h (a := 12) (by omega)).2.2.2.1, (zFr_o h (a := 13) (by omega)).2.2.2.1]
  exact hB
theorem zgd_ap {T : List zTok} {x : zTok} {j : Nat} : (T ++ [x]).getD j (0, 0, 0) = if j < T.length then T.getD j (0, 0, 0) else if j = T.length then x else (0, 0, 0) := by
  simp only [List.getD]
  by_cases h : j < T.length
  · rw [List.getElem?_append_left h, if_pos h]
  · rw [List.getElem?_append_right (by omega), if_neg h]
    by_cases h2 : j = T.length
    · rw [if_pos h2, h2, Nat.sub_self]; rfl
    · rw [if_neg h2, List.getElem?_eq_none (by simp; omega)]; rfl
set_option maxHeartbeats 1000000 in
theorem p_tadd {d k v p : Nat} {σ : zH} {T : List zTok} (hT : zTks σ T) (hl : T.length ≤ 900) {Q : Option Value → zH → Prop} (hQ : ∀ τ, zTks τ (T ++ [(k, v, p)]) → zFr 10 14 σ τ → Q none τ) : zM d 88 [.ref 10, .int (nI k), .int (nI p), .int (nI v)] σ Q := by
  have ⟨⟨a1, a2, a3, a4, a5, a6, a7, a8, a9, a10⟩, b1, b2⟩ := hT
  refine b88 ?_
  rw [a1, a2, a3, a4, a5, a6, a7, a8, a9, a10, b1, zcl _ (by omega), nI_add, if_neg (nI_nlt (by omega) (by omega))]
  refine ⟨rfl, rfl, vp_in_nI (by omega) (by omega), rfl, vp_in_nI (by omega) (by omega), rfl, vp_in_nI (by omega) (by omega), hQ _ ⟨?_, ?_, ?_⟩ ?_⟩
  · exact ⟨a1, a2, a3, a4, a5, a6, a7, a8, a9, a10⟩
  · simp only [zh]
    simp
  · intro j hj
    rw [List.length_append] at hj
    simp only [List.length_cons, List.length_nil] at hj
    rw [zgd_ap]
    by_cases h : j < T.length
    · rw [if_pos h]
      have e : j ≠ T.length := by omega
      simp only [zh, zsA_w]
      simp (disch := omega) only [↓reduceIte, Nat.reduceEqDiff, zu_ne]
      exact b2 j h
    · have e : j = T.length := by omega
      rw [if_neg h, if_pos e, e]
      simp only [zh, zsA_w]
      simp (disch := omega) only [↓reduceIte, Nat.reduceEqDiff, zu_same, and_self]
  · simp only [zsA_w]
    exact zFr_t (zFr_t (zFr_t (zFr_wA _ (by omega) (by omega)) (zFr_wA _ (by omega) (by omega))) (zFr_wA _ (by omega) (by omega))) (zFr_sI _ _ (by omega) (by omega))
/-! runs -/
def znf (u : List Nat) : Int32 := u.foldl (fun a c => ((a * nI 10) + nI c) - nI 48) (nI 0)
theorem znf_s (u : List Nat) (c : Nat) : znf (u ++ [c]) = ((znf u * nI 10) + nI c) - nI 48 := by
  unfold znf
  rw [List.foldl_append]
  rfl
theorem znf_n {u : List Nat} (h : u.all zcD = true) : znf u = nI (u.foldl (fun a c => a * 10 + (c - 48)) 0) := by
  unfold znf
  have g : ∀ (l : List Nat) (a : Nat), l.all zcD = true → l.foldl (fun a c => ((a * nI 10) + nI c) - nI 48) (nI a) = nI (l.foldl (fun a c => a * 10 + (c - 48)) a) := by
    intro l
    induction l with
    | nil => intro a _; rfl
    | cons c l ih =>
      intro a hl
      rw [List.all_cons, Bool.and_eq_true] at hl
      have hc := hl.1
      unfold zcD at hc
      simp only [Bool.and_eq_true, decide_eq_true_eq] at hc
      rw [List.foldl_cons, List.foldl_cons, pk_mul, nI_add, pk_sub (by omega), show a * 10 + c - 48 = a * 10 + (c - 48) by omega]
      exact ih _ hl.2
  exact g u 0 h
theorem zcR_ad {c : Nat} (h : zcR c = true) : zcA c = !zcD c := by
  unfold zcR zcA zcD at *
  simp only [Bool.or_eq_true, Bool.and_eq_true, decide_eq_true_eq] at h
  by_cases h1 : 97 ≤ c
  · rw [decide_eq_true h1, decide_eq_true (show c ≤ 122 by omega), decide_eq_false (show ¬ c ≤ 57 by omega)]
    simp
  · rw [decide_eq_false h1, decide_eq_true (show 48 ≤ c by omega), decide_eq_true (show c ≤ 57 by omega)]
    simp
theorem zall_A {w : List Nat} (h : w.all zcR = true) : w.all zcA = !w.any zcD ∧ w.all zcD = !w.any zcA := by
  induction w with
  | nil => exact ⟨rfl, rfl⟩
  | cons c w ih =>
    rw [List.all_cons, Bool.and_eq_true] at h
    have e := zcR_ad h.1
    obtain ⟨i1, i2⟩ := ih h.2
    rw [List.all_cons, List.all_cons, List.any_cons, List.any_cons, i1, i2, e]
    cases zcD c <;> cases w.any zcD <;> cases w.any zcA <;> exact ⟨rfl, rfl⟩
theorem ztw_all (l : List Nat) : (l.takeWhile zcR).all zcR = true := by
  induction l with
  | nil => rfl
  | cons c l ih =>
    rw [List.takeWhile_cons]
    split
    · rename_i h
      rw [List.all_cons, h, ih]
      rfl
    · rfl
