/-! steps: word, pile, second pile, target, how many (11 free, 10 all) -/
def zhw (h : Nat) : Int32 := if h = 11 then -1 else if h = 10 then nI 9 else nI h
def zSr (σ : zH) (s w p q g h : Nat) : Prop := zK σ s = 6 ∧ zI σ s 0 = nI w ∧ zI σ s 1 = nI p ∧ ((w = 6 ∨ w = 7 ∨ w = 9) → zI σ s 2 = nI q) ∧ ((w = 1 ∨ w = 2 ∨ w = 3 ∨ w = 6 ∨ w = 7 ∨ w = 8) → zI σ s 3 = nI g) ∧ zI σ s 4 = zhw h
def zSw (w p q g h : Nat) : Prop := w ≤ 10 ∧ p < 4 ∧ ((w = 6 ∨ w = 7 ∨ w = 9) → q < 4 ∧ p ≠ q) ∧ ((w = 1 ∨ w = 2 ∨ w = 3 ∨ w = 6 ∨ w = 7 ∨ w = 8) → g < 4) ∧ ((w = 1 ∨ w = 2 ∨ w = 3 ∨ w = 8) → p ≠ g) ∧ h ≤ 11 ∧ ((w = 3 ∨ w = 5 ∨ w = 10) → 1 ≤ h ∧ h ≠ 10) ∧ ((w = 6 ∨ w = 7 ∨ w = 8 ∨ w = 9) → h = 0)
theorem zhw_m1 {h : Nat} (h1 : h ≤ 11) : zhw h = -1 ↔ h = 11 := by
  unfold zhw
  by_cases e : h = 11
  · simp [e]
  · rw [if_neg e]
    by_cases e2 : h = 10
    · rw [if_pos e2]
      exact ⟨fun q => absurd q (by decide), fun q => absurd q e⟩
    · rw [if_neg e2]
      refine ⟨fun q => ?_, fun q => absurd q e⟩
      exfalso
      rcases (show h = 0 ∨ h = 1 ∨ h = 2 ∨ h = 3 ∨ h = 4 ∨ h = 5 ∨ h = 6 ∨ h = 7 ∨ h = 8 ∨ h = 9 by omega) with rfl | rfl | rfl | rfl | rfl | rfl | rfl | rfl | rfl | rfl <;> exact absurd q (by decide)
/-- whether a step is free -/
def zfree (w h : Nat) : Bool := w == 6 || h == 11
/-- how many choices a free step has -/
def zasks (w p q : Nat) (P : Nat → List Nat) : Nat := if w = 6 then zbn (P p).length (P q).length else if w = 0 ∨ w = 3 ∨ w = 5 ∨ w = 10 then max (P p).length 1 else (P p).length + 1
/-- what a plain step does -/
def zact (w p q g h c : Nat) (P : Nat → List Nat) (mk : Nat) : (Nat → List Nat) × Nat :=
  let m := min (if h = 11 then c else h) (P p).length
  let k := if h = 11 then c + 1 else h
  match w with
  | 0 => (zu P p ((P p).drop m ++ (P p).take m), mk)
  | 1 => (zdeal m P p g, mk)
  | 2 => (zu (zu P p ((P p).drop m)) g ((P p).take m ++ P g), mk)
  | 3 => (if 1 ≤ k ∧ k ≤ (P p).length then zu (zu P p ((P p).eraseIdx (k - 1))) g ((P p).getD (k - 1) 0 :: P g) else P, mk)
  | 4 => (zu P p ((((P p).take m).map (fun c => c ^^^ 16)).reverse ++ (P p).drop m), mk)
  | 5 => (if 1 ≤ k ∧ k ≤ (P p).length then zu P p ((P p).set (k - 1) ((P p).getD (k - 1) 0 ^^^ 16)) else P, mk)
  | 6 => (zu (zu (zu P p []) q []) g (zrf ((P p).length + (P q).length) c (P p) (P q) ++ zu (zu P p []) q [] g), mk)
  | 7 => (zu (zu (zu P p []) q []) g (zfa ((P p).length + (P q).length) true (P p) (P q) ++ zu (zu P p []) q [] g), mk)
  | 8 => (zdown (P p).length P p g, mk)
  | 9 => (zu (zu P p (P q)) q (P p), mk)
  | _ => (P, if 1 ≤ k ∧ k ≤ (P p).length then (P p).getD (k - 1) 0 &&& 15 else mk)
theorem zif_not {α : Type} {c : Prop} [Decidable c] {a b : α} : (if ¬ c then a else b) = if c then b else a := by by_cases h : c <;> simp [h]
theorem e_isFree {d s w p q g h : Nat} {σ : zH} (hS : zSr σ s w p q g h) (hw : zSw w p q g h) {Q : Option Value → zH → Prop} (hQ : Q (some (.int (nI (if zfree w h then 1 else 0)))) σ) : zM d 54 [.ref s] σ Q := by
  obtain ⟨k0, f0, f1, f2, f3, f4⟩ := hS
  obtain ⟨w1, -, -, -, -, w6, -⟩ := hw
  refine b54 ?_
  simp (disch := omega) only [k0, f0, f4, true_and, nI_eq, zhw_m1 w6, zif_not]
  unfold zfree at hQ
  by_cases e : w = 6
  · rw [if_pos e]
    simpa [e] using hQ
  · rw [if_neg e]
    by_cases e2 : h = 11
    · rw [if_pos e2]
      simpa [e, e2] using hQ
    · rw [if_neg e2]
      simpa [e, e2] using hQ
theorem e_hasPlace {d s w p q g h : Nat} {σ : zH} (hS : zSr σ s w p q g h) (hw : zSw w p q g h) {Q : Option Value → zH → Prop} (hQ : Q (some (.int (nI (if w = 3 ∨ w = 5 ∨ w = 10 then 1 else 0)))) σ) : zM d 55 [.ref s] σ Q := by
  obtain ⟨k0, f0, f1, f2, f3, f4⟩ := hS
  obtain ⟨w1, -, -, -, -, w6, -⟩ := hw
  refine b55 ?_
  simp (disch := omega) only [k0, f0, true_and, nI_eq, zif_not]
  by_cases e : w = 3
  · rw [if_pos e]
    simpa [e] using hQ
  · rw [if_neg e]
    by_cases e2 : w = 5
    · rw [if_pos e2]
      simpa [e, e2] using hQ
    · rw [if_neg e2]
      by_cases e3 : w = 10
      · rw [if_pos e3]
        simpa [e, e2, e3] using hQ
      · rw [if_neg e3]
        simpa [e, e2, e3] using hQ
theorem zSr_Ta {σ : zH} {s t w p q g h : Nat} (hS : zSr σ s w p q g h) (hst : s ≠ t) (ly hd sz : Nat → Int32) (mk : Int32) : zSr (zTa σ t ly hd sz mk) s w p q g h := by
  unfold zSr at *
  simp only [zTa_k, zTa_oI ly hd sz mk hst]
  exact hS
set_option maxHeartbeats 1000000 in
theorem e_choicesAt {d t s w p q g h : Nat} {σ : zH} (hT : zTb σ t) (hst : s ≠ t) (hS : zSr σ s w p q g h) (hw : zSw w p q g h) {ly hd sz : Nat → Int32} {mk : Int32} {P : Nat → List Nat} (hR : zTR ly sz P) (ht : zTot P ≤ 9) {Q : Option Value → zH → Prop} (hQ : Q (some (.int (nI (zasks w p q P)))) (zTa σ t ly hd sz mk)) : zM (d + 1) 67 [.ref t, .ref s] (zTa σ t ly hd sz mk) Q := by
  have ⟨k0, k1, k2, k3, n1, n2, n3, q0, q1, q2, q3⟩ := hT
  have hS' := zSr_Ta hS hst ly hd sz mk
  have ⟨g0, f0, f1, f2, f3, f4⟩ := hS'
  simp only [zTa_k] at g0
  have ⟨w1, w2, w3, w4, w5, w6, w7, w8⟩ := hw
  have sp := (hR p w2).1
  have lp := (hR p w2).2.1
  refine b67 ?_
  (try simp (disch := omega) only [zh, zh_st, ↓reduceIte, Nat.add_left_cancel_iff, Nat.reduceEqDiff, Nat.add_sub_cancel, Nat.reduceAdd, Nat.reduceSub, Nat.reduceMul, ← nI_0, zu_same, zu_ne, zoi, zoi_m1, nI_add, pk_mul, pk_sub, zcl, nI_leI, nI_ltI, nI_eq, ite_not, reduceCtorEq, zqi_s, zql_s, zqv_s, true_and, and_true, vp_in_nI, if_pos, if_neg, not_true_eq_false, not_false_eq_true, or_true, true_or, or_false, false_or, and_self, zTa_k, zTa_ly, zTa_hd, zTa_sz, zTa_mk, zTa_r, k0, k3, n3, q3, g0, f0, f1, sp])
  by_cases e : w = 6
  · subst e
    have e2 := f2 (Or.inl rfl)
    obtain ⟨w31, w32⟩ := w3 (Or.inl rfl)
    have sq := (hR q w31).1
    have h2 := zTot_le2 (P := P) w2 w31 w32
    (try simp (disch := omega) only [zh, zh_st, ↓reduceIte, Nat.add_left_cancel_iff, Nat.reduceEqDiff, Nat.add_sub_cancel, Nat.reduceAdd, Nat.reduceSub, Nat.reduceMul, ← nI_0, zu_same, zu_ne, zoi, zoi_m1, nI_add, pk_mul, pk_sub, zcl, nI_leI, nI_ltI, nI_eq, ite_not, reduceCtorEq, zqi_s, zql_s, zqv_s, true_and, and_true, vp_in_nI, if_pos, if_neg, not_true_eq_false, not_false_eq_true, or_true, true_or, or_false, false_or, and_self, e2, sq])
    refine e_wtr (by omega) ?_
    unfold zasks at hQ
    rw [if_pos rfl] at hQ
    exact hQ
  · rw [if_neg e]
    unfold zasks at hQ
    rw [if_neg e] at hQ
    have hmx : (if (P p).length < 1 then nI 1 else nI (P p).length) = nI (max (P p).length 1) := by
      by_cases hl : (P p).length < 1
      · rw [if_pos hl, Nat.max_eq_right (by omega)]
      · rw [if_neg hl, Nat.max_eq_left (by omega)]
    by_cases e0 : w = 0
    · rw [if_pos (Or.inl e0)] at hQ
      rw [if_pos e0, hmx]
      exact hQ
    · rw [if_neg e0]
      refine e_hasPlace hS' hw ?_
      by_cases e3 : w = 3 ∨ w = 5 ∨ w = 10
      · rw [if_pos (Or.inr e3)] at hQ
        rw [if_pos e3]
        (try simp (disch := omega) only [zh, zh_st, ↓reduceIte, Nat.add_left_cancel_iff, Nat.reduceEqDiff, Nat.add_sub_cancel, Nat.reduceAdd, Nat.reduceSub, Nat.reduceMul, ← nI_0, zu_same, zu_ne, zoi, zoi_m1, nI_add, pk_mul, pk_sub, zcl, nI_leI, nI_ltI, nI_eq, ite_not, reduceCtorEq, zqi_s, zql_s, zqv_s, true_and, and_true, vp_in_nI, if_pos, if_neg, not_true_eq_false, not_false_eq_true, or_true, true_or, or_false, false_or, and_self, ])
        rw [hmx]
        exact hQ
      · rw [if_neg (by omega)] at hQ
        rw [if_neg e3]
        (try simp (disch := omega) only [zh, zh_st, ↓reduceIte, Nat.add_left_cancel_iff, Nat.reduceEqDiff, Nat.add_sub_cancel, Nat.reduceAdd, Nat.reduceSub, Nat.reduceMul, ← nI_0, zu_same, zu_ne, zoi, zoi_m1, nI_add, pk_mul, pk_sub, zcl, nI_leI, nI_ltI, nI_eq, ite_not, reduceCtorEq, zqi_s, zql_s, zqv_s, true_and, and_true, vp_in_nI, if_pos, if_neg, not_true_eq_false, not_false_eq_true, or_true, true_or, or_false, false_or, and_self, ])
        exact hQ
