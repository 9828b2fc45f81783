/-! the reference's object: 160, its rows 161 to 186 -/
def zMb (σ : zH) : Prop := zK σ 160 = 13 ∧ zQ σ 160 1 = 161 ∧ zK σ 161 = 22 ∧ zN σ 161 = 900 ∧ zQ σ 160 6 = 162 ∧ zK σ 162 = 20 ∧ zN σ 162 = 10 ∧ zQ σ 160 7 = 163 ∧ zK σ 163 = 20 ∧ zN σ 163 = 10 ∧ zQ σ 160 8 = 164 ∧ zK σ 164 = 20 ∧ zN σ 164 = 10 ∧ zQ σ 160 9 = 165 ∧ zK σ 165 = 20 ∧ zN σ 165 = 9 ∧ zQ σ 160 10 = 166 ∧ zK σ 166 = 20 ∧ zN σ 166 = 40 ∧ zQ σ 160 11 = 167 ∧ zK σ 167 = 20 ∧ zN σ 167 = 4 ∧ zQ σ 160 21 = 168 ∧ zK σ 168 = 21 ∧ zN σ 168 = 96 ∧ zQ σ 160 22 = 169 ∧ zK σ 169 = 20 ∧ zN σ 169 = 96 ∧ zQ σ 160 23 = 170 ∧ zK σ 170 = 20 ∧ zN σ 170 = 96 ∧ zQ σ 160 24 = 171 ∧ zK σ 171 = 20 ∧ zN σ 171 = 96 ∧ zQ σ 160 25 = 172 ∧ zK σ 172 = 20 ∧ zN σ 172 = 96 ∧ zQ σ 160 26 = 173 ∧ zK σ 173 = 20 ∧ zN σ 173 = 96 ∧ zQ σ 160 27 = 174 ∧ zK σ 174 = 20 ∧ zN σ 174 = 96 ∧ zQ σ 160 28 = 175 ∧ zK σ 175 = 20 ∧ zN σ 175 = 96 ∧ zQ σ 160 32 = 176 ∧ zK σ 176 = 20 ∧ zN σ 176 = 3200 ∧ zQ σ 160 33 = 177 ∧ zK σ 177 = 20 ∧ zN σ 177 = 3200 ∧ zQ σ 160 34 = 178 ∧ zK σ 178 = 20 ∧ zN σ 178 = 3200 ∧ zQ σ 160 35 = 179 ∧ zK σ 179 = 20 ∧ zN σ 179 = 3200 ∧ zQ σ 160 40 = 180 ∧ zK σ 180 = 20 ∧ zN σ 180 = 10 ∧ zQ σ 160 41 = 181 ∧ zK σ 181 = 20 ∧ zN σ 181 = 10 ∧ zQ σ 160 42 = 182 ∧ zK σ 182 = 21 ∧ zN σ 182 = 36012 ∧ zQ σ 160 43 = 183 ∧ zK σ 183 = 21 ∧ zN σ 183 = 36012 ∧ zQ σ 160 44 = 184 ∧ zK σ 184 = 20 ∧ zN σ 184 = 12 ∧ zQ σ 160 45 = 185 ∧ zK σ 185 = 20 ∧ zN σ 185 = 8192 ∧ zQ σ 160 62 = 186 ∧ zK σ 186 = 20 ∧ zN σ 186 = 9
def zRa (σ : zH) (pl mn hd rs : Nat → Int32) (mk : Int32) : zH := zsI (zwA (zwA (zwA (zwA σ 166 pl) 167 mn) 180 hd) 181 rs) 160 12 mk
theorem zRa_k (σ : zH) (pl mn hd rs : Nat → Int32) (mk : Int32) : zK (zRa σ pl mn hd rs mk) = zK σ ∧ zN (zRa σ pl mn hd rs mk) = zN σ ∧ zQ (zRa σ pl mn hd rs mk) = zQ σ ∧ zJ (zRa σ pl mn hd rs mk) = zJ σ ∧ zB (zRa σ pl mn hd rs mk) = zB σ ∧ zS (zRa σ pl mn hd rs mk) = zS σ ∧ zX (zRa σ pl mn hd rs mk) = zX σ ∧ zL (zRa σ pl mn hd rs mk) = zL σ := by
  refine ⟨?_, ?_, ?_, ?_, ?_, ?_, ?_, ?_⟩ <;> simp only [zRa, zh]
theorem zRa_r (σ : zH) (pl mn hd rs : Nat → Int32) (mk : Int32) : zA (zRa σ pl mn hd rs mk) 166 = pl ∧ zA (zRa σ pl mn hd rs mk) 167 = mn ∧ zA (zRa σ pl mn hd rs mk) 180 = hd ∧ zA (zRa σ pl mn hd rs mk) 181 = rs ∧ zI (zRa σ pl mn hd rs mk) 160 12 = mk := by
  refine ⟨?_, ?_, ?_, ?_, ?_⟩ <;> simp [zRa, zh]
theorem zRa_oA {σ : zH} (pl mn hd rs : Nat → Int32) (mk : Int32) {a : Nat} (h : a ≠ 166 ∧ a ≠ 167 ∧ a ≠ 180 ∧ a ≠ 181) : zA (zRa σ pl mn hd rs mk) a = zA σ a := by
  unfold zRa
  simp only [zh]
  rw [if_neg h.2.2.2, if_neg h.2.2.1, if_neg h.2.1, if_neg h.1]
theorem zRa_oI {σ : zH} (pl mn hd rs : Nat → Int32) (mk : Int32) {a i : Nat} (h : ¬ (a = 160 ∧ i = 12)) : zI (zRa σ pl mn hd rs mk) a i = zI σ a i := by
  unfold zRa
  simp only [zh]
  rw [if_neg h]
theorem zRa_pl (σ : zH) (pl mn hd rs f : Nat → Int32) (mk : Int32) : zwA (zRa σ pl mn hd rs mk) 166 f = zRa σ f mn hd rs mk := by
  apply zH_ext <;> first | (simp only [zRa, zh]; done) | (funext b i; simp only [zRa, zh]; done) | (funext b; simp only [zRa, zh]; by_cases h1 : b = 166 <;> by_cases h2 : b = 167 <;> by_cases h3 : b = 180 <;> by_cases h4 : b = 181 <;> simp [*])
theorem zRa_mn (σ : zH) (pl mn hd rs f : Nat → Int32) (mk : Int32) : zwA (zRa σ pl mn hd rs mk) 167 f = zRa σ pl f hd rs mk := by
  apply zH_ext <;> first | (simp only [zRa, zh]; done) | (funext b i; simp only [zRa, zh]; done) | (funext b; simp only [zRa, zh]; by_cases h1 : b = 166 <;> by_cases h2 : b = 167 <;> by_cases h3 : b = 180 <;> by_cases h4 : b = 181 <;> simp [*])
theorem zRa_hd (σ : zH) (pl mn hd rs f : Nat → Int32) (mk : Int32) : zwA (zRa σ pl mn hd rs mk) 180 f = zRa σ pl mn f rs mk := by
  apply zH_ext <;> first | (simp only [zRa, zh]; done) | (funext b i; simp only [zRa, zh]; done) | (funext b; simp only [zRa, zh]; by_cases h1 : b = 166 <;> by_cases h2 : b = 167 <;> by_cases h3 : b = 180 <;> by_cases h4 : b = 181 <;> simp [*])
theorem zRa_rs (σ : zH) (pl mn hd rs f : Nat → Int32) (mk : Int32) : zwA (zRa σ pl mn hd rs mk) 181 f = zRa σ pl mn hd f mk := by
  apply zH_ext <;> first | (simp only [zRa, zh]; done) | (funext b i; simp only [zRa, zh]; done) | (funext b; simp only [zRa, zh]; by_cases h1 : b = 166 <;> by_cases h2 : b = 167 <;> by_cases h3 : b = 180 <;> by_cases h4 : b = 181 <;> simp [*])
theorem zRa_mk (σ : zH) (pl mn hd rs : Nat → Int32) (mk v : Int32) : zsI (zRa σ pl mn hd rs mk) 160 12 v = zRa σ pl mn hd rs v := by unfold zRa; rw [zsI_sI]
theorem zRa_self (σ : zH) : zRa σ (zA σ 166) (zA σ 167) (zA σ 180) (zA σ 181) (zI σ 160 12) = σ := by
  apply zH_ext <;> first | (simp only [zRa, zh]; done) | (funext b; simp only [zRa, zh]; by_cases h1 : b = 166 <;> by_cases h2 : b = 167 <;> by_cases h3 : b = 180 <;> by_cases h4 : b = 181 <;> simp [*]; done) | (funext b i; simp only [zRa, zh]; by_cases h : b = 160 ∧ i = 12 <;> simp [h])
/-- its piles: ten places each, the uppermost card first -/
def zRR (pl mn : Nat → Int32) (P : Nat → List Nat) : Prop := ∀ p, p < 4 → mn p = nI (P p).length ∧ (P p).length ≤ 9 ∧ ∀ i, i < (P p).length → pl (10 * p + i) = nI ((P p).getD i 0)
theorem zgd_app' {a b : List Nat} (i : Nat) : (a ++ b).getD i 0 = if i < a.length then a.getD i 0 else b.getD (i - a.length) 0 := by
  rw [List.getD_eq_getElem?_getD, List.getD_eq_getElem?_getD, List.getD_eq_getElem?_getD]
  by_cases h : i < a.length
  · rw [if_pos h, List.getElem?_append_left h]
  · rw [if_neg h, List.getElem?_append_right (by omega)]
theorem zgd_take {l : List Nat} {n i : Nat} (h : i < n) : (l.take n).getD i 0 = l.getD i 0 := by
  rw [List.getD_eq_getElem?_getD, List.getD_eq_getElem?_getD, List.getElem?_take_of_lt h]
theorem zgd_dropN {l : List Nat} {n i : Nat} : (l.drop n).getD i 0 = l.getD (n + i) 0 := by
  rw [List.getD_eq_getElem?_getD, List.getD_eq_getElem?_getD, List.getElem?_drop]
/-! pick -/
set_option maxHeartbeats 1000000 in
theorem l_pick1 {d q fr n : Nat} {σ : zH} (hM : zMb σ) {pl mn rs : Nat → Int32} {mk : Int32} {P : Nat → List Nat} (hR : zRR pl mn P) (hq : q < 4) (hfn : fr + n ≤ (P q).length) {Q : Option Value → zH → Prop} : ∀ (m i : Nat), i + m = n → ∀ (hd : Nat → Int32), zHD hd (((P q).drop fr).take i) → (∀ hd', zHD hd' (((P q).drop fr).take n) → zW d 177 41 [(0, .ref 160), (1, .int (nI q)), (3, .int (nI n)), (4, .int (nI (fr + n)))] [] (zRa σ pl mn hd' rs mk) Q) → zW d 177 3 [(0, .ref 160), (1, .int (nI q)), (2, .int (nI fr)), (3, .int (nI n)), (4, .int (nI i))] [] (zRa σ pl mn hd rs mk) Q := by
  have ⟨mK0, mQ1, mK1, mN1, mQ6, mK6, mN6, mQ7, mK7, mN7, mQ8, mK8, mN8, mQ9, mK9, mN9, mQ10, mK10, mN10, mQ11, mK11, mN11, mQ21, mK21, mN21, mQ22, mK22, mN22, mQ23, mK23, mN23, mQ24, mK24, mN24, mQ25, mK25, mN25, mQ26, mK26, mN26, mQ27, mK27, mN27, mQ28, mK28, mN28, mQ32, mK32, mN32, mQ33, mK33, mN33, mQ34, mK34, mN34, mQ35, mK35, mN35, mQ40, mK40, mN40, mQ41, mK41, mN41, mQ42, mK42, mN42, mQ43, mK43, mN43, mQ44, mK44, mN44, mQ45, mK45, mN45, mQ62, mK62, mN62⟩ := hM
  obtain ⟨h1, h2, h3⟩ := hR q hq
  intro m
  induction m with
  | zero =>
    intro i hi hd hh hQ
    refine b177_3 ?_
    have e : i = n := by omega
    subst e
    (try simp (disch := omega) only [zh, zh_st, ↓reduceIte, Nat.add_left_cancel_iff, Nat.reduceEqDiff, Nat.add_sub_cancel, Nat.reduceAdd, Nat.reduceSub, Nat.reduceMul, ← nI_0, zu_same, zu_ne, zoi, zoi_m1, nI_add, pk_mul, pk_sub, zcl, nI_leI, nI_ltI, nI_eq, ite_not, reduceCtorEq, zqi_s, zql_s, zqv_s, true_and, and_true, vp_in_nI, if_pos, if_neg, not_true_eq_false, not_false_eq_true, or_true, true_or, or_false, false_or, and_self, ])
    exact hQ hd hh
  | succ m ih =>
    intro i hi hd hh hQ
    have hlen : (((P q).drop fr).take i).length = i := by rw [List.length_take, List.length_drop]; omega
    have e1 : pl (10 * q + fr + i) = nI ((P q).getD (fr + i) 0) := by rw [Nat.add_assoc]; exact h3 (fr + i) (by omega)
    refine b177_3 ?_
    (try simp (disch := omega) only [zh, zh_st, ↓reduceIte, Nat.add_left_cancel_iff, Nat.reduceEqDiff, Nat.add_sub_cancel, Nat.reduceAdd, Nat.reduceSub, Nat.reduceMul, ← nI_0, zu_same, zu_ne, zoi, zoi_m1, nI_add, pk_mul, pk_sub, zcl, nI_leI, nI_ltI, nI_eq, ite_not, reduceCtorEq, zqi_s, zql_s, zqv_s, true_and, and_true, vp_in_nI, if_pos, if_neg, not_true_eq_false, not_false_eq_true, or_true, true_or, or_false, false_or, and_self, zRa_k, zRa_r, zRa_pl, zRa_mn, zRa_hd, zRa_rs, zRa_mk, mK0, mQ1, mK1, mN1, mQ6, mK6, mN6, mQ7, mK7, mN7, mQ8, mK8, mN8, mQ9, mK9, mN9, mQ10, mK10, mN10, mQ11, mK11, mN11, mQ21, mK21, mN21, mQ22, mK22, mN22, mQ23, mK23, mN23, mQ24, mK24, mN24, mQ25, mK25, mN25, mQ26, mK26, mN26, mQ27, mK27, mN27, mQ28, mK28, mN28, mQ32, mK32, mN32, mQ33, mK33, mN33, mQ34, mK34, mN34, mQ35, mK35, mN35, mQ40, mK40, mN40, mQ41, mK41, mN41, mQ42, mK42, mN42, mQ43, mK43, mN43, mQ44, mK44, mN44, mQ45, mK45, mN45, mQ62, mK62, mN62, e1])
    refine ih (i + 1) (by omega) _ ?_ hQ
    have := zHD_u hh ((P q).getD (fr + i) 0)
    rw [hlen] at this
    have e2 : ((P q).drop fr).take i ++ [(P q).getD (fr + i) 0] = ((P q).drop fr).take (i + 1) := by
      rw [List.take_succ, List.getElem?_drop]
      congr 1
      rw [List.getD_eq_getElem?_getD, List.getElem?_eq_getElem (by omega)]
      rfl
    rw [e2] at this
    exact this
