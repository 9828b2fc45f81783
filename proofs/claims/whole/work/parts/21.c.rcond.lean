/-! trees -/
def zsgn (k : Nat) : Nat := if k = 42 then 61 else if k = 43 then 289 else if k = 44 then 60 else if k = 45 then 316 else if k = 46 then 62 else 318
/-- an atom's node -/
def zAtm (σ : zH) (lo hi v : Nat) (c : zCd) : Prop := (42 ≤ c.1 ∧ c.1 ≤ 47 ∧ zA σ 176 v = nI 3 ∧ zA σ 179 v = nI (zsgn c.1) ∧ ∃ l r, zA σ 177 v = nI l ∧ zA σ 178 v = nI r ∧ lo ≤ l ∧ l < hi ∧ lo ≤ r ∧ r < hi ∧ zNum σ l c.2.1 ∧ zNum σ r c.2.2) ∨ (c.1 = 24 ∧ zA σ 176 v = nI 4 ∧ ∃ p j, p < 4 ∧ j < 3 ∧ c.2.1 = 31 + j ∧ c.2.2 = p * 16 ∧ zA σ 177 v = nI p ∧ zA σ 179 v = nI j) ∨ (c.1 = 25 ∧ zA σ 176 v = nI 5 ∧ ∃ p j g, p < 4 ∧ j < 3 ∧ 2 ≤ g ∧ g ≤ 9 ∧ c.2.1 = 31 + j ∧ c.2.2 = p * 16 + g ∧ zA σ 177 v = nI p ∧ zA σ 178 v = nI g ∧ zA σ 179 v = nI j) ∨ (c.1 = 26 ∧ zA σ 176 v = nI 6 ∧ ∃ p, p < 4 ∧ c.2.1 = 31 ∧ c.2.2 = p * 16 ∧ zA σ 177 v = nI p)
/-- node v means C; nodes from lo to hi - 1; K calls deep at most -/
def zTr (σ : zH) (lo hi : Nat) : Nat → Nat → Nat → ((zCd → Bool) → Bool) → Prop
  | 0, _, _, _ => False
  | f + 1, K, v, C => lo ≤ v ∧ v < hi ∧ 1 ≤ K ∧ ((∃ c, zAtm σ lo hi v c ∧ ∀ g, C g = g c) ∨ (zA σ 176 v = nI 2 ∧ ∃ u C1, zA σ 177 v = nI u ∧ zTr σ lo hi f (K - 1) u C1 ∧ ∀ g, C g = !C1 g) ∨ (zA σ 176 v = nI 0 ∧ ∃ a b Ca Cb, zA σ 177 v = nI a ∧ zA σ 178 v = nI b ∧ zTr σ lo hi f K a Ca ∧ zTr σ lo hi f (K - 1) b Cb ∧ ∀ g, C g = (Ca g || Cb g)) ∨ (zA σ 176 v = nI 1 ∧ ∃ a b Ca Cb, zA σ 177 v = nI a ∧ zA σ 178 v = nI b ∧ ((zA σ 176 a = nI 1 ∧ zTr σ lo hi f K a Ca) ∨ zTr σ lo hi f (K - 1) a Ca) ∧ zTr σ lo hi f (K - 1) b Cb ∧ ∀ g, C g = (Ca g && Cb g)))
set_option maxHeartbeats 4000000 in
theorem e_atom {d n mk : Nat} {σ : zH} {D : zDT} (hM : zMb σ) (hD : zDR σ D n) {pl mn hd rs : Nat → Int32} {P : Nat → List Nat} (hR : zRR pl mn P) (hV : zVP n P mk) (hb : zDb D) {Q : Option Value → zH → Prop} {lo hi v : Nat} {c : zCd} (hv : v < 3200) (hhi : hi ≤ 3200) (hA : zAtm σ lo hi v c) (hQ : Q (some (.int (nI (zbn1 (zct D mk P c))))) (zRa σ pl mn hd rs (nI mk))) : zW (d + 2) 172 2 [(0, .ref 160), (2, .int (nI v))] [] (zRa σ pl mn hd rs (nI mk)) Q := by
  have ⟨mK0, mQ1, mK1, mN1, mQ6, mK6, mN6, mQ7, mK7, mN7, mQ8, mK8, mN8, mQ9, mK9, mN9, mQ10, mK10, mN10, mQ11, mK11, mN11, mQ21, mK21, mN21, mQ22, mK22, mN22, mQ23, mK23, mN23, mQ24, mK24, mN24, mQ25, mK25, mN25, mQ26, mK26, mN26, mQ27, mK27, mN27, mQ28, mK28, mN28, mQ32, mK32, mN32, mQ33, mK33, mN33, mQ34, mK34, mN34, mQ35, mK35, mN35, mQ40, mK40, mN40, mQ41, mK41, mN41, mQ42, mK42, mN42, mQ43, mK43, mN43, mQ44, mK44, mN44, mQ45, mK45, mN45, mQ62, mK62, mN62⟩ := hM
  have h9 := zVP_9 hV
  obtain ⟨ck, ca, cb⟩ := c
  unfold zAtm at hA
  unfold zct at hQ
  simp only at hA hQ
  refine b172_2 ?_
  rcases hA with ⟨h1, h2, o, w, l, r, e1, e2, l1, l2, r1, r2, n1, n2⟩ | ⟨rfl, o, p, j, hp, hj, rfl, rfl, e1, w⟩ | ⟨rfl, o, p, j, g, hp, hj, hg1, hg2, rfl, rfl, e1, e2, w⟩ | ⟨rfl, o, p, hp, rfl, rfl, e1⟩
  · rw [if_neg (by omega), if_neg (by omega), if_neg (by omega)] at hQ
    (try simp (disch := omega) only [zh, zh_st, ↓reduceIte, Nat.add_left_cancel_iff, Nat.reduceEqDiff, Nat.add_sub_cancel, Nat.reduceAdd, Nat.reduceSub, Nat.reduceMul, ← nI_0, zu_same, zu_ne, zoi, zoi_m1, nI_add, pk_mul, pk_sub, zcl, nI_leI, nI_ltI, nI_eq, ite_not, reduceCtorEq, zqi_s, zql_s, zqv_s, true_and, and_true, vp_in_nI, not_true_eq_false, not_false_eq_true, or_true, true_or, or_false, false_or, and_self, zRa_k, zRa_r, zRa_pl, zRa_mn, zRa_hd, zRa_rs, zRa_mk, mK0, mQ1, mK1, mN1, mQ6, mK6, mN6, mQ7, mK7, mN7, mQ8, mK8, mN8, mQ9, mK9, mN9, mQ10, mK10, mN10, mQ11, mK11, mN11, mQ21, mK21, mN21, mQ22, mK22, mN22, mQ23, mK23, mN23, mQ24, mK24, mN24, mQ25, mK25, mN25, mQ26, mK26, mN26, mQ27, mK27, mN27, mQ28, mK28, mN28, mQ32, mK32, mN32, mQ33, mK33, mN33, mQ34, mK34, mN34, mQ35, mK35, mN35, mQ40, mK40, mN40, mQ41, mK41, mN41, mQ42, mK42, mN42, mQ43, mK43, mN43, mQ44, mK44, mN44, mQ45, mK45, mN45, mQ62, mK62, mN62, zRa_oA, o, e1, e2, w])
    refine e_worth hM hD hR hV hb n1 ?_
    (try simp (disch := omega) only [zh, zh_st, ↓reduceIte, Nat.add_left_cancel_iff, Nat.reduceEqDiff, Nat.add_sub_cancel, Nat.reduceAdd, Nat.reduceSub, Nat.reduceMul, ← nI_0, zu_same, zu_ne, zoi, zoi_m1, nI_add, pk_mul, pk_sub, zcl, nI_leI, nI_ltI, nI_eq, ite_not, reduceCtorEq, zqi_s, zql_s, zqv_s, true_and, and_true, vp_in_nI, not_true_eq_false, not_false_eq_true, or_true, true_or, or_false, false_or, and_self, zRa_k, zRa_r, zRa_pl, zRa_mn, zRa_hd, zRa_rs, zRa_mk, mK0, mQ1, mK1, mN1, mQ6, mK6, mN6, mQ7, mK7, mN7, mQ8, mK8, mN8, mQ9, mK9, mN9, mQ10, mK10, mN10, mQ11, mK11, mN11, mQ21, mK21, mN21, mQ22, mK22, mN22, mQ23, mK23, mN23, mQ24, mK24, mN24, mQ25, mK25, mN25, mQ26, mK26, mN26, mQ27, mK27, mN27, mQ28, mK28, mN28, mQ32, mK32, mN32, mQ33, mK33, mN33, mQ34, mK34, mN34, mQ35, mK35, mN35, mQ40, mK40, mN40, mQ41, mK41, mN41, mQ42, mK42, mN42, mQ43, mK43, mN43, mQ44, mK44, mN44, mQ45, mK45, mN45, mQ62, mK62, mN62, zRa_oA, o, e1, e2, w])
    refine e_worth hM hD hR hV hb n2 ?_
    have v1 := zval_lt hb h9 (mk := mk) (zNum_vn n1)
    have v2 := zval_lt hb h9 (mk := mk) (zNum_vn n2)
    generalize zval D mk P ca = A at *
    generalize zval D mk P cb = B at *
    unfold zcmp zbn1 at hQ
    unfold zsgn at w
    rcases (show ck = 42 ∨ ck = 43 ∨ ck = 44 ∨ ck = 45 ∨ ck = 46 ∨ ck = 47 by omega) with rfl | rfl | rfl | rfl | rfl | rfl <;> simp only [Nat.reduceEqDiff, if_false, if_true, ↓reduceIte] at hQ w <;> ((try simp (disch := omega) only [zh, zh_st, ↓reduceIte, Nat.add_left_cancel_iff, Nat.reduceEqDiff, Nat.add_sub_cancel, Nat.reduceAdd, Nat.reduceSub, Nat.reduceMul, ← nI_0, zu_same, zu_ne, zoi, zoi_m1, nI_add, pk_mul, pk_sub, zcl, nI_leI, nI_ltI, nI_eq, ite_not, reduceCtorEq, zqi_s, zql_s, zqv_s, true_and, and_true, vp_in_nI, not_true_eq_false, not_false_eq_true, or_true, true_or, or_false, false_or, and_self, zRa_k, zRa_r, zRa_pl, zRa_mn, zRa_hd, zRa_rs, zRa_mk, mK0, mQ1, mK1, mN1, mQ6, mK6, mN6, mQ7, mK7, mN7, mQ8, mK8, mN8, mQ9, mK9, mN9, mQ10, mK10, mN10, mQ11, mK11, mN11, mQ21, mK21, mN21, mQ22, mK22, mN22, mQ23, mK23, mN23, mQ24, mK24, mN24, mQ25, mK25, mN25, mQ26, mK26, mN26, mQ27, mK27, mN27, mQ28, mK28, mN28, mQ32, mK32, mN32, mQ33, mK33, mN33, mQ34, mK34, mN34, mQ35, mK35, mN35, mQ40, mK40, mN40, mQ41, mK41, mN41, mQ42, mK42, mN42, mQ43, mK43, mN43, mQ44, mK44, mN44, mQ45, mK45, mN45, mQ62, mK62, mN62, zRa_oA, w]))
    · by_cases h : A = B <;> simp [h] at hQ ⊢ <;> exact hQ
    · by_cases h : A = B <;> simp [h] at hQ ⊢ <;> exact hQ
    · by_cases h : A < B
      · rw [if_neg (by omega)]; simpa [h] using hQ
      · rw [if_pos (by omega)]; simpa [h] using hQ
    · by_cases h : A ≤ B
      · rw [if_neg (by omega)]; simpa [h] using hQ
      · rw [if_pos (by omega)]; simpa [h] using hQ
    · by_cases h : B < A
      · rw [if_neg (by omega)]; simpa [h] using hQ
      · rw [if_pos (by omega)]; simpa [h] using hQ
    · by_cases h : B ≤ A
      · rw [if_neg (by omega)]; simpa [h] using hQ
      · rw [if_pos (by omega)]; simpa [h] using hQ
  · rw [(zvc_pq (g := 0) hp (by omega)).2.2] at hQ
    have l9 := h9 p hp
    (try simp (disch := omega) only [zh, zh_st, ↓reduceIte, Nat.add_left_cancel_iff, Nat.reduceEqDiff, Nat.add_sub_cancel, Nat.reduceAdd, Nat.reduceSub, Nat.reduceMul, ← nI_0, zu_same, zu_ne, zoi, zoi_m1, nI_add, pk_mul, pk_sub, zcl, nI_leI, nI_ltI, nI_eq, ite_not, reduceCtorEq, zqi_s, zql_s, zqv_s, true_and, and_true, vp_in_nI, not_true_eq_false, not_false_eq_true, or_true, true_or, or_false, false_or, and_self, zRa_k, zRa_r, zRa_pl, zRa_mn, zRa_hd, zRa_rs, zRa_mk, mK0, mQ1, mK1, mN1, mQ6, mK6, mN6, mQ7, mK7, mN7, mQ8, mK8, mN8, mQ9, mK9, mN9, mQ10, mK10, mN10, mQ11, mK11, mN11, mQ21, mK21, mN21, mQ22, mK22, mN22, mQ23, mK23, mN23, mQ24, mK24, mN24, mQ25, mK25, mN25, mQ26, mK26, mN26, mQ27, mK27, mN27, mQ28, mK28, mN28, mQ32, mK32, mN32, mQ33, mK33, mN33, mQ34, mK34, mN34, mQ35, mK35, mN35, mQ40, mK40, mN40, mQ41, mK41, mN41, mQ42, mK42, mN42, mQ43, mK43, mN43, mQ44, mK44, mN44, mQ45, mK45, mN45, mQ62, mK62, mN62, zRa_oA, o, e1])
    exact l_ral hM hD hR hV hb hv hp hj w ((P p).length - 1) 1 (by omega) (by omega) (by omega) hQ
  · rw [(zvc_pq hp hg2).1, (zvc_pq hp hg2).2.1] at hQ
    (try simp (disch := omega) only [zh, zh_st, ↓reduceIte, Nat.add_left_cancel_iff, Nat.reduceEqDiff, Nat.add_sub_cancel, Nat.reduceAdd, Nat.reduceSub, Nat.reduceMul, ← nI_0, zu_same, zu_ne, zoi, zoi_m1, nI_add, pk_mul, pk_sub, zcl, nI_leI, nI_ltI, nI_eq, ite_not, reduceCtorEq, zqi_s, zql_s, zqv_s, true_and, and_true, vp_in_nI, not_true_eq_false, not_false_eq_true, or_true, true_or, or_false, false_or, and_self, zRa_k, zRa_r, zRa_pl, zRa_mn, zRa_hd, zRa_rs, zRa_mk, mK0, mQ1, mK1, mN1, mQ6, mK6, mN6, mQ7, mK7, mN7, mQ8, mK8, mN8, mQ9, mK9, mN9, mQ10, mK10, mN10, mQ11, mK11, mN11, mQ21, mK21, mN21, mQ22, mK22, mN22, mQ23, mK23, mN23, mQ24, mK24, mN24, mQ25, mK25, mN25, mQ26, mK26, mN26, mQ27, mK27, mN27, mQ28, mK28, mN28, mQ32, mK32, mN32, mQ33, mK33, mN33, mQ34, mK34, mN34, mQ35, mK35, mN35, mQ40, mK40, mN40, mQ41, mK41, mN41, mQ42, mK42, mN42, mQ43, mK43, mN43, mQ44, mK44, mN44, mQ45, mK45, mN45, mQ62, mK62, mN62, zRa_oA, o, e1, e2])
    exact l_rea hM hD hR hV hb hv hp hj w hg2 (by omega) (P p).length 0 (by omega) (by omega) hQ
  · rw [(zvc_pq (g := 0) hp (by omega)).2.2] at hQ
    have l9 := h9 p hp
    (try simp (disch := omega) only [zh, zh_st, ↓reduceIte, Nat.add_left_cancel_iff, Nat.reduceEqDiff, Nat.add_sub_cancel, Nat.reduceAdd, Nat.reduceSub, Nat.reduceMul, ← nI_0, zu_same, zu_ne, zoi, zoi_m1, nI_add, pk_mul, pk_sub, zcl, nI_leI, nI_ltI, nI_eq, ite_not, reduceCtorEq, zqi_s, zql_s, zqv_s, true_and, and_true, vp_in_nI, not_true_eq_false, not_false_eq_true, or_true, true_or, or_false, false_or, and_self, zRa_k, zRa_r, zRa_pl, zRa_mn, zRa_hd, zRa_rs, zRa_mk, mK0, mQ1, mK1, mN1, mQ6, mK6, mN6, mQ7, mK7, mN7, mQ8, mK8, mN8, mQ9, mK9, mN9, mQ10, mK10, mN10, mQ11, mK11, mN11, mQ21, mK21, mN21, mQ22, mK22, mN22, mQ23, mK23, mN23, mQ24, mK24, mN24, mQ25, mK25, mN25, mQ26, mK26, mN26, mQ27, mK27, mN27, mQ28, mK28, mN28, mQ32, mK32, mN32, mQ33, mK33, mN33, mQ34, mK34, mN34, mQ35, mK35, mN35, mQ40, mK40, mN40, mQ41, mK41, mN41, mQ42, mK42, mN42, mQ43, mK43, mN43, mQ44, mK44, mN44, mQ45, mK45, mN45, mQ62, mK62, mN62, zRa_oA, o, e1])
    exact l_rri hM hD hR hV hb hp ((P p).length - 1) 0 (by omega) (by omega) hQ
