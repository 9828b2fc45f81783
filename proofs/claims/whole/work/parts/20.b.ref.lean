theorem zRR_of {pl0 mn0 pl mn : Nat → Int32} {P : Nat → List Nat} (hR : zRR pl0 mn0 P) {q : Nat} {l : List Nat} (hl : l.length ≤ 9) (h1 : ∀ i, i < l.length → pl (10 * q + i) = nI (l.getD i 0)) (h2 : ∀ k, (k < 10 * q ∨ 10 * q + 10 ≤ k) → pl k = pl0 k) (h3 : mn = zu mn0 q (nI l.length)) : zRR pl mn (zu P q l) := by
  intro p hp
  by_cases e : p = q
  · subst e
    rw [h3, zu_same, zu_same]
    exact ⟨rfl, hl, h1⟩
  · obtain ⟨g1, g2, g3⟩ := hR p hp
    rw [h3, zu_ne _ _ e, zu_ne _ _ e]
    refine ⟨g1, g2, fun i hi => ?_⟩
    rw [h2 _ (by omega)]
    exact g3 i hi
set_option maxHeartbeats 1000000 in
theorem l_pick2 {d q fr n : Nat} {σ : zH} (hM : zMb σ) {pl0 mn hd rs : Nat → Int32} {mk : Int32} {P : Nat → List Nat} (hR : zRR pl0 mn P) (hq : q < 4) (hfn : fr + n ≤ (P q).length) {Q : Option Value → zH → Prop} (hQ : ∀ pl' mn', zRR pl' mn' (zu P q ((P q).take fr ++ (P q).drop (fr + n))) → Q none (zRa σ pl' mn' hd rs mk)) : ∀ (m j : Nat), j + m = (P q).length → fr + n ≤ j → ∀ (pl : Nat → Int32), (∀ i, i < j - n → pl (10 * q + i) = nI (((P q).take fr ++ (P q).drop (fr + n)).getD i 0)) → (∀ i, j ≤ i → i < (P q).length → pl (10 * q + i) = nI ((P q).getD i 0)) → (∀ k, (k < 10 * q ∨ 10 * q + 10 ≤ k) → pl k = pl0 k) → zW d 177 41 [(0, .ref 160), (1, .int (nI q)), (3, .int (nI n)), (4, .int (nI j))] [] (zRa σ pl mn hd rs mk) Q := by
  have ⟨mK0, mQ1, mK1, mN1, mQ6, mK6, mN6, mQ7, mK7, mN7, mQ8, mK8, mN8, mQ9, mK9, mN9, mQ10, mK10, mN10, mQ11, mK11, mN11, mQ21, mK21, mN21, mQ22, mK22, mN22, mQ23, mK23, mN23, mQ24, mK24, mN24, mQ25, mK25, mN25, mQ26, mK26, mN26, mQ27, mK27, mN27, mQ28, mK28, mN28, mQ32, mK32, mN32, mQ33, mK33, mN33, mQ34, mK34, mN34, mQ35, mK35, mN35, mQ40, mK40, mN40, mQ41, mK41, mN41, mQ42, mK42, mN42, mQ43, mK43, mN43, mQ44, mK44, mN44, mQ45, mK45, mN45, mQ62, mK62, mN62⟩ := hM
  obtain ⟨h1, h2, h3⟩ := hR q hq
  have hlen : ((P q).take fr ++ (P q).drop (fr + n)).length = (P q).length - n := by rw [List.length_append, List.length_take, List.length_drop]; omega
  intro m
  induction m with
  | zero =>
    intro j hj hfj pl hA hB hC
    refine b177_41 ?_
    (try simp (disch := omega) only [zh, zh_st, ↓reduceIte, Nat.add_left_cancel_iff, Nat.reduceEqDiff, Nat.add_sub_cancel, Nat.reduceAdd, Nat.reduceSub, Nat.reduceMul, ← nI_0, zu_same, zu_ne, zoi, zoi_m1, nI_add, pk_mul, pk_sub, zcl, nI_leI, nI_ltI, nI_eq, ite_not, reduceCtorEq, zqi_s, zql_s, zqv_s, true_and, and_true, vp_in_nI, if_pos, if_neg, not_true_eq_false, not_false_eq_true, or_true, true_or, or_false, false_or, and_self, zRa_k, zRa_r, zRa_pl, zRa_mn, zRa_hd, zRa_rs, zRa_mk, mK0, mQ1, mK1, mN1, mQ6, mK6, mN6, mQ7, mK7, mN7, mQ8, mK8, mN8, mQ9, mK9, mN9, mQ10, mK10, mN10, mQ11, mK11, mN11, mQ21, mK21, mN21, mQ22, mK22, mN22, mQ23, mK23, mN23, mQ24, mK24, mN24, mQ25, mK25, mN25, mQ26, mK26, mN26, mQ27, mK27, mN27, mQ28, mK28, mN28, mQ32, mK32, mN32, mQ33, mK33, mN33, mQ34, mK34, mN34, mQ35, mK35, mN35, mQ40, mK40, mN40, mQ41, mK41, mN41, mQ42, mK42, mN42, mQ43, mK43, mN43, mQ44, mK44, mN44, mQ45, mK45, mN45, mQ62, mK62, mN62, h1])
    exact hQ _ _ (zRR_of hR (by omega) (fun i hi => hA i (by omega)) hC (by rw [hlen]))
  | succ m ih =>
    intro j hj hfj pl hA hB hC
    refine b177_41 ?_
    (try simp (disch := omega) only [zh, zh_st, ↓reduceIte, Nat.add_left_cancel_iff, Nat.reduceEqDiff, Nat.add_sub_cancel, Nat.reduceAdd, Nat.reduceSub, Nat.reduceMul, ← nI_0, zu_same, zu_ne, zoi, zoi_m1, nI_add, pk_mul, pk_sub, zcl, nI_leI, nI_ltI, nI_eq, ite_not, reduceCtorEq, zqi_s, zql_s, zqv_s, true_and, and_true, vp_in_nI, if_pos, if_neg, not_true_eq_false, not_false_eq_true, or_true, true_or, or_false, false_or, and_self, zRa_k, zRa_r, zRa_pl, zRa_mn, zRa_hd, zRa_rs, zRa_mk, mK0, mQ1, mK1, mN1, mQ6, mK6, mN6, mQ7, mK7, mN7, mQ8, mK8, mN8, mQ9, mK9, mN9, mQ10, mK10, mN10, mQ11, mK11, mN11, mQ21, mK21, mN21, mQ22, mK22, mN22, mQ23, mK23, mN23, mQ24, mK24, mN24, mQ25, mK25, mN25, mQ26, mK26, mN26, mQ27, mK27, mN27, mQ28, mK28, mN28, mQ32, mK32, mN32, mQ33, mK33, mN33, mQ34, mK34, mN34, mQ35, mK35, mN35, mQ40, mK40, mN40, mQ41, mK41, mN41, mQ42, mK42, mN42, mQ43, mK43, mN43, mQ44, mK44, mN44, mQ45, mK45, mN45, mQ62, mK62, mN62, h1])
    refine ih (j + 1) (by omega) (by omega) _ (fun i hi => ?_) (fun i hi1 hi2 => ?_) (fun k hk => ?_)
    · by_cases e : i = j - n
      · rw [e, show 10 * q + (j - n) = 10 * q + j - n by omega, zu_same, hB j (by omega) (by omega), zgd_app', List.length_take, if_neg (by omega), zgd_dropN]
        congr 2
        omega
      · rw [zu_ne _ _ (by omega)]
        exact hA i (by omega)
    · rw [zu_ne _ _ (by omega)]
      exact hB i (by omega) hi2
    · rw [zu_ne _ _ (by omega)]
      exact hC k hk
theorem e_pick {d q fr n : Nat} {σ : zH} (hM : zMb σ) {pl mn hd rs : Nat → Int32} {mk : Int32} {P : Nat → List Nat} (hR : zRR pl mn P) (hq : q < 4) (hfn : fr + n ≤ (P q).length) {Q : Option Value → zH → Prop} (hQ : ∀ pl' mn' hd', zRR pl' mn' (zu P q ((P q).take fr ++ (P q).drop (fr + n))) → zHD hd' (((P q).drop fr).take n) → Q none (zRa σ pl' mn' hd' rs mk)) : zM d 177 [.ref 160, .int (nI q), .int (nI fr), .int (nI n)] (zRa σ pl mn hd rs mk) Q := by
  obtain ⟨h1, h2, h3⟩ := hR q hq
  refine b177 ?_
  refine l_pick1 hM hR hq hfn n 0 (by omega) hd (fun i hi => by simp at hi) (fun hd' hh => ?_)
  refine l_pick2 hM hR hq hfn (fun pl' mn' hR' => hQ _ _ _ hR' hh) ((P q).length - (fr + n)) (fr + n) (by omega) (by omega) pl (fun i hi => ?_) (fun i _ hi => h3 i hi) (fun _ _ => rfl)
  rw [zgd_app', List.length_take, if_pos (by omega), zgd_take (by omega)]
  exact h3 i (by omega)
/-! onto -/
set_option maxHeartbeats 1000000 in
theorem l_onto1 {d q n : Nat} {σ : zH} (hM : zMb σ) {pl0 mn hd rs : Nat → Int32} {mk : Int32} {P : Nat → List Nat} (hR : zRR pl0 mn P) (hq : q < 4) (hn : (P q).length + n ≤ 9) {Q : Option Value → zH → Prop} (hQ : ∀ pl', (∀ i, i < (P q).length → pl' (10 * q + n + i) = nI ((P q).getD i 0)) → (∀ k, (k < 10 * q ∨ 10 * q + 10 ≤ k) → pl' k = pl0 k) → zW d 176 45 [(0, .ref 160), (1, .int (nI q)), (2, .int (nI n)), (3, .int (nI 0))] [] (zRa σ pl' mn hd rs mk) Q) : ∀ (j : Nat), j ≤ (P q).length → ∀ (x : Int32), x = nI j - nI 1 → ∀ (pl : Nat → Int32), (∀ i, j ≤ i → i < (P q).length → pl (10 * q + n + i) = nI ((P q).getD i 0)) → (∀ i, i < j → pl (10 * q + i) = nI ((P q).getD i 0)) → (∀ k, (k < 10 * q ∨ 10 * q + 10 ≤ k) → pl k = pl0 k) → zW d 176 9 [(0, .ref 160), (1, .int (nI q)), (2, .int (nI n)), (3, .int x)] [] (zRa σ pl mn hd rs mk) Q := by
  have ⟨mK0, mQ1, mK1, mN1, mQ6, mK6, mN6, mQ7, mK7, mN7, mQ8, mK8, mN8, mQ9, mK9, mN9, mQ10, mK10, mN10, mQ11, mK11, mN11, mQ21, mK21, mN21, mQ22, mK22, mN22, mQ23, mK23, mN23, mQ24, mK24, mN24, mQ25, mK25, mN25, mQ26, mK26, mN26, mQ27, mK27, mN27, mQ28, mK28, mN28, mQ32, mK32, mN32, mQ33, mK33, mN33, mQ34, mK34, mN34, mQ35, mK35, mN35, mQ40, mK40, mN40, mQ41, mK41, mN41, mQ42, mK42, mN42, mQ43, mK43, mN43, mQ44, mK44, mN44, mQ45, mK45, mN45, mQ62, mK62, mN62⟩ := hM
  obtain ⟨h1, h2, h3⟩ := hR q hq
  intro j
  induction j with
  | zero =>
    intro hj x hx pl hA hB hC
    subst hx
    refine b176_9 ?_
    rw [if_pos (by decide)]
    exact hQ pl (fun i hi => hA i (by omega) hi) hC
  | succ j ih =>
    intro hj x hx pl hA hB hC
    have hx2 : x = nI j := by rw [hx, pk_sub (by omega)]; rfl
    subst hx2
    have e1 := hB j (by omega)
    refine b176_9 ?_
    rw [if_neg (nI_pos (by omega))]
    (try simp (disch := omega) only [zh, zh_st, ↓reduceIte, Nat.add_left_cancel_iff, Nat.reduceEqDiff, Nat.add_sub_cancel, Nat.reduceAdd, Nat.reduceSub, Nat.reduceMul, ← nI_0, zu_same, zu_ne, zoi, zoi_m1, nI_add, pk_mul, pk_sub, zcl, nI_leI, nI_ltI, nI_eq, ite_not, reduceCtorEq, zqi_s, zql_s, zqv_s, true_and, and_true, vp_in_nI, not_true_eq_false, not_false_eq_true, or_true, true_or, or_false, false_or, and_self, zRa_k, zRa_r, zRa_pl, zRa_mn, zRa_hd, zRa_rs, zRa_mk, mK0, mQ1, mK1, mN1, mQ6, mK6, mN6, mQ7, mK7, mN7, mQ8, mK8, mN8, mQ9, mK9, mN9, mQ10, mK10, mN10, mQ11, mK11, mN11, mQ21, mK21, mN21, mQ22, mK22, mN22, mQ23, mK23, mN23, mQ24, mK24, mN24, mQ25, mK25, mN25, mQ26, mK26, mN26, mQ27, mK27, mN27, mQ28, mK28, mN28, mQ32, mK32, mN32, mQ33, mK33, mN33, mQ34, mK34, mN34, mQ35, mK35, mN35, mQ40, mK40, mN40, mQ41, mK41, mN41, mQ42, mK42, mN42, mQ43, mK43, mN43, mQ44, mK44, mN44, mQ45, mK45, mN45, mQ62, mK62, mN62, e1])
    refine ih (by omega) _ (by rw [show (-1 : Int32) = - nI 1 from rfl, Int32.sub_eq_add_neg]) _ (fun i hi1 hi2 => ?_) (fun i hi => ?_) (fun k hk => ?_)
    · by_cases e : i = j
      · rw [e, show 10 * q + n + j = 10 * q + j + n by omega, zu_same]
      · rw [zu_ne _ _ (by omega)]
        exact hA i (by omega) hi2
    · by_cases hn0 : n = 0
      · rw [zu_ne _ _ (by omega)]
        exact hB i (by omega)
      · rw [zu_ne _ _ (by omega)]
        exact hB i (by omega)
    · rw [zu_ne _ _ (by omega)]
      exact hC k hk
set_option maxHeartbeats 1000000 in
theorem l_onto2 {d q n : Nat} {σ : zH} (hM : zMb σ) {pl0 mn hd rs : Nat → Int32} {mk : Int32} {P : Nat → List Nat} {h : List Nat} (hR : zRR pl0 mn P) (hq : q < 4) (hh : zHD hd h) (hl : h.length = n) (hn : (P q).length + n ≤ 9) {Q : Option Value → zH → Prop} (hQ : ∀ pl' mn', zRR pl' mn' (zu P q (h ++ P q)) → Q none (zRa σ pl' mn' hd rs mk)) : ∀ (m j : Nat), j + m = n → ∀ (pl : Nat → Int32), (∀ i, i < (P q).length → pl (10 * q + n + i) = nI ((P q).getD i 0)) → (∀ i, i < j → pl (10 * q + i) = nI (h.getD i 0)) → (∀ k, (k < 10 * q ∨ 10 * q + 10 ≤ k) → pl k = pl0 k) → zW d 176 45 [(0, .ref 160), (1, .int (nI q)), (2, .int (nI n)), (3, .int (nI j))] [] (zRa σ pl mn hd rs mk) Q := by
  have ⟨mK0, mQ1, mK1, mN1, mQ6, mK6, mN6, mQ7, mK7, mN7, mQ8, mK8, mN8, mQ9, mK9, mN9, mQ10, mK10, mN10, mQ11, mK11, mN11, mQ21, mK21, mN21, mQ22, mK22, mN22, mQ23, mK23, mN23, mQ24, mK24, mN24, mQ25, mK25, mN25, mQ26, mK26, mN26, mQ27, mK27, mN27, mQ28, mK28, mN28, mQ32, mK32, mN32, mQ33, mK33, mN33, mQ34, mK34, mN34, mQ35, mK35, mN35, mQ40, mK40, mN40, mQ41, mK41, mN41, mQ42, mK42, mN42, mQ43, mK43, mN43, mQ44, mK44, mN44, mQ45, mK45, mN45, mQ62, mK62, mN62⟩ := hM
  obtain ⟨h1, h2, h3⟩ := hR q hq
  intro m
  induction m with
  | zero =>
    intro j hj pl hA hB hC
    refine b176_45 ?_
    (try simp (disch := omega) only [zh, zh_st, ↓reduceIte, Nat.add_left_cancel_iff, Nat.reduceEqDiff, Nat.add_sub_cancel, Nat.reduceAdd, Nat.reduceSub, Nat.reduceMul, ← nI_0, zu_same, zu_ne, zoi, zoi_m1, nI_add, pk_mul, pk_sub, zcl, nI_leI, nI_ltI, nI_eq, ite_not, reduceCtorEq, zqi_s, zql_s, zqv_s, true_and, and_true, vp_in_nI, if_pos, if_neg, not_true_eq_false, not_false_eq_true, or_true, true_or, or_false, false_or, and_self, zRa_k, zRa_r, zRa_pl, zRa_mn, zRa_hd, zRa_rs, zRa_mk, mK0, mQ1, mK1, mN1, mQ6, mK6, mN6, mQ7, mK7, mN7, mQ8, mK8, mN8, mQ9, mK9, mN9, mQ10, mK10, mN10, mQ11, mK11, mN11, mQ21, mK21, mN21, mQ22, mK22, mN22, mQ23, mK23, mN23, mQ24, mK24, mN24, mQ25, mK25, mN25, mQ26, mK26, mN26, mQ27, mK27, mN27, mQ28, mK28, mN28, mQ32, mK32, mN32, mQ33, mK33, mN33, mQ34, mK34, mN34, mQ35, mK35, mN35, mQ40, mK40, mN40, mQ41, mK41, mN41, mQ42, mK42, mN42, mQ43, mK43, mN43, mQ44, mK44, mN44, mQ45, mK45, mN45, mQ62, mK62, mN62, h1])
    refine hQ _ _ (zRR_of hR (by rw [List.length_append]; omega) (fun i hi => ?_) hC (by rw [List.length_append, hl, Nat.add_comm]))
    rw [List.length_append] at hi
    rw [zgd_app']
    by_cases e : i < h.length
    · rw [if_pos e]; exact hB i (by omega)
    · rw [if_neg e, ← hA (i - h.length) (by omega)]
      congr 1
      omega
  | succ m ih =>
    intro j hj pl hA hB hC
    have e1 := hh j (by omega)
    refine b176_45 ?_
    (try simp (disch := omega) only [zh, zh_st, ↓reduceIte, Nat.add_left_cancel_iff, Nat.reduceEqDiff, Nat.add_sub_cancel, Nat.reduceAdd, Nat.reduceSub, Nat.reduceMul, ← nI_0, zu_same, zu_ne, zoi, zoi_m1, nI_add, pk_mul, pk_sub, zcl, nI_leI, nI_ltI, nI_eq, ite_not, reduceCtorEq, zqi_s, zql_s, zqv_s, true_and, and_true, vp_in_nI, if_pos, if_neg, not_true_eq_false, not_false_eq_true, or_true, true_or, or_false, false_or, and_self, zRa_k, zRa_r, zRa_pl, zRa_mn, zRa_hd, zRa_rs, zRa_mk, mK0, mQ1, mK1, mN1, mQ6, mK6, mN6, mQ7, mK7, mN7, mQ8, mK8, mN8, mQ9, mK9, mN9, mQ10, mK10, mN10, mQ11, mK11, mN11, mQ21, mK21, mN21, mQ22, mK22, mN22, mQ23, mK23, mN23, mQ24, mK24, mN24, mQ25, mK25, mN25, mQ26, mK26, mN26, mQ27, mK27, mN27, mQ28, mK28, mN28, mQ32, mK32, mN32, mQ33, mK33, mN33, mQ34, mK34, mN34, mQ35, mK35, mN35, mQ40, mK40, mN40, mQ41, mK41, mN41, mQ42, mK42, mN42, mQ43, mK43, mN43, mQ44, mK44, mN44, mQ45, mK45, mN45, mQ62, mK62, mN62, e1])
    refine ih (j + 1) (by omega) _ (fun i hi => ?_) (fun i hi => ?_) (fun k hk => ?_)
    · rw [zu_ne _ _ (by omega)]; exact hA i hi
    · by_cases e : i = j
      · rw [e, zu_same]
      · rw [zu_ne _ _ (by omega)]; exact hB i (by omega)
    · rw [zu_ne _ _ (by omega)]; exact hC k hk
theorem e_onto {d q n : Nat} {σ : zH} (hM : zMb σ) {pl mn hd rs : Nat → Int32} {mk : Int32} {P : Nat → List Nat} {h : List Nat} (hR : zRR pl mn P) (hq : q < 4) (hh : zHD hd h) (hl : h.length = n) (hn : (P q).length + n ≤ 9) {Q : Option Value → zH → Prop} (hQ : ∀ pl' mn', zRR pl' mn' (zu P q (h ++ P q)) → Q none (zRa σ pl' mn' hd rs mk)) : zM d 176 [.ref 160, .int (nI q), .int (nI n)] (zRa σ pl mn hd rs mk) Q := by
  have ⟨mK0, mQ1, mK1, mN1, mQ6, mK6, mN6, mQ7, mK7, mN7, mQ8, mK8, mN8, mQ9, mK9, mN9, mQ10, mK10, mN10, mQ11, mK11, mN11, mQ21, mK21, mN21, mQ22, mK22, mN22, mQ23, mK23, mN23, mQ24, mK24, mN24, mQ25, mK25, mN25, mQ26, mK26, mN26, mQ27, mK27, mN27, mQ28, mK28, mN28, mQ32, mK32, mN32, mQ33, mK33, mN33, mQ34, mK34, mN34, mQ35, mK35, mN35, mQ40, mK40, mN40, mQ41, mK41, mN41, mQ42, mK42, mN42, mQ43, mK43, mN43, mQ44, mK44, mN44, mQ45, mK45, mN45, mQ62, mK62, mN62⟩ := hM
  obtain ⟨h1, h2, h3⟩ := hR q hq
  refine b176 ?_
  (try simp (disch := omega) only [zh, zh_st, ↓reduceIte, Nat.add_left_cancel_iff, Nat.reduceEqDiff, Nat.add_sub_cancel, Nat.reduceAdd, Nat.reduceSub, Nat.reduceMul, ← nI_0, zu_same, zu_ne, zoi, zoi_m1, nI_add, pk_mul, pk_sub, zcl, nI_leI, nI_ltI, nI_eq, ite_not, reduceCtorEq, zqi_s, zql_s, zqv_s, true_and, and_true, vp_in_nI, not_true_eq_false, not_false_eq_true, or_true, true_or, or_false, false_or, and_self, zRa_k, zRa_r, zRa_pl, zRa_mn, zRa_hd, zRa_rs, zRa_mk, mK0, mQ1, mK1, mN1, mQ6, mK6, mN6, mQ7, mK7, mN7, mQ8, mK8, mN8, mQ9, mK9, mN9, mQ10, mK10, mN10, mQ11, mK11, mN11, mQ21, mK21, mN21, mQ22, mK22, mN22, mQ23, mK23, mN23, mQ24, mK24, mN24, mQ25, mK25, mN25, mQ26, mK26, mN26, mQ27, mK27, mN27, mQ28, mK28, mN28, mQ32, mK32, mN32, mQ33, mK33, mN33, mQ34, mK34, mN34, mQ35, mK35, mN35, mQ40, mK40, mN40, mQ41, mK41, mN41, mQ42, mK42, mN42, mQ43, mK43, mN43, mQ44, mK44, mN44, mQ45, mK45, mN45, mQ62, mK62, mN62, h1])
  exact l_onto1 hM hR hq hn (fun pl' g1 g2 => l_onto2 hM hR hq hh hl hn hQ n 0 (by omega) pl' g1 (fun i hi => absurd hi (Nat.not_lt_zero i)) g2) (P q).length (Nat.le_refl _) _ rfl pl (fun i h1 h2 => absurd h2 (by omega)) (fun i hi => h3 i hi) (fun _ _ => rfl)
/-! turnHand -/
set_option maxHeartbeats 1000000 in
theorem e_turnHand {d n : Nat} {σ : zH} (hM : zMb σ) {pl mn hd rs : Nat → Int32} {mk : Int32} {h : List Nat} (hh : zHD hd h) (hl : h.length = n) (hn : n ≤ 9) (h32 : ∀ c ∈ h, c < 32) {Q : Option Value → zH → Prop} (hQ : ∀ hd' rs', zHD hd' ((h.map (fun c => c ^^^ 16)).reverse) → Q none (zRa σ pl mn hd' rs' mk)) : zM d 178 [.ref 160, .int (nI n)] (zRa σ pl mn hd rs mk) Q := by
  have ⟨mK0, mQ1, mK1, mN1, mQ6, mK6, mN6, mQ7, mK7, mN7, mQ8, mK8, mN8, mQ9, mK9, mN9, mQ10, mK10, mN10, mQ11, mK11, mN11, mQ21, mK21, mN21, mQ22, mK22, mN22, mQ23, mK23, mN23, mQ24, mK24, mN24, mQ25, mK25, mN25, mQ26, mK26, mN26, mQ27, mK27, mN27, mQ28, mK28, mN28, mQ32, mK32, mN32, mQ33, mK33, mN33, mQ34, mK34, mN34, mQ35, mK35, mN35, mQ40, mK40, mN40, mQ41, mK41, mN41, mQ42, mK42, mN42, mQ43, mK43, mN43, mQ44, mK44, mN44, mQ45, mK45, mN45, mQ62, mK62, mN62⟩ := hM
  have hxor : ∀ c, c < 32 → nI c ^^^ nI 16 = nI (c ^^^ 16) := by decide +kernel
  have hrl : (h.map (fun c => c ^^^ 16)).reverse.length = n := by simp [hl]
  have hrg : ∀ i, i < n → (h.map (fun c => c ^^^ 16)).reverse.getD i 0 = h.getD (n - 1 - i) 0 ^^^ 16 := by
    intro i hi
    rw [List.getD_eq_getElem?_getD, List.getElem?_reverse (by simp; omega), List.getElem?_map, List.length_map, hl, List.getD_eq_getElem?_getD, List.getElem?_eq_getElem (by omega)]
    rfl
  have loop2 : ∀ (m j : Nat), j + m = n → ∀ (hd' rs' : Nat → Int32), zHD rs' ((h.map (fun c => c ^^^ 16)).reverse) → (∀ i, i < j → hd' i = nI ((h.map (fun c => c ^^^ 16)).reverse.getD i 0)) → zW d 178 34 [(0, .ref 160), (1, .int (nI n)), (2, .int (nI j))] [] (zRa σ pl mn hd' rs' mk) Q := by
    intro m
    induction m with
    | zero =>
      intro j hj hd' rs' hr hB
      refine b178_34 ?_
      (try simp (disch := omega) only [zh, zh_st, ↓reduceIte, Nat.add_left_cancel_iff, Nat.reduceEqDiff, Nat.add_sub_cancel, Nat.reduceAdd, Nat.reduceSub, Nat.reduceMul, ← nI_0, zu_same, zu_ne, zoi, zoi_m1, nI_add, pk_mul, pk_sub, zcl, nI_leI, nI_ltI, nI_eq, ite_not, reduceCtorEq, zqi_s, zql_s, zqv_s, true_and, and_true, vp_in_nI, if_pos, if_neg, not_true_eq_false, not_false_eq_true, or_true, true_or, or_false, false_or, and_self, ])
      exact hQ _ _ (fun i hi => hB i (by omega))
    | succ m ih =>
      intro j hj hd' rs' hr hB
      have e1 := hr j (by omega)
      refine b178_34 ?_
      (try simp (disch := omega) only [zh, zh_st, ↓reduceIte, Nat.add_left_cancel_iff, Nat.reduceEqDiff, Nat.add_sub_cancel, Nat.reduceAdd, Nat.reduceSub, Nat.reduceMul, ← nI_0, zu_same, zu_ne, zoi, zoi_m1, nI_add, pk_mul, pk_sub, zcl, nI_leI, nI_ltI, nI_eq, ite_not, reduceCtorEq, zqi_s, zql_s, zqv_s, true_and, and_true, vp_in_nI, if_pos, if_neg, not_true_eq_false, not_false_eq_true, or_true, true_or, or_false, false_or, and_self, zRa_k, zRa_r, zRa_pl, zRa_mn, zRa_hd, zRa_rs, zRa_mk, mK0, mQ1, mK1, mN1, mQ6, mK6, mN6, mQ7, mK7, mN7, mQ8, mK8, mN8, mQ9, mK9, mN9, mQ10, mK10, mN10, mQ11, mK11, mN11, mQ21, mK21, mN21, mQ22, mK22, mN22, mQ23, mK23, mN23, mQ24, mK24, mN24, mQ25, mK25, mN25, mQ26, mK26, mN26, mQ27, mK27, mN27, mQ28, mK28, mN28, mQ32, mK32, mN32, mQ33, mK33, mN33, mQ34, mK34, mN34, mQ35, mK35, mN35, mQ40, mK40, mN40, mQ41, mK41, mN41, mQ42, mK42, mN42, mQ43, mK43, mN43, mQ44, mK44, mN44, mQ45, mK45, mN45, mQ62, mK62, mN62, e1])
      refine ih (j + 1) (by omega) _ _ hr (fun i hi => ?_)
      by_cases e : i = j
      · rw [e, zu_same]
      · rw [zu_ne _ _ e]; exact hB i (by omega)
  have loop1 : ∀ (m j : Nat), j + m = n → ∀ (rs' : Nat → Int32), (∀ i, i < j → rs' i = nI ((h.map (fun c => c ^^^ 16)).reverse.getD i 0)) → zW d 178 2 [(0, .ref 160), (1, .int (nI n)), (2, .int (nI j))] [] (zRa σ pl mn hd rs' mk) Q := by
    intro m
    induction m with
    | zero =>
      intro j hj rs' hB
      refine b178_2 ?_
      (try simp (disch := omega) only [zh, zh_st, ↓reduceIte, Nat.add_left_cancel_iff, Nat.reduceEqDiff, Nat.add_sub_cancel, Nat.reduceAdd, Nat.reduceSub, Nat.reduceMul, ← nI_0, zu_same, zu_ne, zoi, zoi_m1, nI_add, pk_mul, pk_sub, zcl, nI_leI, nI_ltI, nI_eq, ite_not, reduceCtorEq, zqi_s, zql_s, zqv_s, true_and, and_true, vp_in_nI, if_pos, if_neg, not_true_eq_false, not_false_eq_true, or_true, true_or, or_false, false_or, and_self, ])
      exact loop2 n 0 (by omega) _ _ (fun i hi => hB i (by omega)) (fun i hi => absurd hi (Nat.not_lt_zero i))
    | succ m ih =>
      intro j hj rs' hB
      have e1 := hh (n - 1 - j) (by omega)
      have e2 := hxor _ (h32 _ (zgd_mem (l := h) (i := n - 1 - j) (by omega)))
      refine b178_2 ?_
      (try simp (disch := omega) only [zh, zh_st, ↓reduceIte, Nat.add_left_cancel_iff, Nat.reduceEqDiff, Nat.add_sub_cancel, Nat.reduceAdd, Nat.reduceSub, Nat.reduceMul, ← nI_0, zu_same, zu_ne, zoi, zoi_m1, nI_add, pk_mul, pk_sub, zcl, nI_leI, nI_ltI, nI_eq, ite_not, reduceCtorEq, zqi_s, zql_s, zqv_s, true_and, and_true, vp_in_nI, if_pos, if_neg, not_true_eq_false, not_false_eq_true, or_true, true_or, or_false, false_or, and_self, zRa_k, zRa_r, zRa_pl, zRa_mn, zRa_hd, zRa_rs, zRa_mk, mK0, mQ1, mK1, mN1, mQ6, mK6, mN6, mQ7, mK7, mN7, mQ8, mK8, mN8, mQ9, mK9, mN9, mQ10, mK10, mN10, mQ11, mK11, mN11, mQ21, mK21, mN21, mQ22, mK22, mN22, mQ23, mK23, mN23, mQ24, mK24, mN24, mQ25, mK25, mN25, mQ26, mK26, mN26, mQ27, mK27, mN27, mQ28, mK28, mN28, mQ32, mK32, mN32, mQ33, mK33, mN33, mQ34, mK34, mN34, mQ35, mK35, mN35, mQ40, mK40, mN40, mQ41, mK41, mN41, mQ42, mK42, mN42, mQ43, mK43, mN43, mQ44, mK44, mN44, mQ45, mK45, mN45, mQ62, mK62, mN62, e1, e2])
      refine ih (j + 1) (by omega) _ (fun i hi => ?_)
      by_cases e : i = j
      · rw [e, zu_same, hrg j (by omega)]
      · rw [zu_ne _ _ e]; exact hB i (by omega)
  refine b178 ?_
  exact loop1 n 0 (by omega) rs (fun i hi => absurd hi (Nat.not_lt_zero i))
