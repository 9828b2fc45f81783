/-! alike, each, rising -/
set_option maxHeartbeats 2000000 in
theorem l_ral {d n mk : Nat} {σ : zH} {D : zDT} (hM : zMb σ) (hD : zDR σ D n) {pl mn hd rs : Nat → Int32} {P : Nat → List Nat} (hR : zRR pl mn P) (hV : zVP n P mk) (hb : zDb D) {Q : Option Value → zH → Prop} {v p j : Nat} (hv : v < 3200) (hp : p < 4) (hj : j < 3) (hw : zA σ 179 v = nI j) : ∀ (m i : Nat), i + m = (P p).length ∨ (m = 0 ∧ (P p).length ≤ i) → 1 ≤ i → i ≤ 10 → Q (some (.int (nI (zbn1 (zal (zpr D (31 + j)) (zpr D (31 + j) ((P p).getD 0 0)) ((P p).drop i)))))) (zRa σ pl mn hd rs (nI mk)) → zW (d + 1) 172 311 [(0, .ref 160), (2, .int (nI v)), (3, .int (nI p)), (4, .int (nI i))] [] (zRa σ pl mn hd rs (nI mk)) Q := by
  have ⟨mK0, mQ1, mK1, mN1, mQ6, mK6, mN6, mQ7, mK7, mN7, mQ8, mK8, mN8, mQ9, mK9, mN9, mQ10, mK10, mN10, mQ11, mK11, mN11, mQ21, mK21, mN21, mQ22, mK22, mN22, mQ23, mK23, mN23, mQ24, mK24, mN24, mQ25, mK25, mN25, mQ26, mK26, mN26, mQ27, mK27, mN27, mQ28, mK28, mN28, mQ32, mK32, mN32, mQ33, mK33, mN33, mQ34, mK34, mN34, mQ35, mK35, mN35, mQ40, mK40, mN40, mQ41, mK41, mN41, mQ42, mK42, mN42, mQ43, mK43, mN43, mQ44, mK44, mN44, mQ45, mK45, mN45, mQ62, mK62, mN62⟩ := hM
  obtain ⟨a1, a2, a3⟩ := hR p hp
  intro m
  induction m with
  | zero =>
    intro i hi hi1 hi9 hQ
    rw [List.drop_eq_nil_of_le (by omega)] at hQ
    refine b172_311 ?_
    (try simp (disch := omega) only [zh, zh_st, ↓reduceIte, Nat.add_left_cancel_iff, Nat.reduceEqDiff, Nat.add_sub_cancel, Nat.reduceAdd, Nat.reduceSub, Nat.reduceMul, ← nI_0, zu_same, zu_ne, zoi, zoi_m1, nI_add, pk_mul, pk_sub, zcl, nI_leI, nI_ltI, nI_eq, ite_not, reduceCtorEq, zqi_s, zql_s, zqv_s, true_and, and_true, vp_in_nI, if_pos, if_neg, not_true_eq_false, not_false_eq_true, or_true, true_or, or_false, false_or, and_self, zRa_k, zRa_r, zRa_pl, zRa_mn, zRa_hd, zRa_rs, zRa_mk, mK0, mQ1, mK1, mN1, mQ6, mK6, mN6, mQ7, mK7, mN7, mQ8, mK8, mN8, mQ9, mK9, mN9, mQ10, mK10, mN10, mQ11, mK11, mN11, mQ21, mK21, mN21, mQ22, mK22, mN22, mQ23, mK23, mN23, mQ24, mK24, mN24, mQ25, mK25, mN25, mQ26, mK26, mN26, mQ27, mK27, mN27, mQ28, mK28, mN28, mQ32, mK32, mN32, mQ33, mK33, mN33, mQ34, mK34, mN34, mQ35, mK35, mN35, mQ40, mK40, mN40, mQ41, mK41, mN41, mQ42, mK42, mN42, mQ43, mK43, mN43, mQ44, mK44, mN44, mQ45, mK45, mN45, mQ62, mK62, mN62, a1])
    exact hQ
  | succ m ih =>
    intro i hi hi1 hi9 hQ
    have hc := hV.2.2.1 p hp _ (zgd_mem (l := P p) (i := i) (by omega))
    have hc0 := hV.2.2.1 p hp _ (zgd_mem (l := P p) (i := 0) (by omega))
    have hle := zpr_le hb (k := 31 + j) (c := (P p).getD i 0) (by omega) (by omega)
    have hle0 := zpr_le hb (k := 31 + j) (c := (P p).getD 0 0) (by omega) (by omega)
    refine b172_311 ?_
    (try simp (disch := omega) only [zh, zh_st, ↓reduceIte, Nat.add_left_cancel_iff, Nat.reduceEqDiff, Nat.add_sub_cancel, Nat.reduceAdd, Nat.reduceSub, Nat.reduceMul, ← nI_0, zu_same, zu_ne, zoi, zoi_m1, nI_add, pk_mul, pk_sub, zcl, nI_leI, nI_ltI, nI_eq, ite_not, reduceCtorEq, zqi_s, zql_s, zqv_s, true_and, and_true, vp_in_nI, if_pos, if_neg, not_true_eq_false, not_false_eq_true, or_true, true_or, or_false, false_or, and_self, zRa_k, zRa_r, zRa_pl, zRa_mn, zRa_hd, zRa_rs, zRa_mk, mK0, mQ1, mK1, mN1, mQ6, mK6, mN6, mQ7, mK7, mN7, mQ8, mK8, mN8, mQ9, mK9, mN9, mQ10, mK10, mN10, mQ11, mK11, mN11, mQ21, mK21, mN21, mQ22, mK22, mN22, mQ23, mK23, mN23, mQ24, mK24, mN24, mQ25, mK25, mN25, mQ26, mK26, mN26, mQ27, mK27, mN27, mQ28, mK28, mN28, mQ32, mK32, mN32, mQ33, mK33, mN33, mQ34, mK34, mN34, mQ35, mK35, mN35, mQ40, mK40, mN40, mQ41, mK41, mN41, mQ42, mK42, mN42, mQ43, mK43, mN43, mQ44, mK44, mN44, mQ45, mK45, mN45, mQ62, mK62, mN62, a1])
    refine e_rcard hM hD hR hV hb hp (by omega) ?_
    (try simp (disch := omega) only [zh, zh_st, ↓reduceIte, Nat.add_left_cancel_iff, Nat.reduceEqDiff, Nat.add_sub_cancel, Nat.reduceAdd, Nat.reduceSub, Nat.reduceMul, ← nI_0, zu_same, zu_ne, zoi, zoi_m1, nI_add, pk_mul, pk_sub, zcl, nI_leI, nI_ltI, nI_eq, ite_not, reduceCtorEq, zqi_s, zql_s, zqv_s, true_and, and_true, vp_in_nI, not_true_eq_false, not_false_eq_true, or_true, true_or, or_false, false_or, and_self, zRa_k, zRa_r, zRa_pl, zRa_mn, zRa_hd, zRa_rs, zRa_mk, mK0, mQ1, mK1, mN1, mQ6, mK6, mN6, mQ7, mK7, mN7, mQ8, mK8, mN8, mQ9, mK9, mN9, mQ10, mK10, mN10, mQ11, mK11, mN11, mQ21, mK21, mN21, mQ22, mK22, mN22, mQ23, mK23, mN23, mQ24, mK24, mN24, mQ25, mK25, mN25, mQ26, mK26, mN26, mQ27, mK27, mN27, mQ28, mK28, mN28, mQ32, mK32, mN32, mQ33, mK33, mN33, mQ34, mK34, mN34, mQ35, mK35, mN35, mQ40, mK40, mN40, mQ41, mK41, mN41, mQ42, mK42, mN42, mQ43, mK43, mN43, mQ44, mK44, mN44, mQ45, mK45, mN45, mQ62, mK62, mN62, zRa_oA, hw])
    refine e_rprop (j := j) hM hD hR hV hb hc hj ?_
    (try simp (disch := omega) only [zh, zh_st, ↓reduceIte, Nat.add_left_cancel_iff, Nat.reduceEqDiff, Nat.add_sub_cancel, Nat.reduceAdd, Nat.reduceSub, Nat.reduceMul, ← nI_0, zu_same, zu_ne, zoi, zoi_m1, nI_add, pk_mul, pk_sub, zcl, nI_leI, nI_ltI, nI_eq, ite_not, reduceCtorEq, zqi_s, zql_s, zqv_s, true_and, and_true, vp_in_nI, not_true_eq_false, not_false_eq_true, or_true, true_or, or_false, false_or, and_self, zRa_k, zRa_r, zRa_pl, zRa_mn, zRa_hd, zRa_rs, zRa_mk, mK0, mQ1, mK1, mN1, mQ6, mK6, mN6, mQ7, mK7, mN7, mQ8, mK8, mN8, mQ9, mK9, mN9, mQ10, mK10, mN10, mQ11, mK11, mN11, mQ21, mK21, mN21, mQ22, mK22, mN22, mQ23, mK23, mN23, mQ24, mK24, mN24, mQ25, mK25, mN25, mQ26, mK26, mN26, mQ27, mK27, mN27, mQ28, mK28, mN28, mQ32, mK32, mN32, mQ33, mK33, mN33, mQ34, mK34, mN34, mQ35, mK35, mN35, mQ40, mK40, mN40, mQ41, mK41, mN41, mQ42, mK42, mN42, mQ43, mK43, mN43, mQ44, mK44, mN44, mQ45, mK45, mN45, mQ62, mK62, mN62])
    refine e_rcard hM hD hR hV hb hp (by omega) ?_
    (try simp (disch := omega) only [zh, zh_st, ↓reduceIte, Nat.add_left_cancel_iff, Nat.reduceEqDiff, Nat.add_sub_cancel, Nat.reduceAdd, Nat.reduceSub, Nat.reduceMul, ← nI_0, zu_same, zu_ne, zoi, zoi_m1, nI_add, pk_mul, pk_sub, zcl, nI_leI, nI_ltI, nI_eq, ite_not, reduceCtorEq, zqi_s, zql_s, zqv_s, true_and, and_true, vp_in_nI, not_true_eq_false, not_false_eq_true, or_true, true_or, or_false, false_or, and_self, zRa_k, zRa_r, zRa_pl, zRa_mn, zRa_hd, zRa_rs, zRa_mk, mK0, mQ1, mK1, mN1, mQ6, mK6, mN6, mQ7, mK7, mN7, mQ8, mK8, mN8, mQ9, mK9, mN9, mQ10, mK10, mN10, mQ11, mK11, mN11, mQ21, mK21, mN21, mQ22, mK22, mN22, mQ23, mK23, mN23, mQ24, mK24, mN24, mQ25, mK25, mN25, mQ26, mK26, mN26, mQ27, mK27, mN27, mQ28, mK28, mN28, mQ32, mK32, mN32, mQ33, mK33, mN33, mQ34, mK34, mN34, mQ35, mK35, mN35, mQ40, mK40, mN40, mQ41, mK41, mN41, mQ42, mK42, mN42, mQ43, mK43, mN43, mQ44, mK44, mN44, mQ45, mK45, mN45, mQ62, mK62, mN62, zRa_oA, hw])
    refine e_rprop (j := j) hM hD hR hV hb hc0 hj ?_
    rw [zgd_drop (by omega)] at hQ
    simp only [zal] at hQ
    (try simp (disch := omega) only [zh, zh_st, ↓reduceIte, Nat.add_left_cancel_iff, Nat.reduceEqDiff, Nat.add_sub_cancel, Nat.reduceAdd, Nat.reduceSub, Nat.reduceMul, ← nI_0, zu_same, zu_ne, zoi, zoi_m1, nI_add, pk_mul, pk_sub, zcl, nI_leI, nI_ltI, nI_eq, ite_not, reduceCtorEq, zqi_s, zql_s, zqv_s, true_and, and_true, vp_in_nI, not_true_eq_false, not_false_eq_true, or_true, true_or, or_false, false_or, and_self, ])
    by_cases h : zpr D (31 + j) ((P p).getD i 0) = zpr D (31 + j) ((P p).getD 0 0)
    · rw [if_pos h] at hQ ⊢
      exact ih (i + 1) (by omega) (by omega) (by omega) hQ
    · rw [if_neg h] at hQ ⊢
      exact hQ
set_option maxHeartbeats 2000000 in
theorem l_rri {d n mk : Nat} {σ : zH} {D : zDT} (hM : zMb σ) (hD : zDR σ D n) {pl mn hd rs : Nat → Int32} {P : Nat → List Nat} (hR : zRR pl mn P) (hV : zVP n P mk) (hb : zDb D) {Q : Option Value → zH → Prop} {p : Nat} (hp : p < 4) : ∀ (m i : Nat), i + 1 + m = (P p).length ∨ (m = 0 ∧ (P p).length ≤ i + 1) → i ≤ 10 → Q (some (.int (nI (zbn1 (zris (zpr D 31) ((P p).getD i 0) ((P p).drop (i + 1))))))) (zRa σ pl mn hd rs (nI mk)) → zW (d + 1) 172 484 [(0, .ref 160), (3, .int (nI p)), (4, .int (nI (i + 1)))] [] (zRa σ pl mn hd rs (nI mk)) Q := by
  have ⟨mK0, mQ1, mK1, mN1, mQ6, mK6, mN6, mQ7, mK7, mN7, mQ8, mK8, mN8, mQ9, mK9, mN9, mQ10, mK10, mN10, mQ11, mK11, mN11, mQ21, mK21, mN21, mQ22, mK22, mN22, mQ23, mK23, mN23, mQ24, mK24, mN24, mQ25, mK25, mN25, mQ26, mK26, mN26, mQ27, mK27, mN27, mQ28, mK28, mN28, mQ32, mK32, mN32, mQ33, mK33, mN33, mQ34, mK34, mN34, mQ35, mK35, mN35, mQ40, mK40, mN40, mQ41, mK41, mN41, mQ42, mK42, mN42, mQ43, mK43, mN43, mQ44, mK44, mN44, mQ45, mK45, mN45, mQ62, mK62, mN62⟩ := hM
  obtain ⟨a1, a2, a3⟩ := hR p hp
  obtain ⟨d0, d1, d2, d3⟩ := hD
  intro m
  induction m with
  | zero =>
    intro i hi hi9 hQ
    rw [List.drop_eq_nil_of_le (by omega)] at hQ
    refine b172_484 ?_
    (try simp (disch := omega) only [zh, zh_st, ↓reduceIte, Nat.add_left_cancel_iff, Nat.reduceEqDiff, Nat.add_sub_cancel, Nat.reduceAdd, Nat.reduceSub, Nat.reduceMul, ← nI_0, zu_same, zu_ne, zoi, zoi_m1, nI_add, pk_mul, pk_sub, zcl, nI_leI, nI_ltI, nI_eq, ite_not, reduceCtorEq, zqi_s, zql_s, zqv_s, true_and, and_true, vp_in_nI, if_pos, if_neg, not_true_eq_false, not_false_eq_true, or_true, true_or, or_false, false_or, and_self, zRa_k, zRa_r, zRa_pl, zRa_mn, zRa_hd, zRa_rs, zRa_mk, mK0, mQ1, mK1, mN1, mQ6, mK6, mN6, mQ7, mK7, mN7, mQ8, mK8, mN8, mQ9, mK9, mN9, mQ10, mK10, mN10, mQ11, mK11, mN11, mQ21, mK21, mN21, mQ22, mK22, mN22, mQ23, mK23, mN23, mQ24, mK24, mN24, mQ25, mK25, mN25, mQ26, mK26, mN26, mQ27, mK27, mN27, mQ28, mK28, mN28, mQ32, mK32, mN32, mQ33, mK33, mN33, mQ34, mK34, mN34, mQ35, mK35, mN35, mQ40, mK40, mN40, mQ41, mK41, mN41, mQ42, mK42, mN42, mQ43, mK43, mN43, mQ44, mK44, mN44, mQ45, mK45, mN45, mQ62, mK62, mN62, a1])
    exact hQ
  | succ m ih =>
    intro i hi hi9 hQ
    have hm := (zco_m (hV.2.2.1 p hp _ (zgd_mem (l := P p) (i := i) (by omega)))).1
    have hm1 := (zco_m (hV.2.2.1 p hp _ (zgd_mem (l := P p) (i := i + 1) (by omega)))).1
    have g0 := d1 _ hm
    have g1 := d1 _ hm1
    have hle := zpr_le hb (k := 31) (c := (P p).getD i 0) (by omega) (by omega)
    have hle1 := zpr_le hb (k := 31) (c := (P p).getD (i + 1) 0) (by omega) (by omega)
    have z0 : D.1 ((P p).getD i 0 % 16) = zpr D 31 ((P p).getD i 0) := rfl
    have z1 : D.1 ((P p).getD (i + 1) 0 % 16) = zpr D 31 ((P p).getD (i + 1) 0) := rfl
    rw [z0] at g0
    rw [z1] at g1
    refine b172_484 ?_
    (try simp (disch := omega) only [zh, zh_st, ↓reduceIte, Nat.add_left_cancel_iff, Nat.reduceEqDiff, Nat.add_sub_cancel, Nat.reduceAdd, Nat.reduceSub, Nat.reduceMul, ← nI_0, zu_same, zu_ne, zoi, zoi_m1, nI_add, pk_mul, pk_sub, zcl, nI_leI, nI_ltI, nI_eq, ite_not, reduceCtorEq, zqi_s, zql_s, zqv_s, true_and, and_true, vp_in_nI, if_pos, if_neg, not_true_eq_false, not_false_eq_true, or_true, true_or, or_false, false_or, and_self, zRa_k, zRa_r, zRa_pl, zRa_mn, zRa_hd, zRa_rs, zRa_mk, mK0, mQ1, mK1, mN1, mQ6, mK6, mN6, mQ7, mK7, mN7, mQ8, mK8, mN8, mQ9, mK9, mN9, mQ10, mK10, mN10, mQ11, mK11, mN11, mQ21, mK21, mN21, mQ22, mK22, mN22, mQ23, mK23, mN23, mQ24, mK24, mN24, mQ25, mK25, mN25, mQ26, mK26, mN26, mQ27, mK27, mN27, mQ28, mK28, mN28, mQ32, mK32, mN32, mQ33, mK33, mN33, mQ34, mK34, mN34, mQ35, mK35, mN35, mQ40, mK40, mN40, mQ41, mK41, mN41, mQ42, mK42, mN42, mQ43, mK43, mN43, mQ44, mK44, mN44, mQ45, mK45, mN45, mQ62, mK62, mN62, a1])
    refine e_rcard hM ⟨d0, d1, d2, d3⟩ hR hV hb hp (by omega) ?_
    (try simp (disch := omega) only [zh, zh_st, ↓reduceIte, Nat.add_left_cancel_iff, Nat.reduceEqDiff, Nat.add_sub_cancel, Nat.reduceAdd, Nat.reduceSub, Nat.reduceMul, ← nI_0, zu_same, zu_ne, zoi, zoi_m1, nI_add, pk_mul, pk_sub, zcl, nI_leI, nI_ltI, nI_eq, ite_not, reduceCtorEq, zqi_s, zql_s, zqv_s, true_and, and_true, vp_in_nI, not_true_eq_false, not_false_eq_true, or_true, true_or, or_false, false_or, and_self, zRa_k, zRa_r, zRa_pl, zRa_mn, zRa_hd, zRa_rs, zRa_mk, mK0, mQ1, mK1, mN1, mQ6, mK6, mN6, mQ7, mK7, mN7, mQ8, mK8, mN8, mQ9, mK9, mN9, mQ10, mK10, mN10, mQ11, mK11, mN11, mQ21, mK21, mN21, mQ22, mK22, mN22, mQ23, mK23, mN23, mQ24, mK24, mN24, mQ25, mK25, mN25, mQ26, mK26, mN26, mQ27, mK27, mN27, mQ28, mK28, mN28, mQ32, mK32, mN32, mQ33, mK33, mN33, mQ34, mK34, mN34, mQ35, mK35, mN35, mQ40, mK40, mN40, mQ41, mK41, mN41, mQ42, mK42, mN42, mQ43, mK43, mN43, mQ44, mK44, mN44, mQ45, mK45, mN45, mQ62, mK62, mN62, zRa_oA, g1])
    refine e_rcard hM ⟨d0, d1, d2, d3⟩ hR hV hb hp (by omega) ?_
    (try simp (disch := omega) only [zh, zh_st, ↓reduceIte, Nat.add_left_cancel_iff, Nat.reduceEqDiff, Nat.add_sub_cancel, Nat.reduceAdd, Nat.reduceSub, Nat.reduceMul, ← nI_0, zu_same, zu_ne, zoi, zoi_m1, nI_add, pk_mul, pk_sub, zcl, nI_leI, nI_ltI, nI_eq, ite_not, reduceCtorEq, zqi_s, zql_s, zqv_s, true_and, and_true, vp_in_nI, not_true_eq_false, not_false_eq_true, or_true, true_or, or_false, false_or, and_self, zRa_k, zRa_r, zRa_pl, zRa_mn, zRa_hd, zRa_rs, zRa_mk, mK0, mQ1, mK1, mN1, mQ6, mK6, mN6, mQ7, mK7, mN7, mQ8, mK8, mN8, mQ9, mK9, mN9, mQ10, mK10, mN10, mQ11, mK11, mN11, mQ21, mK21, mN21, mQ22, mK22, mN22, mQ23, mK23, mN23, mQ24, mK24, mN24, mQ25, mK25, mN25, mQ26, mK26, mN26, mQ27, mK27, mN27, mQ28, mK28, mN28, mQ32, mK32, mN32, mQ33, mK33, mN33, mQ34, mK34, mN34, mQ35, mK35, mN35, mQ40, mK40, mN40, mQ41, mK41, mN41, mQ42, mK42, mN42, mQ43, mK43, mN43, mQ44, mK44, mN44, mQ45, mK45, mN45, mQ62, mK62, mN62, zRa_oA, g0, g1])
    rw [zgd_drop (by omega)] at hQ
    simp only [zris] at hQ
    by_cases h : zpr D 31 ((P p).getD i 0) < zpr D 31 ((P p).getD (i + 1) 0)
    · rw [if_pos h] at hQ ⊢
      exact ih (i + 1) (by omega) (by omega) hQ
    · rw [if_neg h] at hQ ⊢
      exact hQ
/-! groups -/
theorem zea_short (f : Nat → Nat) (k : Nat) : ∀ (l pre : List Nat), pre.length + l.length < k → zea f k pre l = true
  | [], pre, _ => by simp [zea]
  | c :: l, pre, h => by
    simp only [List.length_cons] at h
    rw [zea, if_neg (by omega)]
    exact zea_short f k l _ (by simp only [List.length_cons]; omega)
theorem zea_full (f : Nat → Nat) (k : Nat) : ∀ (m : Nat) (l pre : List Nat), pre.length + (m + 1) = k → m + 1 ≤ l.length → zea f k pre l = if zdupf (((l.take (m + 1)).map f).reverse ++ pre) then false else zea f k [] (l.drop (m + 1))
  | 0, c :: l, pre, h, _ => by
    rw [zea, if_pos (by omega)]
    rfl
  | m + 1, c :: l, pre, h, hl => by
    simp only [List.length_cons] at hl
    rw [zea, if_neg (by omega), zea_full f k m l (f c :: pre) (by simp only [List.length_cons]; omega) (by omega)]
    simp [List.take_succ_cons]
  | 0, [], pre, _, hl => by simp at hl
  | m + 1, [], pre, _, hl => by simp at hl
theorem zdupf_app {a b : List Nat} (h : zdupf b = true) : zdupf (a ++ b) = true := by
  induction a with
  | nil => exact h
  | cons x a ih => rw [List.cons_append, zdupf, ih, Bool.or_true]
theorem zpref {f : Nat → Nat} {l : List Nat} {i : Nat} (hi : i < l.length) : ((l.take (i + 1)).map f).reverse = f (l.getD i 0) :: ((l.take i).map f).reverse := by
  have h : l.take (i + 1) = l.take i ++ [l.getD i 0] := by
    rw [List.take_succ, List.getElem?_eq_getElem hi, List.getD_eq_getElem?_getD, List.getElem?_eq_getElem hi]
    rfl
  rw [h, List.map_append, List.reverse_append]
  rfl
theorem zcont {f : Nat → Nat} {l : List Nat} {i : Nat} (hi : i ≤ l.length) (x : Nat) : (((l.take i).map f).reverse.contains x = true) ↔ ∃ j, j < i ∧ f (l.getD j 0) = x := by
  rw [List.contains_iff_mem, List.mem_reverse, List.mem_map]
  constructor
  · rintro ⟨c, hc, rfl⟩
    obtain ⟨j, hj, rfl⟩ := List.getElem_of_mem hc
    rw [List.length_take] at hj
    refine ⟨j, by omega, ?_⟩
    rw [List.getD_eq_getElem?_getD, List.getElem?_eq_getElem (by omega), List.getElem_take]
    rfl
  · rintro ⟨j, hj, rfl⟩
    refine ⟨l.getD j 0, ?_, rfl⟩
    rw [← zgd_take (n := i) hj]
    exact zgd_mem (by rw [List.length_take]; omega)
set_option maxHeartbeats 4000000 in
theorem l_rea {d n mk : Nat} {σ : zH} {D : zDT} (hM : zMb σ) (hD : zDR σ D n) {pl mn hd rs : Nat → Int32} {P : Nat → List Nat} (hR : zRR pl mn P) (hV : zVP n P mk) (hb : zDb D) {Q : Option Value → zH → Prop} {v p j g : Nat} (hv : v < 3200) (hp : p < 4) (hj : j < 3) (hw : zA σ 179 v = nI j) (hg : g ≤ 9) (hg2 : 1 ≤ g) : ∀ (m b : Nat), (P p).length - b ≤ m → b ≤ (P p).length → Q (some (.int (nI (zbn1 (zea (zpr D (31 + j)) g [] ((P p).drop b)))))) (zRa σ pl mn hd rs (nI mk)) → zW (d + 1) 172 379 [(0, .ref 160), (2, .int (nI v)), (3, .int (nI p)), (4, .int (nI g)), (5, .int (nI b))] [] (zRa σ pl mn hd rs (nI mk)) Q := by
  have ⟨mK0, mQ1, mK1, mN1, mQ6, mK6, mN6, mQ7, mK7, mN7, mQ8, mK8, mN8, mQ9, mK9, mN9, mQ10, mK10, mN10, mQ11, mK11, mN11, mQ21, mK21, mN21, mQ22, mK22, mN22, mQ23, mK23, mN23, mQ24, mK24, mN24, mQ25, mK25, mN25, mQ26, mK26, mN26, mQ27, mK27, mN27, mQ28, mK28, mN28, mQ32, mK32, mN32, mQ33, mK33, mN33, mQ34, mK34, mN34, mQ35, mK35, mN35, mQ40, mK40, mN40, mQ41, mK41, mN41, mQ42, mK42, mN42, mQ43, mK43, mN43, mQ44, mK44, mN44, mQ45, mK45, mN45, mQ62, mK62, mN62⟩ := hM
  obtain ⟨a1, a2, a3⟩ := hR p hp
  intro m
  induction m with
  | zero =>
    intro b hm hbl hQ
    rw [zea_short _ _ _ _ (by rw [List.length_drop]; simp; omega)] at hQ
    refine b172_379 ?_
    (try simp (disch := omega) only [zh, zh_st, ↓reduceIte, Nat.add_left_cancel_iff, Nat.reduceEqDiff, Nat.add_sub_cancel, Nat.reduceAdd, Nat.reduceSub, Nat.reduceMul, ← nI_0, zu_same, zu_ne, zoi, zoi_m1, nI_add, pk_mul, pk_sub, zcl, nI_leI, nI_ltI, nI_eq, ite_not, reduceCtorEq, zqi_s, zql_s, zqv_s, true_and, and_true, vp_in_nI, if_pos, if_neg, not_true_eq_false, not_false_eq_true, or_true, true_or, or_false, false_or, and_self, zRa_k, zRa_r, zRa_pl, zRa_mn, zRa_hd, zRa_rs, zRa_mk, mK0, mQ1, mK1, mN1, mQ6, mK6, mN6, mQ7, mK7, mN7, mQ8, mK8, mN8, mQ9, mK9, mN9, mQ10, mK10, mN10, mQ11, mK11, mN11, mQ21, mK21, mN21, mQ22, mK22, mN22, mQ23, mK23, mN23, mQ24, mK24, mN24, mQ25, mK25, mN25, mQ26, mK26, mN26, mQ27, mK27, mN27, mQ28, mK28, mN28, mQ32, mK32, mN32, mQ33, mK33, mN33, mQ34, mK34, mN34, mQ35, mK35, mN35, mQ40, mK40, mN40, mQ41, mK41, mN41, mQ42, mK42, mN42, mQ43, mK43, mN43, mQ44, mK44, mN44, mQ45, mK45, mN45, mQ62, mK62, mN62, a1])
    exact hQ
  | succ m ih =>
    intro b hm hbl hQ
    refine b172_379 ?_
    (try simp (disch := omega) only [zh, zh_st, ↓reduceIte, Nat.add_left_cancel_iff, Nat.reduceEqDiff, Nat.add_sub_cancel, Nat.reduceAdd, Nat.reduceSub, Nat.reduceMul, ← nI_0, zu_same, zu_ne, zoi, zoi_m1, nI_add, pk_mul, pk_sub, zcl, nI_leI, nI_ltI, nI_eq, ite_not, reduceCtorEq, zqi_s, zql_s, zqv_s, true_and, and_true, vp_in_nI, not_true_eq_false, not_false_eq_true, or_true, true_or, or_false, false_or, and_self, zRa_k, zRa_r, zRa_pl, zRa_mn, zRa_hd, zRa_rs, zRa_mk, mK0, mQ1, mK1, mN1, mQ6, mK6, mN6, mQ7, mK7, mN7, mQ8, mK8, mN8, mQ9, mK9, mN9, mQ10, mK10, mN10, mQ11, mK11, mN11, mQ21, mK21, mN21, mQ22, mK22, mN22, mQ23, mK23, mN23, mQ24, mK24, mN24, mQ25, mK25, mN25, mQ26, mK26, mN26, mQ27, mK27, mN27, mQ28, mK28, mN28, mQ32, mK32, mN32, mQ33, mK33, mN33, mQ34, mK34, mN34, mQ35, mK35, mN35, mQ40, mK40, mN40, mQ41, mK41, mN41, mQ42, mK42, mN42, mQ43, mK43, mN43, mQ44, mK44, mN44, mQ45, mK45, mN45, mQ62, mK62, mN62, a1])
    by_cases hbg : (P p).length < b + g
    · rw [if_pos hbg]
      rw [zea_short _ _ _ _ (by rw [List.length_drop]; simp; omega)] at hQ
      exact hQ
    · rw [if_neg hbg]
      have hfull := zea_full (zpr D (31 + j)) g (g - 1) ((P p).drop b) [] (by simp; omega) (by rw [List.length_drop]; omega)
      rw [show g - 1 + 1 = g by omega, List.append_nil, List.drop_drop] at hfull
      rw [hfull] at hQ
      -- a double was found: false
      have found : ∀ i i', b ≤ i' → i' < i → i < b + g → zpr D (31 + j) ((P p).getD i 0) = zpr D (31 + j) ((P p).getD i' 0) → Q (some (.int (nI 0))) (zRa σ pl mn hd rs (nI mk)) := by
        intro i i' h1 h2 h3 he
        have hdup : zdupf ((((P p).drop b).take g).map (zpr D (31 + j))).reverse = true := by
          have hp1 := zpref (f := zpr D (31 + j)) (l := (P p).drop b) (i := i - b) (by rw [List.length_drop]; omega)
          have hx : zdupf ((((P p).drop b).take (i - b + 1)).map (zpr D (31 + j))).reverse = true := by
            rw [hp1, zdupf, (zcont (by rw [List.length_drop]; omega) _).mpr ⟨i' - b, by omega, ?_⟩, Bool.true_or]
            rw [zgd_dropN, zgd_dropN, show b + (i' - b) = i' by omega, show b + (i - b) = i by omega, he]
          have hsp : ((P p).drop b).take g = ((P p).drop b).take (i - b + 1) ++ (((P p).drop b).take g).drop (i - b + 1) := by
            have := List.take_append_drop (i - b + 1) (((P p).drop b).take g)
            rw [List.take_take, Nat.min_eq_left (by omega)] at this
            exact this.symm
          rw [hsp, List.map_append, List.reverse_append]
          exact zdupf_app hx
        rw [hdup] at hQ
        exact hQ
      have hcz : ∀ i, i < (P p).length → zco ((P p).getD i 0) := fun i hi => hV.2.2.1 p hp _ (zgd_mem hi)
      -- the loops over i and j
      have li : ∀ (mi i : Nat), i + mi = b + g → b ≤ i → zdupf ((((P p).drop b).take (i - b)).map (zpr D (31 + j))).reverse = false → zW (d + 1) 172 397 [(0, .ref 160), (2, .int (nI v)), (3, .int (nI p)), (4, .int (nI g)), (5, .int (nI b)), (6, .int (nI i))] [] (zRa σ pl mn hd rs (nI mk)) Q := by
        intro mi
        induction mi with
        | zero =>
          intro i hi hbi hnd
          refine b172_397 ?_
          (try simp (disch := omega) only [zh, zh_st, ↓reduceIte, Nat.add_left_cancel_iff, Nat.reduceEqDiff, Nat.add_sub_cancel, Nat.reduceAdd, Nat.reduceSub, Nat.reduceMul, ← nI_0, zu_same, zu_ne, zoi, zoi_m1, nI_add, pk_mul, pk_sub, zcl, nI_leI, nI_ltI, nI_eq, ite_not, reduceCtorEq, zqi_s, zql_s, zqv_s, true_and, and_true, vp_in_nI, if_pos, if_neg, not_true_eq_false, not_false_eq_true, or_true, true_or, or_false, false_or, and_self, ])
          rw [show i - b = g by omega] at hnd
          rw [hnd] at hQ
          exact ih (b + g) (by omega) (by omega) hQ
        | succ mi ihi =>
          intro i hi hbi hnd
          refine b172_397 ?_
          (try simp (disch := omega) only [zh, zh_st, ↓reduceIte, Nat.add_left_cancel_iff, Nat.reduceEqDiff, Nat.add_sub_cancel, Nat.reduceAdd, Nat.reduceSub, Nat.reduceMul, ← nI_0, zu_same, zu_ne, zoi, zoi_m1, nI_add, pk_mul, pk_sub, zcl, nI_leI, nI_ltI, nI_eq, ite_not, reduceCtorEq, zqi_s, zql_s, zqv_s, true_and, and_true, vp_in_nI, if_pos, if_neg, not_true_eq_false, not_false_eq_true, or_true, true_or, or_false, false_or, and_self, ])
          have lj : ∀ (mj j' : Nat), j' + mj = i → b ≤ j' → (∀ i', b ≤ i' → i' < j' → zpr D (31 + j) ((P p).getD i' 0) ≠ zpr D (31 + j) ((P p).getD i 0)) → zW (d + 1) 172 411 [(0, .ref 160), (2, .int (nI v)), (3, .int (nI p)), (4, .int (nI g)), (5, .int (nI b)), (6, .int (nI i)), (7, .int (nI j'))] [] (zRa σ pl mn hd rs (nI mk)) Q := by
            intro mj
            induction mj with
            | zero =>
              intro j' hj' hbj hne
              refine b172_411 ?_
              (try simp (disch := omega) only [zh, zh_st, ↓reduceIte, Nat.add_left_cancel_iff, Nat.reduceEqDiff, Nat.add_sub_cancel, Nat.reduceAdd, Nat.reduceSub, Nat.reduceMul, ← nI_0, zu_same, zu_ne, zoi, zoi_m1, nI_add, pk_mul, pk_sub, zcl, nI_leI, nI_ltI, nI_eq, ite_not, reduceCtorEq, zqi_s, zql_s, zqv_s, true_and, and_true, vp_in_nI, if_pos, if_neg, not_true_eq_false, not_false_eq_true, or_true, true_or, or_false, false_or, and_self, ])
              refine ihi (i + 1) (by omega) (by omega) ?_
              rw [show i + 1 - b = i - b + 1 by omega, zpref (by rw [List.length_drop]; omega), zdupf, hnd, Bool.or_false, zgd_dropN, show b + (i - b) = i by omega]
              cases hct : (((((P p).drop b).take (i - b)).map (zpr D (31 + j))).reverse.contains (zpr D (31 + j) ((P p).getD i 0))) with
              | false => rfl
              | true =>
                obtain ⟨x, hx1, hx2⟩ := (zcont (by rw [List.length_drop]; omega) _).mp hct
                rw [zgd_dropN] at hx2
                exact absurd hx2 (hne (b + x) (by omega) (by omega))
            | succ mj ihj =>
              intro j' hj' hbj hne
              have hle := zpr_le hb (k := 31 + j) (c := (P p).getD i 0) (by omega) (by omega)
              have hle1 := zpr_le hb (k := 31 + j) (c := (P p).getD j' 0) (by omega) (by omega)
              refine b172_411 ?_
              (try simp (disch := omega) only [zh, zh_st, ↓reduceIte, Nat.add_left_cancel_iff, Nat.reduceEqDiff, Nat.add_sub_cancel, Nat.reduceAdd, Nat.reduceSub, Nat.reduceMul, ← nI_0, zu_same, zu_ne, zoi, zoi_m1, nI_add, pk_mul, pk_sub, zcl, nI_leI, nI_ltI, nI_eq, ite_not, reduceCtorEq, zqi_s, zql_s, zqv_s, true_and, and_true, vp_in_nI, if_pos, if_neg, not_true_eq_false, not_false_eq_true, or_true, true_or, or_false, false_or, and_self, zRa_k, zRa_r, zRa_pl, zRa_mn, zRa_hd, zRa_rs, zRa_mk, mK0, mQ1, mK1, mN1, mQ6, mK6, mN6, mQ7, mK7, mN7, mQ8, mK8, mN8, mQ9, mK9, mN9, mQ10, mK10, mN10, mQ11, mK11, mN11, mQ21, mK21, mN21, mQ22, mK22, mN22, mQ23, mK23, mN23, mQ24, mK24, mN24, mQ25, mK25, mN25, mQ26, mK26, mN26, mQ27, mK27, mN27, mQ28, mK28, mN28, mQ32, mK32, mN32, mQ33, mK33, mN33, mQ34, mK34, mN34, mQ35, mK35, mN35, mQ40, mK40, mN40, mQ41, mK41, mN41, mQ42, mK42, mN42, mQ43, mK43, mN43, mQ44, mK44, mN44, mQ45, mK45, mN45, mQ62, mK62, mN62])
              refine e_rcard hM hD hR hV hb hp (by omega) ?_
              (try simp (disch := omega) only [zh, zh_st, ↓reduceIte, Nat.add_left_cancel_iff, Nat.reduceEqDiff, Nat.add_sub_cancel, Nat.reduceAdd, Nat.reduceSub, Nat.reduceMul, ← nI_0, zu_same, zu_ne, zoi, zoi_m1, nI_add, pk_mul, pk_sub, zcl, nI_leI, nI_ltI, nI_eq, ite_not, reduceCtorEq, zqi_s, zql_s, zqv_s, true_and, and_true, vp_in_nI, not_true_eq_false, not_false_eq_true, or_true, true_or, or_false, false_or, and_self, zRa_k, zRa_r, zRa_pl, zRa_mn, zRa_hd, zRa_rs, zRa_mk, mK0, mQ1, mK1, mN1, mQ6, mK6, mN6, mQ7, mK7, mN7, mQ8, mK8, mN8, mQ9, mK9, mN9, mQ10, mK10, mN10, mQ11, mK11, mN11, mQ21, mK21, mN21, mQ22, mK22, mN22, mQ23, mK23, mN23, mQ24, mK24, mN24, mQ25, mK25, mN25, mQ26, mK26, mN26, mQ27, mK27, mN27, mQ28, mK28, mN28, mQ32, mK32, mN32, mQ33, mK33, mN33, mQ34, mK34, mN34, mQ35, mK35, mN35, mQ40, mK40, mN40, mQ41, mK41, mN41, mQ42, mK42, mN42, mQ43, mK43, mN43, mQ44, mK44, mN44, mQ45, mK45, mN45, mQ62, mK62, mN62, zRa_oA, hw])
              refine e_rprop (j := j) hM hD hR hV hb (hcz i (by omega)) hj ?_
              (try simp (disch := omega) only [zh, zh_st, ↓reduceIte, Nat.add_left_cancel_iff, Nat.reduceEqDiff, Nat.add_sub_cancel, Nat.reduceAdd, Nat.reduceSub, Nat.reduceMul, ← nI_0, zu_same, zu_ne, zoi, zoi_m1, nI_add, pk_mul, pk_sub, zcl, nI_leI, nI_ltI, nI_eq, ite_not, reduceCtorEq, zqi_s, zql_s, zqv_s, true_and, and_true, vp_in_nI, not_true_eq_false, not_false_eq_true, or_true, true_or, or_false, false_or, and_self, zRa_k, zRa_r, zRa_pl, zRa_mn, zRa_hd, zRa_rs, zRa_mk, mK0, mQ1, mK1, mN1, mQ6, mK6, mN6, mQ7, mK7, mN7, mQ8, mK8, mN8, mQ9, mK9, mN9, mQ10, mK10, mN10, mQ11, mK11, mN11, mQ21, mK21, mN21, mQ22, mK22, mN22, mQ23, mK23, mN23, mQ24, mK24, mN24, mQ25, mK25, mN25, mQ26, mK26, mN26, mQ27, mK27, mN27, mQ28, mK28, mN28, mQ32, mK32, mN32, mQ33, mK33, mN33, mQ34, mK34, mN34, mQ35, mK35, mN35, mQ40, mK40, mN40, mQ41, mK41, mN41, mQ42, mK42, mN42, mQ43, mK43, mN43, mQ44, mK44, mN44, mQ45, mK45, mN45, mQ62, mK62, mN62])
              refine e_rcard hM hD hR hV hb hp (by omega) ?_
              (try simp (disch := omega) only [zh, zh_st, ↓reduceIte, Nat.add_left_cancel_iff, Nat.reduceEqDiff, Nat.add_sub_cancel, Nat.reduceAdd, Nat.reduceSub, Nat.reduceMul, ← nI_0, zu_same, zu_ne, zoi, zoi_m1, nI_add, pk_mul, pk_sub, zcl, nI_leI, nI_ltI, nI_eq, ite_not, reduceCtorEq, zqi_s, zql_s, zqv_s, true_and, and_true, vp_in_nI, not_true_eq_false, not_false_eq_true, or_true, true_or, or_false, false_or, and_self, zRa_k, zRa_r, zRa_pl, zRa_mn, zRa_hd, zRa_rs, zRa_mk, mK0, mQ1, mK1, mN1, mQ6, mK6, mN6, mQ7, mK7, mN7, mQ8, mK8, mN8, mQ9, mK9, mN9, mQ10, mK10, mN10, mQ11, mK11, mN11, mQ21, mK21, mN21, mQ22, mK22, mN22, mQ23, mK23, mN23, mQ24, mK24, mN24, mQ25, mK25, mN25, mQ26, mK26, mN26, mQ27, mK27, mN27, mQ28, mK28, mN28, mQ32, mK32, mN32, mQ33, mK33, mN33, mQ34, mK34, mN34, mQ35, mK35, mN35, mQ40, mK40, mN40, mQ41, mK41, mN41, mQ42, mK42, mN42, mQ43, mK43, mN43, mQ44, mK44, mN44, mQ45, mK45, mN45, mQ62, mK62, mN62, zRa_oA, hw])
              refine e_rprop (j := j) hM hD hR hV hb (hcz j' (by omega)) hj ?_
              (try simp (disch := omega) only [zh, zh_st, ↓reduceIte, Nat.add_left_cancel_iff, Nat.reduceEqDiff, Nat.add_sub_cancel, Nat.reduceAdd, Nat.reduceSub, Nat.reduceMul, ← nI_0, zu_same, zu_ne, zoi, zoi_m1, nI_add, pk_mul, pk_sub, zcl, nI_leI, nI_ltI, nI_eq, ite_not, reduceCtorEq, zqi_s, zql_s, zqv_s, true_and, and_true, vp_in_nI, not_true_eq_false, not_false_eq_true, or_true, true_or, or_false, false_or, and_self, ])
              by_cases he : zpr D (31 + j) ((P p).getD i 0) = zpr D (31 + j) ((P p).getD j' 0)
              · rw [if_pos he]
                exact found i j' hbj (by omega) (by omega) he
              · rw [if_neg he]
                refine ihj (j' + 1) (by omega) (by omega) (fun i' h1 h2 => ?_)
                by_cases e : i' = j'
                · rw [e]; exact fun q => he q.symm
                · exact hne i' h1 (by omega)
          exact lj (i - b) b (by omega) (by omega) (fun i' h1 h2 => absurd h2 (by omega))
      refine li g b (by omega) (by omega) ?_
      rw [Nat.sub_self]
      rfl
