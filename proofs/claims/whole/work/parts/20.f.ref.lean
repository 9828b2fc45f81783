theorem zlgl {w : Nat} (k v : Nat) (hw : w < 35) (hk : k < 35) (hv : zwdn k = v) : (lg_cmp (lN (zwdn w)) (lN v) = nI 0) ↔ w = k := by
  rw [nI_0, ← hv]
  exact zlgw k hw hk
set_option maxHeartbeats 2000000 in
theorem e_asks {d s w p q g h : Nat} {σ : zH} (hM : zMb σ) (hs : s < 96) (hS : zRs σ s w p q g h) (hw : zSw w p q g h) {pl mn hd rs : Nat → Int32} {mk : Int32} {P : Nat → List Nat} (hR : zRR pl mn P) (ht : zTot P ≤ 9) {Q : Option Value → zH → Prop} (hQ : Q (some (.int (nI (if zfree w h then zasks w p q P else 0)))) (zRa σ pl mn hd rs mk)) : zM (d + 1) 175 [.ref 160, .int (nI s)] (zRa σ pl mn hd rs mk) Q := by
  have ⟨mK0, mQ1, mK1, mN1, mQ6, mK6, mN6, mQ7, mK7, mN7, mQ8, mK8, mN8, mQ9, mK9, mN9, mQ10, mK10, mN10, mQ11, mK11, mN11, mQ21, mK21, mN21, mQ22, mK22, mN22, mQ23, mK23, mN23, mQ24, mK24, mN24, mQ25, mK25, mN25, mQ26, mK26, mN26, mQ27, mK27, mN27, mQ28, mK28, mN28, mQ32, mK32, mN32, mQ33, mK33, mN33, mQ34, mK34, mN34, mQ35, mK35, mN35, mQ40, mK40, mN40, mQ41, mK41, mN41, mQ42, mK42, mN42, mQ43, mK43, mN43, mQ44, mK44, mN44, mQ45, mK45, mN45, mQ62, mK62, mN62⟩ := hM
  obtain ⟨s1, s2, s3, s4, s5⟩ := hS
  obtain ⟨w1, w2, w3, w4, w5, w6, w7, w8⟩ := hw
  obtain ⟨a1, a2, a3⟩ := hR p w2
  have hmx : (if (P p).length ≤ 1 then nI 1 else nI (P p).length) = nI (max (P p).length 1) := by
    by_cases hl : (P p).length ≤ 1
    · rw [if_pos hl, Nat.max_eq_right hl]
    · rw [if_neg hl, Nat.max_eq_left (by omega)]
  have l0 := zlgl (w := w) 0 6518132 (by omega) (by decide) (by decide); have l1 := zlgl (w := w) 1 1684365676 (by omega) (by decide) (by decide); have l2 := zlgl (w := w) 2 1836021349 (by omega) (by decide) (by decide); have l3 := zlgl (w := w) 3 1952541541 (by omega) (by decide) (by decide); have l4 := zlgl (w := w) 4 1953854062 (by omega) (by decide) (by decide); have l5 := zlgl (w := w) 5 1718380912 (by omega) (by decide) (by decide); have l6 := zlgl (w := w) 6 125797015120997 (by omega) (by decide) (by decide); have l8 := zlgl (w := w) 8 1685026670 (by omega) (by decide) (by decide); have l9 := zlgl (w := w) 9 1937203568 (by omega) (by decide) (by decide); have l10 := zlgl (w := w) 10 1835102827 (by omega) (by decide) (by decide)
  refine b175 ?_
  (try simp (disch := omega) only [zh, zh_st, ↓reduceIte, Nat.add_left_cancel_iff, Nat.reduceEqDiff, Nat.add_sub_cancel, Nat.reduceAdd, Nat.reduceSub, Nat.reduceMul, ← nI_0, zu_same, zu_ne, zoi, zoi_m1, nI_add, pk_mul, pk_sub, zcl, nI_leI, nI_ltI, nI_eq, ite_not, reduceCtorEq, zqi_s, zql_s, zqv_s, true_and, and_true, vp_in_nI, not_true_eq_false, not_false_eq_true, or_true, true_or, or_false, false_or, and_self, zRa_k, zRa_r, zRa_pl, zRa_mn, zRa_hd, zRa_rs, zRa_mk, mK0, mQ1, mK1, mN1, mQ6, mK6, mN6, mQ7, mK7, mN7, mQ8, mK8, mN8, mQ9, mK9, mN9, mQ10, mK10, mN10, mQ11, mK11, mN11, mQ21, mK21, mN21, mQ22, mK22, mN22, mQ23, mK23, mN23, mQ24, mK24, mN24, mQ25, mK25, mN25, mQ26, mK26, mN26, mQ27, mK27, mN27, mQ28, mK28, mN28, mQ32, mK32, mN32, mQ33, mK33, mN33, mQ34, mK34, mN34, mQ35, mK35, mN35, mQ40, mK40, mN40, mQ41, mK41, mN41, mQ42, mK42, mN42, mQ43, mK43, mN43, mQ44, mK44, mN44, mQ45, mK45, mN45, mQ62, mK62, mN62, zRa_oA, s1, s2, s5, a1, l0, l1, l2, l3, l4, l5, l6, l8, l9, l10])
  unfold zfree zasks at hQ
  by_cases e6 : w = 6
  · subst e6
    obtain ⟨hq, hpq⟩ := w3 (by decide)
    have s3' := s3 (by decide)
    obtain ⟨b1, b2, b3⟩ := hR q hq
    have h2 := zTot_le2 (P := P) w2 hq hpq
    (try simp (disch := omega) only [zh, zh_st, ↓reduceIte, Nat.add_left_cancel_iff, Nat.reduceEqDiff, Nat.add_sub_cancel, Nat.reduceAdd, Nat.reduceSub, Nat.reduceMul, ← nI_0, zu_same, zu_ne, zoi, zoi_m1, nI_add, pk_mul, pk_sub, zcl, nI_leI, nI_ltI, nI_eq, ite_not, reduceCtorEq, zqi_s, zql_s, zqv_s, true_and, and_true, vp_in_nI, not_true_eq_false, not_false_eq_true, or_true, true_or, or_false, false_or, and_self, zRa_k, zRa_r, zRa_pl, zRa_mn, zRa_hd, zRa_rs, zRa_mk, mK0, mQ1, mK1, mN1, mQ6, mK6, mN6, mQ7, mK7, mN7, mQ8, mK8, mN8, mQ9, mK9, mN9, mQ10, mK10, mN10, mQ11, mK11, mN11, mQ21, mK21, mN21, mQ22, mK22, mN22, mQ23, mK23, mN23, mQ24, mK24, mN24, mQ25, mK25, mN25, mQ26, mK26, mN26, mQ27, mK27, mN27, mQ28, mK28, mN28, mQ32, mK32, mN32, mQ33, mK33, mN33, mQ34, mK34, mN34, mQ35, mK35, mN35, mQ40, mK40, mN40, mQ41, mK41, mN41, mQ42, mK42, mN42, mQ43, mK43, mN43, mQ44, mK44, mN44, mQ45, mK45, mN45, mQ62, mK62, mN62, zRa_oA, s3', b1])
    refine e_ways (by omega) ?_
    rw [zql_s, lN_i]
    simpa using hQ
  · rw [if_neg e6]
    by_cases e11 : h = 11
    · rw [if_pos e11]
      simp only [e11, e6, beq_self_eq_true, Bool.or_true, if_true, if_false] at hQ
      rcases (show w = 0 ∨ w = 1 ∨ w = 2 ∨ w = 3 ∨ w = 4 ∨ w = 5 ∨ w = 7 ∨ w = 8 ∨ w = 9 ∨ w = 10 by omega) with rfl | rfl | rfl | rfl | rfl | rfl | rfl | rfl | rfl | rfl <;> first | (exfalso; have := w8 (by decide); omega) | (((try simp (disch := omega) only [zh, zh_st, ↓reduceIte, Nat.add_left_cancel_iff, Nat.reduceEqDiff, Nat.add_sub_cancel, Nat.reduceAdd, Nat.reduceSub, Nat.reduceMul, ← nI_0, zu_same, zu_ne, zoi, zoi_m1, nI_add, pk_mul, pk_sub, zcl, nI_leI, nI_ltI, nI_eq, ite_not, reduceCtorEq, zqi_s, zql_s, zqv_s, true_and, and_true, vp_in_nI, not_true_eq_false, not_false_eq_true, or_true, true_or, or_false, false_or, and_self, hmx])); simpa using hQ)
    · rw [if_neg e11]
      simpa [e6, e11] using hQ
theorem z15 (c : Nat) : c &&& 15 = c % 16 := Nat.and_two_pow_sub_one_eq_mod c 4
set_option maxHeartbeats 2000000 in
/-- cutting: what was picked goes to the bottom -/
theorem l_rcut {d p n : Nat} {σ : zH} (hM : zMb σ) {mn hd rs : Nat → Int32} {mk : Int32} {P : Nat → List Nat} {hl : List Nat} (hp : p < 4) (hh : zHD hd hl) (hln : hl.length = n) (h9 : (P p).length + n ≤ 9) {pl0 : Nat → Int32} (hR : zRR pl0 mn P) {Q : Option Value → zH → Prop} (hQ : ∀ pl' mn', zRR pl' mn' (zu P p (P p ++ hl)) → Q none (zRa σ pl' mn' hd rs mk)) : ∀ (m j : Nat), j + m = n → ∀ (pl : Nat → Int32), (∀ i, i < (P p).length → pl (10 * p + i) = nI ((P p).getD i 0)) → (∀ i, i < j → pl (10 * p + (P p).length + i) = nI (hl.getD i 0)) → (∀ k, (k < 10 * p ∨ 10 * p + 10 ≤ k) → pl k = pl0 k) → zW (d + 1) 179 93 [(0, .ref 160), (3, .int (nI p)), (4, .int (nI n)), (7, .int (nI j))] [] (zRa σ pl mn hd rs mk) Q := by
  have ⟨mK0, mQ1, mK1, mN1, mQ6, mK6, mN6, mQ7, mK7, mN7, mQ8, mK8, mN8, mQ9, mK9, mN9, mQ10, mK10, mN10, mQ11, mK11, mN11, mQ21, mK21, mN21, mQ22, mK22, mN22, mQ23, mK23, mN23, mQ24, mK24, mN24, mQ25, mK25, mN25, mQ26, mK26, mN26, mQ27, mK27, mN27, mQ28, mK28, mN28, mQ32, mK32, mN32, mQ33, mK33, mN33, mQ34, mK34, mN34, mQ35, mK35, mN35, mQ40, mK40, mN40, mQ41, mK41, mN41, mQ42, mK42, mN42, mQ43, mK43, mN43, mQ44, mK44, mN44, mQ45, mK45, mN45, mQ62, mK62, mN62⟩ := hM
  obtain ⟨a1, a2, a3⟩ := hR p hp
  intro m
  induction m with
  | zero =>
    intro j hj pl hA hB hC
    refine b179_93 ?_
    (try simp (disch := omega) only [zh, zh_st, ↓reduceIte, Nat.add_left_cancel_iff, Nat.reduceEqDiff, Nat.add_sub_cancel, Nat.reduceAdd, Nat.reduceSub, Nat.reduceMul, ← nI_0, zu_same, zu_ne, zoi, zoi_m1, nI_add, pk_mul, pk_sub, zcl, nI_leI, nI_ltI, nI_eq, ite_not, reduceCtorEq, zqi_s, zql_s, zqv_s, true_and, and_true, vp_in_nI, if_pos, if_neg, not_true_eq_false, not_false_eq_true, or_true, true_or, or_false, false_or, and_self, zRa_k, zRa_r, zRa_pl, zRa_mn, zRa_hd, zRa_rs, zRa_mk, mK0, mQ1, mK1, mN1, mQ6, mK6, mN6, mQ7, mK7, mN7, mQ8, mK8, mN8, mQ9, mK9, mN9, mQ10, mK10, mN10, mQ11, mK11, mN11, mQ21, mK21, mN21, mQ22, mK22, mN22, mQ23, mK23, mN23, mQ24, mK24, mN24, mQ25, mK25, mN25, mQ26, mK26, mN26, mQ27, mK27, mN27, mQ28, mK28, mN28, mQ32, mK32, mN32, mQ33, mK33, mN33, mQ34, mK34, mN34, mQ35, mK35, mN35, mQ40, mK40, mN40, mQ41, mK41, mN41, mQ42, mK42, mN42, mQ43, mK43, mN43, mQ44, mK44, mN44, mQ45, mK45, mN45, mQ62, mK62, mN62, a1])
    refine hQ _ _ (zRR_of hR (by rw [List.length_append]; omega) (fun i hi => ?_) hC (by rw [List.length_append, hln]))
    rw [List.length_append] at hi
    rw [zgd_app']
    by_cases e : i < (P p).length
    · rw [if_pos e]; exact hA i e
    · rw [if_neg e, ← hB (i - (P p).length) (by omega)]
      congr 1
      omega
  | succ m ih =>
    intro j hj pl hA hB hC
    have e1 := hh j (by omega)
    refine b179_93 ?_
    (try simp (disch := omega) only [zh, zh_st, ↓reduceIte, Nat.add_left_cancel_iff, Nat.reduceEqDiff, Nat.add_sub_cancel, Nat.reduceAdd, Nat.reduceSub, Nat.reduceMul, ← nI_0, zu_same, zu_ne, zoi, zoi_m1, nI_add, pk_mul, pk_sub, zcl, nI_leI, nI_ltI, nI_eq, ite_not, reduceCtorEq, zqi_s, zql_s, zqv_s, true_and, and_true, vp_in_nI, if_pos, if_neg, not_true_eq_false, not_false_eq_true, or_true, true_or, or_false, false_or, and_self, zRa_k, zRa_r, zRa_pl, zRa_mn, zRa_hd, zRa_rs, zRa_mk, mK0, mQ1, mK1, mN1, mQ6, mK6, mN6, mQ7, mK7, mN7, mQ8, mK8, mN8, mQ9, mK9, mN9, mQ10, mK10, mN10, mQ11, mK11, mN11, mQ21, mK21, mN21, mQ22, mK22, mN22, mQ23, mK23, mN23, mQ24, mK24, mN24, mQ25, mK25, mN25, mQ26, mK26, mN26, mQ27, mK27, mN27, mQ28, mK28, mN28, mQ32, mK32, mN32, mQ33, mK33, mN33, mQ34, mK34, mN34, mQ35, mK35, mN35, mQ40, mK40, mN40, mQ41, mK41, mN41, mQ42, mK42, mN42, mQ43, mK43, mN43, mQ44, mK44, mN44, mQ45, mK45, mN45, mQ62, mK62, mN62, a1, e1])
    refine ih (j + 1) (by omega) _ (fun i hi => ?_) (fun i hi => ?_) (fun k hk => ?_)
    · rw [zu_ne _ _ (by omega)]; exact hA i hi
    · by_cases e : i = j
      · rw [e, zu_same]
      · rw [zu_ne _ _ (by omega)]; exact hB i (by omega)
    · rw [zu_ne _ _ (by omega)]; exact hC k hk
set_option maxHeartbeats 2000000 in
theorem l_rdeal {d s p g n : Nat} {σ : zH} (hM : zMb σ) (hs : s < 96) (h3 : zA σ 171 s = nI g) {rs : Nat → Int32} {mk : Int32} (hp : p < 4) (hg : g < 4) (hpg : p ≠ g) (hn9 : n ≤ 9) {Q : Option Value → zH → Prop} : ∀ (m j : Nat), j + m = n → ∀ (P : Nat → List Nat) (pl mn hd : Nat → Int32), zRR pl mn P → m ≤ (P p).length → zTot P ≤ 9 → (∀ pl' mn' hd', zRR pl' mn' (zdeal m P p g) → Q none (zRa σ pl' mn' hd' rs mk)) → zW (d + 1) 179 158 [(0, .ref 160), (1, .int (nI s)), (3, .int (nI p)), (4, .int (nI n)), (7, .int (nI j))] [] (zRa σ pl mn hd rs mk) Q := by
  have ⟨mK0, mQ1, mK1, mN1, mQ6, mK6, mN6, mQ7, mK7, mN7, mQ8, mK8, mN8, mQ9, mK9, mN9, mQ10, mK10, mN10, mQ11, mK11, mN11, mQ21, mK21, mN21, mQ22, mK22, mN22, mQ23, mK23, mN23, mQ24, mK24, mN24, mQ25, mK25, mN25, mQ26, mK26, mN26, mQ27, mK27, mN27, mQ28, mK28, mN28, mQ32, mK32, mN32, mQ33, mK33, mN33, mQ34, mK34, mN34, mQ35, mK35, mN35, mQ40, mK40, mN40, mQ41, mK41, mN41, mQ42, mK42, mN42, mQ43, mK43, mN43, mQ44, mK44, mN44, mQ45, mK45, mN45, mQ62, mK62, mN62⟩ := hM
  intro m
  induction m with
  | zero =>
    intro j hj P pl mn hd hR hm ht hQ
    refine b179_158 ?_
    (try simp (disch := omega) only [zh, zh_st, ↓reduceIte, Nat.add_left_cancel_iff, Nat.reduceEqDiff, Nat.add_sub_cancel, Nat.reduceAdd, Nat.reduceSub, Nat.reduceMul, ← nI_0, zu_same, zu_ne, zoi, zoi_m1, nI_add, pk_mul, pk_sub, zcl, nI_leI, nI_ltI, nI_eq, ite_not, reduceCtorEq, zqi_s, zql_s, zqv_s, true_and, and_true, vp_in_nI, if_pos, if_neg, not_true_eq_false, not_false_eq_true, or_true, true_or, or_false, false_or, and_self, ])
    exact hQ _ _ _ hR
  | succ m ih =>
    intro j hj P pl mn hd hR hm ht hQ
    obtain ⟨c, l, hcl⟩ : ∃ c l, P p = c :: l := by
      cases hP : P p with
      | nil => rw [hP] at hm; simp at hm
      | cons c l => exact ⟨c, l, rfl⟩
    have hlen : (P p).length = l.length + 1 := by rw [hcl]; rfl
    have hpq := zTot_le2 (P := P) hp hg hpg
    refine b179_158 ?_
    (try simp (disch := omega) only [zh, zh_st, ↓reduceIte, Nat.add_left_cancel_iff, Nat.reduceEqDiff, Nat.add_sub_cancel, Nat.reduceAdd, Nat.reduceSub, Nat.reduceMul, ← nI_0, zu_same, zu_ne, zoi, zoi_m1, nI_add, pk_mul, pk_sub, zcl, nI_leI, nI_ltI, nI_eq, ite_not, reduceCtorEq, zqi_s, zql_s, zqv_s, true_and, and_true, vp_in_nI, if_pos, if_neg, not_true_eq_false, not_false_eq_true, or_true, true_or, or_false, false_or, and_self, zRa_k, zRa_r, zRa_pl, zRa_mn, zRa_hd, zRa_rs, zRa_mk, mK0, mQ1, mK1, mN1, mQ6, mK6, mN6, mQ7, mK7, mN7, mQ8, mK8, mN8, mQ9, mK9, mN9, mQ10, mK10, mN10, mQ11, mK11, mN11, mQ21, mK21, mN21, mQ22, mK22, mN22, mQ23, mK23, mN23, mQ24, mK24, mN24, mQ25, mK25, mN25, mQ26, mK26, mN26, mQ27, mK27, mN27, mQ28, mK28, mN28, mQ32, mK32, mN32, mQ33, mK33, mN33, mQ34, mK34, mN34, mQ35, mK35, mN35, mQ40, mK40, mN40, mQ41, mK41, mN41, mQ42, mK42, mN42, mQ43, mK43, mN43, mQ44, mK44, mN44, mQ45, mK45, mN45, mQ62, mK62, mN62])
    refine e_pick hM hR hp (by omega) (fun pl1 mn1 hd1 hR1 hh1 => ?_)
    rw [hcl] at hR1 hh1
    simp only [List.take_zero, List.nil_append, Nat.zero_add, List.drop_succ_cons, List.drop_zero, List.take_succ_cons] at hR1 hh1
    (try simp (disch := omega) only [zh, zh_st, ↓reduceIte, Nat.add_left_cancel_iff, Nat.reduceEqDiff, Nat.add_sub_cancel, Nat.reduceAdd, Nat.reduceSub, Nat.reduceMul, ← nI_0, zu_same, zu_ne, zoi, zoi_m1, nI_add, pk_mul, pk_sub, zcl, nI_leI, nI_ltI, nI_eq, ite_not, reduceCtorEq, zqi_s, zql_s, zqv_s, true_and, and_true, vp_in_nI, not_true_eq_false, not_false_eq_true, or_true, true_or, or_false, false_or, and_self, zRa_k, zRa_r, zRa_pl, zRa_mn, zRa_hd, zRa_rs, zRa_mk, mK0, mQ1, mK1, mN1, mQ6, mK6, mN6, mQ7, mK7, mN7, mQ8, mK8, mN8, mQ9, mK9, mN9, mQ10, mK10, mN10, mQ11, mK11, mN11, mQ21, mK21, mN21, mQ22, mK22, mN22, mQ23, mK23, mN23, mQ24, mK24, mN24, mQ25, mK25, mN25, mQ26, mK26, mN26, mQ27, mK27, mN27, mQ28, mK28, mN28, mQ32, mK32, mN32, mQ33, mK33, mN33, mQ34, mK34, mN34, mQ35, mK35, mN35, mQ40, mK40, mN40, mQ41, mK41, mN41, mQ42, mK42, mN42, mQ43, mK43, mN43, mQ44, mK44, mN44, mQ45, mK45, mN45, mQ62, mK62, mN62, zRa_oA, h3])
    have hR1g : zu P p l g = P g := zu_ne _ _ (fun q => hpg q.symm)
    refine e_onto (n := 1) hM hR1 hg hh1 rfl (by rw [hR1g]; omega) (fun pl2 mn2 hR2 => ?_)
    rw [zqv_s]
    refine ih (j + 1) (by omega) _ _ _ _ hR2 ?_ ?_ (fun pl' mn' hd' hR' => hQ _ _ _ ?_)
    · rw [zu_ne _ _ hpg, zu_same]; omega
    · have t1 := zTot_u (P := P) hp l
      have t2 := zTot_u (P := zu P p l) hg ([c] ++ zu P p l g)
      simp only [List.length_append, List.length_cons, List.length_nil] at t1 t2
      omega
    · rw [zdeal, hcl]
      exact hR'
set_option maxHeartbeats 4000000 in
theorem e_ract {d s w p q g h c mk : Nat} {σ : zH} (hM : zMb σ) (hs : s < 96) (hS : zRs σ s w p q g h) (hw : zSw w p q g h) {pl mn hd rs : Nat → Int32} {P : Nat → List Nat} (hR : zRR pl mn P) (ht : zTot P ≤ 9) (h32 : ∀ p < 4, ∀ c ∈ P p, zco c) (hc : zfree w h = true → c < zasks w p q P) (hc2 : c < 2 ^ 30) {Q : Option Value → zH → Prop} (hQ : ∀ pl' mn' hd' rs', zRR pl' mn' (zact w p q g h c P mk).1 → Q none (zRa σ pl' mn' hd' rs' (nI (zact w p q g h c P mk).2))) : zM (d + 2) 179 [.ref 160, .int (nI s), .int (nI c)] (zRa σ pl mn hd rs (nI mk)) Q := by
  have ⟨mK0, mQ1, mK1, mN1, mQ6, mK6, mN6, mQ7, mK7, mN7, mQ8, mK8, mN8, mQ9, mK9, mN9, mQ10, mK10, mN10, mQ11, mK11, mN11, mQ21, mK21, mN21, mQ22, mK22, mN22, mQ23, mK23, mN23, mQ24, mK24, mN24, mQ25, mK25, mN25, mQ26, mK26, mN26, mQ27, mK27, mN27, mQ28, mK28, mN28, mQ32, mK32, mN32, mQ33, mK33, mN33, mQ34, mK34, mN34, mQ35, mK35, mN35, mQ40, mK40, mN40, mQ41, mK41, mN41, mQ42, mK42, mN42, mQ43, mK43, mN43, mQ44, mK44, mN44, mQ45, mK45, mN45, mQ62, mK62, mN62⟩ := hM
  have hS' := hS
  obtain ⟨s1, s2, s3, s4, s5⟩ := hS
  have hw' := hw
  obtain ⟨w1, w2, w3, w4, w5, w6, w7, w8⟩ := hw
  obtain ⟨a1, a2, a3⟩ := hR p w2
  have h32p := h32 p w2
  -- how many
  obtain ⟨n, hn⟩ : ∃ n, n = min (if h = 11 then c else h) (P p).length := ⟨_, rfl⟩
  have hnl : n ≤ (P p).length := by rw [hn]; exact Nat.min_le_right _ _
  have hxor : ∀ c, c < 32 → nI c ^^^ nI 16 = nI (c ^^^ 16) := by decide +kernel
  have l0 := zlgl (w := w) 0 6518132 (by omega) (by decide) (by decide); have l1 := zlgl (w := w) 1 1684365676 (by omega) (by decide) (by decide); have l2 := zlgl (w := w) 2 1836021349 (by omega) (by decide) (by decide); have l3 := zlgl (w := w) 3 1952541541 (by omega) (by decide) (by decide); have l4 := zlgl (w := w) 4 1953854062 (by omega) (by decide) (by decide); have l5 := zlgl (w := w) 5 1718380912 (by omega) (by decide) (by decide); have l6 := zlgl (w := w) 6 125797015120997 (by omega) (by decide) (by decide); have l8 := zlgl (w := w) 8 1685026670 (by omega) (by decide) (by decide); have l9 := zlgl (w := w) 9 1937203568 (by omega) (by decide) (by decide); have l10 := zlgl (w := w) 10 1835102827 (by omega) (by decide) (by decide)
  have main : ∀ v : Nat, (w = 0 ∨ w = 1 ∨ w = 2 ∨ w = 4 → v = n) → zW (d + 2) 179 63 [(0, .ref 160), (1, .int (nI s)), (2, .int (nI c)), (3, .int (nI p))] [.int (nI v)] (zRa σ pl mn hd rs (nI mk)) Q := by
    intro v hv
    -- a place
    have place : (w = 3 ∨ w = 5 ∨ w = 10) → zW (d + 2) 179 284 [(0, .ref 160), (1, .int (nI s)), (2, .int (nI c)), (3, .int (nI p)), (5, .long (lN (zwdn w)))] [] (zRa σ pl mn hd rs (nI mk)) Q := by
      intro hw3
      obtain ⟨w71, w72⟩ := w7 hw3
      obtain ⟨k, hk⟩ : ∃ k, k = (if h = 11 then c else h - 1) := ⟨_, rfl⟩
      have hk1 : (if h = 11 then c + 1 else h) = k + 1 := by rw [hk]; split <;> omega
      have hk2 : k < 2 ^ 30 := by rw [hk]; split <;> omega
      have at307 : zW (d + 2) 179 307 [(0, .ref 160), (1, .int (nI s)), (3, .int (nI p)), (5, .long (lN (zwdn w)))] [.int (nI k)] (zRa σ pl mn hd rs (nI mk)) Q := by
        refine b179_307 ?_
        (try simp (disch := omega) only [zh, zh_st, ↓reduceIte, Nat.add_left_cancel_iff, Nat.reduceEqDiff, Nat.add_sub_cancel, Nat.reduceAdd, Nat.reduceSub, Nat.reduceMul, ← nI_0, zu_same, zu_ne, zoi, zoi_m1, nI_add, pk_mul, pk_sub, zcl, nI_leI, nI_ltI, nI_eq, ite_not, reduceCtorEq, zqi_s, zql_s, zqv_s, true_and, and_true, vp_in_nI, not_true_eq_false, not_false_eq_true, or_true, true_or, or_false, false_or, and_self, zRa_k, zRa_r, zRa_pl, zRa_mn, zRa_hd, zRa_rs, zRa_mk, mK0, mQ1, mK1, mN1, mQ6, mK6, mN6, mQ7, mK7, mN7, mQ8, mK8, mN8, mQ9, mK9, mN9, mQ10, mK10, mN10, mQ11, mK11, mN11, mQ21, mK21, mN21, mQ22, mK22, mN22, mQ23, mK23, mN23, mQ24, mK24, mN24, mQ25, mK25, mN25, mQ26, mK26, mN26, mQ27, mK27, mN27, mQ28, mK28, mN28, mQ32, mK32, mN32, mQ33, mK33, mN33, mQ34, mK34, mN34, mQ35, mK35, mN35, mQ40, mK40, mN40, mQ41, mK41, mN41, mQ42, mK42, mN42, mQ43, mK43, mN43, mQ44, mK44, mN44, mQ45, mK45, mN45, mQ62, mK62, mN62, a1, l0, l1, l2, l3, l4, l5, l6, l8, l9, l10])
        by_cases hkl : k < (P p).length
        · have e1 := a3 k hkl
          have hcm := zgd_mem (l := P p) hkl
          have hc32 := (zco_0 (h32p _ hcm)).2
          rw [if_pos hkl]
          rcases hw3 with rfl | rfl | rfl
          · rw [if_neg (by decide), if_neg (by decide)]
            have hg := w4 (by decide)
            have hpg := w5 (by decide)
            have s4' := s4 (by decide)
            have hpq := zTot_le2 (P := P) w2 hg hpg
            refine e_pick hM hR w2 (by omega) (fun pl1 mn1 hd1 hR1 hh1 => ?_)
            have e2 : ((P p).drop k).take 1 = [(P p).getD k 0] := by rw [zgd_drop hkl]; rfl
            rw [e2] at hh1
            (try simp (disch := omega) only [zh, zh_st, ↓reduceIte, Nat.add_left_cancel_iff, Nat.reduceEqDiff, Nat.add_sub_cancel, Nat.reduceAdd, Nat.reduceSub, Nat.reduceMul, ← nI_0, zu_same, zu_ne, zoi, zoi_m1, nI_add, pk_mul, pk_sub, zcl, nI_leI, nI_ltI, nI_eq, ite_not, reduceCtorEq, zqi_s, zql_s, zqv_s, true_and, and_true, vp_in_nI, not_true_eq_false, not_false_eq_true, or_true, true_or, or_false, false_or, and_self, zRa_k, zRa_r, zRa_pl, zRa_mn, zRa_hd, zRa_rs, zRa_mk, mK0, mQ1, mK1, mN1, mQ6, mK6, mN6, mQ7, mK7, mN7, mQ8, mK8, mN8, mQ9, mK9, mN9, mQ10, mK10, mN10, mQ11, mK11, mN11, mQ21, mK21, mN21, mQ22, mK22, mN22, mQ23, mK23, mN23, mQ24, mK24, mN24, mQ25, mK25, mN25, mQ26, mK26, mN26, mQ27, mK27, mN27, mQ28, mK28, mN28, mQ32, mK32, mN32, mQ33, mK33, mN33, mQ34, mK34, mN34, mQ35, mK35, mN35, mQ40, mK40, mN40, mQ41, mK41, mN41, mQ42, mK42, mN42, mQ43, mK43, mN43, mQ44, mK44, mN44, mQ45, mK45, mN45, mQ62, mK62, mN62, zRa_oA, s4'])
            have hR1g : zu P p ((P p).take k ++ (P p).drop (k + 1)) g = P g := zu_ne _ _ (fun q => hpg q.symm)
            refine e_onto (n := 1) hM hR1 hg hh1 rfl (by rw [hR1g]; omega) (fun pl2 mn2 hR2 => ?_)
            rw [zqv_s]
            rw [hR1g] at hR2
            refine hQ _ _ _ _ ?_
            unfold zact
            simp only
            rw [hk1, if_pos (by omega), Nat.add_sub_cancel, List.eraseIdx_eq_take_drop_succ]
            exact hR2
          · rw [if_pos (by decide)]
            (try simp (disch := omega) only [zh, zh_st, ↓reduceIte, Nat.add_left_cancel_iff, Nat.reduceEqDiff, Nat.add_sub_cancel, Nat.reduceAdd, Nat.reduceSub, Nat.reduceMul, ← nI_0, zu_same, zu_ne, zoi, zoi_m1, nI_add, pk_mul, pk_sub, zcl, nI_leI, nI_ltI, nI_eq, ite_not, reduceCtorEq, zqi_s, zql_s, zqv_s, true_and, and_true, vp_in_nI, not_true_eq_false, not_false_eq_true, or_true, true_or, or_false, false_or, and_self, zRa_k, zRa_r, zRa_pl, zRa_mn, zRa_hd, zRa_rs, zRa_mk, mK0, mQ1, mK1, mN1, mQ6, mK6, mN6, mQ7, mK7, mN7, mQ8, mK8, mN8, mQ9, mK9, mN9, mQ10, mK10, mN10, mQ11, mK11, mN11, mQ21, mK21, mN21, mQ22, mK22, mN22, mQ23, mK23, mN23, mQ24, mK24, mN24, mQ25, mK25, mN25, mQ26, mK26, mN26, mQ27, mK27, mN27, mQ28, mK28, mN28, mQ32, mK32, mN32, mQ33, mK33, mN33, mQ34, mK34, mN34, mQ35, mK35, mN35, mQ40, mK40, mN40, mQ41, mK41, mN41, mQ42, mK42, mN42, mQ43, mK43, mN43, mQ44, mK44, mN44, mQ45, mK45, mN45, mQ62, mK62, mN62, e1, hxor _ hc32])
            refine hQ _ _ _ _ ?_
            unfold zact
            simp only
            rw [hk1, if_pos (by omega), Nat.add_sub_cancel]
            refine fun p' hp' => ?_
            by_cases e : p' = p
            · subst e
              rw [zu_same, List.length_set]
              refine ⟨a1, a2, fun i hi => ?_⟩
              by_cases e2 : i = k
              · rw [e2, zu_same, List.getD_eq_getElem?_getD (l := (P p').set _ _), List.getElem?_set_self hkl]
                rfl
              · rw [zu_ne _ _ (by omega), List.getD_eq_getElem?_getD (l := (P p').set _ _), List.getElem?_set_ne (by omega), ← List.getD_eq_getElem?_getD]
                exact a3 i hi
            · rw [zu_ne _ _ e]
              obtain ⟨g1, g2, g3⟩ := hR p' hp'
              refine ⟨g1, g2, fun i hi => ?_⟩
              rw [zu_ne _ _ (by omega)]
              exact g3 i hi
          · rw [if_neg (by decide), if_pos (by decide)]
            refine b170 ?_
            (try simp (disch := omega) only [zh, zh_st, ↓reduceIte, Nat.add_left_cancel_iff, Nat.reduceEqDiff, Nat.add_sub_cancel, Nat.reduceAdd, Nat.reduceSub, Nat.reduceMul, ← nI_0, zu_same, zu_ne, zoi, zoi_m1, nI_add, pk_mul, pk_sub, zcl, nI_leI, nI_ltI, nI_eq, ite_not, reduceCtorEq, zqi_s, zql_s, zqv_s, true_and, and_true, vp_in_nI, not_true_eq_false, not_false_eq_true, or_true, true_or, or_false, false_or, and_self, zRa_k, zRa_r, zRa_pl, zRa_mn, zRa_hd, zRa_rs, zRa_mk, mK0, mQ1, mK1, mN1, mQ6, mK6, mN6, mQ7, mK7, mN7, mQ8, mK8, mN8, mQ9, mK9, mN9, mQ10, mK10, mN10, mQ11, mK11, mN11, mQ21, mK21, mN21, mQ22, mK22, mN22, mQ23, mK23, mN23, mQ24, mK24, mN24, mQ25, mK25, mN25, mQ26, mK26, mN26, mQ27, mK27, mN27, mQ28, mK28, mN28, mQ32, mK32, mN32, mQ33, mK33, mN33, mQ34, mK34, mN34, mQ35, mK35, mN35, mQ40, mK40, mN40, mQ41, mK41, mN41, mQ42, mK42, mN42, mQ43, mK43, mN43, mQ44, mK44, mN44, mQ45, mK45, mN45, mQ62, mK62, mN62, e1, zand15])
            have hz : zact 10 p q g h c P mk = (P, (P p).getD k 0 &&& 15) := by
              unfold zact
              simp only
              rw [hk1, if_pos (by omega), Nat.add_sub_cancel]
            rw [hz, z15] at hQ
            exact hQ _ _ _ _ hR
        · rw [if_neg hkl]
          have hz : zact w p q g h c P mk = (P, mk) := by
            rcases hw3 with rfl | rfl | rfl <;> unfold zact <;> simp only <;> rw [hk1, if_neg (by omega)]
          rw [hz] at hQ
          exact hQ _ _ _ _ hR
      refine b179_284 ?_
      (try simp (disch := omega) only [zh, zh_st, ↓reduceIte, Nat.add_left_cancel_iff, Nat.reduceEqDiff, Nat.add_sub_cancel, Nat.reduceAdd, Nat.reduceSub, Nat.reduceMul, ← nI_0, zu_same, zu_ne, zoi, zoi_m1, nI_add, pk_mul, pk_sub, zcl, nI_leI, nI_ltI, nI_eq, ite_not, reduceCtorEq, zqi_s, zql_s, zqv_s, true_and, and_true, vp_in_nI, not_true_eq_false, not_false_eq_true, or_true, true_or, or_false, false_or, and_self, zRa_k, zRa_r, zRa_pl, zRa_mn, zRa_hd, zRa_rs, zRa_mk, mK0, mQ1, mK1, mN1, mQ6, mK6, mN6, mQ7, mK7, mN7, mQ8, mK8, mN8, mQ9, mK9, mN9, mQ10, mK10, mN10, mQ11, mK11, mN11, mQ21, mK21, mN21, mQ22, mK22, mN22, mQ23, mK23, mN23, mQ24, mK24, mN24, mQ25, mK25, mN25, mQ26, mK26, mN26, mQ27, mK27, mN27, mQ28, mK28, mN28, mQ32, mK32, mN32, mQ33, mK33, mN33, mQ34, mK34, mN34, mQ35, mK35, mN35, mQ40, mK40, mN40, mQ41, mK41, mN41, mQ42, mK42, mN42, mQ43, mK43, mN43, mQ44, mK44, mN44, mQ45, mK45, mN45, mQ62, mK62, mN62, zRa_oA, s5])
      by_cases e11 : h = 11
      · rw [if_pos e11]
        rw [if_pos e11] at hk
        rw [hk] at at307
        exact at307
      · rw [if_neg e11]
        rw [if_neg e11] at hk
        rw [hk] at at307
        exact at307
    refine b179_63 ?_
    rcases (show w = 0 ∨ w = 1 ∨ w = 2 ∨ w = 3 ∨ w = 4 ∨ w = 5 ∨ w = 6 ∨ w = 7 ∨ w = 8 ∨ w = 9 ∨ w = 10 by omega) with rfl | rfl | rfl | rfl | rfl | rfl | rfl | rfl | rfl | rfl | rfl <;> (try simp (disch := omega) only [zh, zh_st, ↓reduceIte, Nat.add_left_cancel_iff, Nat.reduceEqDiff, Nat.add_sub_cancel, Nat.reduceAdd, Nat.reduceSub, Nat.reduceMul, ← nI_0, zu_same, zu_ne, zoi, zoi_m1, nI_add, pk_mul, pk_sub, zcl, nI_leI, nI_ltI, nI_eq, ite_not, reduceCtorEq, zqi_s, zql_s, zqv_s, true_and, and_true, vp_in_nI, not_true_eq_false, not_false_eq_true, or_true, true_or, or_false, false_or, and_self, zRa_k, zRa_r, zRa_pl, zRa_mn, zRa_hd, zRa_rs, zRa_mk, mK0, mQ1, mK1, mN1, mQ6, mK6, mN6, mQ7, mK7, mN7, mQ8, mK8, mN8, mQ9, mK9, mN9, mQ10, mK10, mN10, mQ11, mK11, mN11, mQ21, mK21, mN21, mQ22, mK22, mN22, mQ23, mK23, mN23, mQ24, mK24, mN24, mQ25, mK25, mN25, mQ26, mK26, mN26, mQ27, mK27, mN27, mQ28, mK28, mN28, mQ32, mK32, mN32, mQ33, mK33, mN33, mQ34, mK34, mN34, mQ35, mK35, mN35, mQ40, mK40, mN40, mQ41, mK41, mN41, mQ42, mK42, mN42, mQ43, mK43, mN43, mQ44, mK44, mN44, mQ45, mK45, mN45, mQ62, mK62, mN62, zRa_oA, s1, l0, l1, l2, l3, l4, l5, l6, l8, l9, l10])
    · have hv' := hv (by decide)
      subst hv'
      refine e_pick hM hR w2 (by omega) (fun pl1 mn1 hd1 hR1 hh1 => ?_)
      simp only [List.take_zero, List.nil_append, Nat.zero_add, List.drop_zero] at hR1 hh1
      rw [zqv_s]
      obtain ⟨k1, k2, k3⟩ := hR1 p w2
      refine l_rcut hM w2 hh1 (by rw [List.length_take]; omega) (by rw [zu_same, List.length_drop]; omega) hR1 (fun pl' mn' hR' => hQ _ _ _ _ ?_) v 0 (by omega) pl1 (fun i hi => k3 i hi) (fun i hi => absurd hi (Nat.not_lt_zero i)) (fun _ _ => rfl)
      rw [zu_same, zu_zu] at hR'
      unfold zact
      simp only
      rw [← hn]
      exact hR'
    · have hv' := hv (by decide)
      subst hv'
      refine l_rdeal hM hs (s4 (by decide)) w2 (w4 (by decide)) (w5 (by decide)) (by omega) v 0 (by omega) P pl mn hd hR hnl ht (fun pl' mn' hd' hR' => hQ _ _ _ _ ?_)
      unfold zact
      simp only
      rw [← hn]
      exact hR'
    · have hv' := hv (by decide)
      subst hv'
      have hg := w4 (by decide)
      have hpg := w5 (by decide)
      have s4' := s4 (by decide)
      have hpq := zTot_le2 (P := P) w2 hg hpg
      refine e_pick hM hR w2 (by omega) (fun pl1 mn1 hd1 hR1 hh1 => ?_)
      simp only [List.take_zero, List.nil_append, Nat.zero_add, List.drop_zero] at hR1 hh1
      have hR1g : zu P p ((P p).drop v) g = P g := zu_ne _ _ (fun q => hpg q.symm)
      (try simp (disch := omega) only [zh, zh_st, ↓reduceIte, Nat.add_left_cancel_iff, Nat.reduceEqDiff, Nat.add_sub_cancel, Nat.reduceAdd, Nat.reduceSub, Nat.reduceMul, ← nI_0, zu_same, zu_ne, zoi, zoi_m1, nI_add, pk_mul, pk_sub, zcl, nI_leI, nI_ltI, nI_eq, ite_not, reduceCtorEq, zqi_s, zql_s, zqv_s, true_and, and_true, vp_in_nI, not_true_eq_false, not_false_eq_true, or_true, true_or, or_false, false_or, and_self, zRa_k, zRa_r, zRa_pl, zRa_mn, zRa_hd, zRa_rs, zRa_mk, mK0, mQ1, mK1, mN1, mQ6, mK6, mN6, mQ7, mK7, mN7, mQ8, mK8, mN8, mQ9, mK9, mN9, mQ10, mK10, mN10, mQ11, mK11, mN11, mQ21, mK21, mN21, mQ22, mK22, mN22, mQ23, mK23, mN23, mQ24, mK24, mN24, mQ25, mK25, mN25, mQ26, mK26, mN26, mQ27, mK27, mN27, mQ28, mK28, mN28, mQ32, mK32, mN32, mQ33, mK33, mN33, mQ34, mK34, mN34, mQ35, mK35, mN35, mQ40, mK40, mN40, mQ41, mK41, mN41, mQ42, mK42, mN42, mQ43, mK43, mN43, mQ44, mK44, mN44, mQ45, mK45, mN45, mQ62, mK62, mN62, zRa_oA, s4'])
      refine e_onto hM hR1 hg hh1 (by rw [List.length_take]; omega) (by rw [hR1g]; omega) (fun pl2 mn2 hR2 => ?_)
      rw [zqv_s]
      rw [hR1g] at hR2
      refine hQ _ _ _ _ ?_
      unfold zact
      simp only
      rw [← hn]
      exact hR2
    · exact place (by decide)
    · have hv' := hv (by decide)
      subst hv'
      refine e_pick hM hR w2 (by omega) (fun pl1 mn1 hd1 hR1 hh1 => ?_)
      simp only [List.take_zero, List.nil_append, Nat.zero_add, List.drop_zero] at hR1 hh1
      (try simp (disch := omega) only [zh, zh_st, ↓reduceIte, Nat.add_left_cancel_iff, Nat.reduceEqDiff, Nat.add_sub_cancel, Nat.reduceAdd, Nat.reduceSub, Nat.reduceMul, ← nI_0, zu_same, zu_ne, zoi, zoi_m1, nI_add, pk_mul, pk_sub, zcl, nI_leI, nI_ltI, nI_eq, ite_not, reduceCtorEq, zqi_s, zql_s, zqv_s, true_and, and_true, vp_in_nI, not_true_eq_false, not_false_eq_true, or_true, true_or, or_false, false_or, and_self, zRa_k, zRa_r, zRa_pl, zRa_mn, zRa_hd, zRa_rs, zRa_mk, mK0, mQ1, mK1, mN1, mQ6, mK6, mN6, mQ7, mK7, mN7, mQ8, mK8, mN8, mQ9, mK9, mN9, mQ10, mK10, mN10, mQ11, mK11, mN11, mQ21, mK21, mN21, mQ22, mK22, mN22, mQ23, mK23, mN23, mQ24, mK24, mN24, mQ25, mK25, mN25, mQ26, mK26, mN26, mQ27, mK27, mN27, mQ28, mK28, mN28, mQ32, mK32, mN32, mQ33, mK33, mN33, mQ34, mK34, mN34, mQ35, mK35, mN35, mQ40, mK40, mN40, mQ41, mK41, mN41, mQ42, mK42, mN42, mQ43, mK43, mN43, mQ44, mK44, mN44, mQ45, mK45, mN45, mQ62, mK62, mN62])
      refine e_turnHand hM hh1 (by rw [List.length_take]; omega) (by omega) (fun c hc => (zco_0 (h32p c (List.mem_of_mem_take hc))).2) (fun hd2 rs2 hh2 => ?_)
      (try simp (disch := omega) only [zh, zh_st, ↓reduceIte, Nat.add_left_cancel_iff, Nat.reduceEqDiff, Nat.add_sub_cancel, Nat.reduceAdd, Nat.reduceSub, Nat.reduceMul, ← nI_0, zu_same, zu_ne, zoi, zoi_m1, nI_add, pk_mul, pk_sub, zcl, nI_leI, nI_ltI, nI_eq, ite_not, reduceCtorEq, zqi_s, zql_s, zqv_s, true_and, and_true, vp_in_nI, not_true_eq_false, not_false_eq_true, or_true, true_or, or_false, false_or, and_self, zRa_k, zRa_r, zRa_pl, zRa_mn, zRa_hd, zRa_rs, zRa_mk, mK0, mQ1, mK1, mN1, mQ6, mK6, mN6, mQ7, mK7, mN7, mQ8, mK8, mN8, mQ9, mK9, mN9, mQ10, mK10, mN10, mQ11, mK11, mN11, mQ21, mK21, mN21, mQ22, mK22, mN22, mQ23, mK23, mN23, mQ24, mK24, mN24, mQ25, mK25, mN25, mQ26, mK26, mN26, mQ27, mK27, mN27, mQ28, mK28, mN28, mQ32, mK32, mN32, mQ33, mK33, mN33, mQ34, mK34, mN34, mQ35, mK35, mN35, mQ40, mK40, mN40, mQ41, mK41, mN41, mQ42, mK42, mN42, mQ43, mK43, mN43, mQ44, mK44, mN44, mQ45, mK45, mN45, mQ62, mK62, mN62])
      refine e_onto hM hR1 w2 hh2 (by simp; omega) (by rw [zu_same, List.length_drop]; omega) (fun pl2 mn2 hR2 => ?_)
      rw [zqv_s]
      rw [zu_same, zu_zu] at hR2
      refine hQ _ _ _ _ ?_
      unfold zact
      simp only
      rw [← hn]
      exact hR2
    · exact place (by decide)
    · have w3' := w3 (by decide)
      refine e_tog hM hs (Or.inl rfl) hS' w2 w3'.1 (w4 (by decide)) w3'.2 ht (fun _ => ?_) hc2 hR (fun pl' mn' hd' rs' hR' => ?_)
      · have := hc (by unfold zfree; rfl)
        unfold zasks at this
        rw [if_pos rfl] at this
        exact this
      · rw [zqv_s]
        rw [if_pos rfl] at hR'
        exact hQ _ _ _ _ hR'
    · have w3' := w3 (by decide)
      refine e_tog hM hs (Or.inr rfl) hS' w2 w3'.1 (w4 (by decide)) w3'.2 ht (fun q => absurd q (by decide)) hc2 hR (fun pl' mn' hd' rs' hR' => ?_)
      rw [zqv_s]
      rw [if_neg (by decide)] at hR'
      exact hQ _ _ _ _ hR'
    · have s4' := s4 (by decide)
      (try simp (disch := omega) only [zh, zh_st, ↓reduceIte, Nat.add_left_cancel_iff, Nat.reduceEqDiff, Nat.add_sub_cancel, Nat.reduceAdd, Nat.reduceSub, Nat.reduceMul, ← nI_0, zu_same, zu_ne, zoi, zoi_m1, nI_add, pk_mul, pk_sub, zcl, nI_leI, nI_ltI, nI_eq, ite_not, reduceCtorEq, zqi_s, zql_s, zqv_s, true_and, and_true, vp_in_nI, not_true_eq_false, not_false_eq_true, or_true, true_or, or_false, false_or, and_self, zRa_k, zRa_r, zRa_pl, zRa_mn, zRa_hd, zRa_rs, zRa_mk, mK0, mQ1, mK1, mN1, mQ6, mK6, mN6, mQ7, mK7, mN7, mQ8, mK8, mN8, mQ9, mK9, mN9, mQ10, mK10, mN10, mQ11, mK11, mN11, mQ21, mK21, mN21, mQ22, mK22, mN22, mQ23, mK23, mN23, mQ24, mK24, mN24, mQ25, mK25, mN25, mQ26, mK26, mN26, mQ27, mK27, mN27, mQ28, mK28, mN28, mQ32, mK32, mN32, mQ33, mK33, mN33, mQ34, mK34, mN34, mQ35, mK35, mN35, mQ40, mK40, mN40, mQ41, mK41, mN41, mQ42, mK42, mN42, mQ43, mK43, mN43, mQ44, mK44, mN44, mQ45, mK45, mN45, mQ62, mK62, mN62, zRa_oA, s4'])
      refine e_rdown hM hR w2 (w4 (by decide)) (w5 (by decide)) ht (fun pl' mn' hd' hR' => ?_)
      rw [zqv_s]
      exact hQ _ _ _ _ hR'
    · have s3' := s3 (by decide)
      have w3' := w3 (by decide)
      (try simp (disch := omega) only [zh, zh_st, ↓reduceIte, Nat.add_left_cancel_iff, Nat.reduceEqDiff, Nat.add_sub_cancel, Nat.reduceAdd, Nat.reduceSub, Nat.reduceMul, ← nI_0, zu_same, zu_ne, zoi, zoi_m1, nI_add, pk_mul, pk_sub, zcl, nI_leI, nI_ltI, nI_eq, ite_not, reduceCtorEq, zqi_s, zql_s, zqv_s, true_and, and_true, vp_in_nI, not_true_eq_false, not_false_eq_true, or_true, true_or, or_false, false_or, and_self, zRa_k, zRa_r, zRa_pl, zRa_mn, zRa_hd, zRa_rs, zRa_mk, mK0, mQ1, mK1, mN1, mQ6, mK6, mN6, mQ7, mK7, mN7, mQ8, mK8, mN8, mQ9, mK9, mN9, mQ10, mK10, mN10, mQ11, mK11, mN11, mQ21, mK21, mN21, mQ22, mK22, mN22, mQ23, mK23, mN23, mQ24, mK24, mN24, mQ25, mK25, mN25, mQ26, mK26, mN26, mQ27, mK27, mN27, mQ28, mK28, mN28, mQ32, mK32, mN32, mQ33, mK33, mN33, mQ34, mK34, mN34, mQ35, mK35, mN35, mQ40, mK40, mN40, mQ41, mK41, mN41, mQ42, mK42, mN42, mQ43, mK43, mN43, mQ44, mK44, mN44, mQ45, mK45, mN45, mQ62, mK62, mN62, zRa_oA, s3'])
      refine e_rswap hM hR w2 w3'.1 w3'.2 (fun pl' mn' hR' => ?_)
      rw [zqv_s]
      exact hQ _ _ _ _ hR'
    · exact place (by decide)
  refine b179 ?_
  (try simp (disch := omega) only [zh, zh_st, ↓reduceIte, Nat.add_left_cancel_iff, Nat.reduceEqDiff, Nat.add_sub_cancel, Nat.reduceAdd, Nat.reduceSub, Nat.reduceMul, ← nI_0, zu_same, zu_ne, zoi, zoi_m1, nI_add, pk_mul, pk_sub, zcl, nI_leI, nI_ltI, nI_eq, ite_not, reduceCtorEq, zqi_s, zql_s, zqv_s, true_and, and_true, vp_in_nI, not_true_eq_false, not_false_eq_true, or_true, true_or, or_false, false_or, and_self, zRa_k, zRa_r, zRa_pl, zRa_mn, zRa_hd, zRa_rs, zRa_mk, mK0, mQ1, mK1, mN1, mQ6, mK6, mN6, mQ7, mK7, mN7, mQ8, mK8, mN8, mQ9, mK9, mN9, mQ10, mK10, mN10, mQ11, mK11, mN11, mQ21, mK21, mN21, mQ22, mK22, mN22, mQ23, mK23, mN23, mQ24, mK24, mN24, mQ25, mK25, mN25, mQ26, mK26, mN26, mQ27, mK27, mN27, mQ28, mK28, mN28, mQ32, mK32, mN32, mQ33, mK33, mN33, mQ34, mK34, mN34, mQ35, mK35, mN35, mQ40, mK40, mN40, mQ41, mK41, mN41, mQ42, mK42, mN42, mQ43, mK43, mN43, mQ44, mK44, mN44, mQ45, mK45, mN45, mQ62, mK62, mN62, zRa_oA, s2, s5, a1])
  by_cases e11 : h = 11
  · rw [if_pos e11]
    refine main c (fun hww => ?_)
    rw [hn, if_pos e11]
    have := hc (by unfold zfree; rw [e11]; simp)
    unfold zasks at this
    rw [if_neg (by omega)] at this
    split at this <;> omega
  · rw [if_neg e11]
    rw [if_neg e11] at hn
    by_cases e10 : h = 10
    · rw [if_pos e10]
      exact main _ (fun _ => by omega)
    · rw [if_neg e10]
      by_cases hle : h ≤ (P p).length
      · rw [if_pos hle]; exact main h (fun _ => by omega)
      · rw [if_neg hle]; exact main _ (fun _ => by omega)
