/-! swap, ways, down -/
set_option maxHeartbeats 1000000 in
theorem e_rswap {d a b : Nat} {σ : zH} (hM : zMb σ) {pl mn hd rs : Nat → Int32} {mk : Int32} {P : Nat → List Nat} (hR : zRR pl mn P) (ha : a < 4) (hb : b < 4) (hab : a ≠ b) {Q : Option Value → zH → Prop} (hQ : ∀ pl' mn', zRR pl' mn' (zu (zu P a (P b)) b (P a)) → Q none (zRa σ pl' mn' hd rs mk)) : zM d 180 [.ref 160, .int (nI a), .int (nI b)] (zRa σ pl mn hd rs mk) Q := by
  have ⟨mK0, mQ1, mK1, mN1, mQ6, mK6, mN6, mQ7, mK7, mN7, mQ8, mK8, mN8, mQ9, mK9, mN9, mQ10, mK10, mN10, mQ11, mK11, mN11, mQ21, mK21, mN21, mQ22, mK22, mN22, mQ23, mK23, mN23, mQ24, mK24, mN24, mQ25, mK25, mN25, mQ26, mK26, mN26, mQ27, mK27, mN27, mQ28, mK28, mN28, mQ32, mK32, mN32, mQ33, mK33, mN33, mQ34, mK34, mN34, mQ35, mK35, mN35, mQ40, mK40, mN40, mQ41, mK41, mN41, mQ42, mK42, mN42, mQ43, mK43, mN43, mQ44, mK44, mN44, mQ45, mK45, mN45, mQ62, mK62, mN62⟩ := hM
  obtain ⟨a1, a2, a3⟩ := hR a ha
  obtain ⟨b1, b2, b3⟩ := hR b hb
  have loop : ∀ (m j : Nat), j + m = 9 → ∀ (f : Nat → Int32), (∀ i, i < j → f (10 * a + i) = pl (10 * b + i) ∧ f (10 * b + i) = pl (10 * a + i)) → (∀ i, j ≤ i → i < 10 → f (10 * a + i) = pl (10 * a + i) ∧ f (10 * b + i) = pl (10 * b + i)) → (∀ k, (k < 10 * a ∨ 10 * a + 10 ≤ k) → (k < 10 * b ∨ 10 * b + 10 ≤ k) → f k = pl k) → zW d 180 2 [(0, .ref 160), (1, .int (nI a)), (2, .int (nI b)), (3, .int (nI j))] [] (zRa σ f mn hd rs mk) Q := by
    intro m
    induction m with
    | zero =>
      intro j hj f hA hB hC
      refine b180_2 ?_
      (try simp (disch := omega) only [zh, zh_st, ↓reduceIte, Nat.add_left_cancel_iff, Nat.reduceEqDiff, Nat.add_sub_cancel, Nat.reduceAdd, Nat.reduceSub, Nat.reduceMul, ← nI_0, zu_same, zu_ne, zoi, zoi_m1, nI_add, pk_mul, pk_sub, zcl, nI_leI, nI_ltI, nI_eq, ite_not, reduceCtorEq, zqi_s, zql_s, zqv_s, true_and, and_true, vp_in_nI, if_pos, if_neg, not_true_eq_false, not_false_eq_true, or_true, true_or, or_false, false_or, and_self, zRa_k, zRa_r, zRa_pl, zRa_mn, zRa_hd, zRa_rs, zRa_mk, mK0, mQ1, mK1, mN1, mQ6, mK6, mN6, mQ7, mK7, mN7, mQ8, mK8, mN8, mQ9, mK9, mN9, mQ10, mK10, mN10, mQ11, mK11, mN11, mQ21, mK21, mN21, mQ22, mK22, mN22, mQ23, mK23, mN23, mQ24, mK24, mN24, mQ25, mK25, mN25, mQ26, mK26, mN26, mQ27, mK27, mN27, mQ28, mK28, mN28, mQ32, mK32, mN32, mQ33, mK33, mN33, mQ34, mK34, mN34, mQ35, mK35, mN35, mQ40, mK40, mN40, mQ41, mK41, mN41, mQ42, mK42, mN42, mQ43, mK43, mN43, mQ44, mK44, mN44, mQ45, mK45, mN45, mQ62, mK62, mN62, a1, b1])
      refine hQ _ _ (fun p hp => ?_)
      by_cases e1 : p = b
      · subst e1
        rw [zu_same, zu_same]
        refine ⟨rfl, a2, fun i hi => ?_⟩
        rw [(hA i (by omega)).2]
        exact a3 i hi
      · rw [zu_ne _ _ e1, zu_ne _ _ e1]
        by_cases e2 : p = a
        · subst e2
          rw [zu_same, zu_same]
          refine ⟨rfl, b2, fun i hi => ?_⟩
          rw [(hA i (by omega)).1]
          exact b3 i hi
        · rw [zu_ne _ _ e2, zu_ne _ _ e2]
          obtain ⟨g1, g2, g3⟩ := hR p hp
          refine ⟨g1, g2, fun i hi => ?_⟩
          rw [hC _ (by omega) (by omega)]
          exact g3 i hi
    | succ m ih =>
      intro j hj f hA hB hC
      obtain ⟨u1, u2⟩ := hB j (by omega) (by omega)
      refine b180_2 ?_
      (try simp (disch := omega) only [zh, zh_st, ↓reduceIte, Nat.add_left_cancel_iff, Nat.reduceEqDiff, Nat.add_sub_cancel, Nat.reduceAdd, Nat.reduceSub, Nat.reduceMul, ← nI_0, zu_same, zu_ne, zoi, zoi_m1, nI_add, pk_mul, pk_sub, zcl, nI_leI, nI_ltI, nI_eq, ite_not, reduceCtorEq, zqi_s, zql_s, zqv_s, true_and, and_true, vp_in_nI, if_pos, if_neg, not_true_eq_false, not_false_eq_true, or_true, true_or, or_false, false_or, and_self, zRa_k, zRa_r, zRa_pl, zRa_mn, zRa_hd, zRa_rs, zRa_mk, mK0, mQ1, mK1, mN1, mQ6, mK6, mN6, mQ7, mK7, mN7, mQ8, mK8, mN8, mQ9, mK9, mN9, mQ10, mK10, mN10, mQ11, mK11, mN11, mQ21, mK21, mN21, mQ22, mK22, mN22, mQ23, mK23, mN23, mQ24, mK24, mN24, mQ25, mK25, mN25, mQ26, mK26, mN26, mQ27, mK27, mN27, mQ28, mK28, mN28, mQ32, mK32, mN32, mQ33, mK33, mN33, mQ34, mK34, mN34, mQ35, mK35, mN35, mQ40, mK40, mN40, mQ41, mK41, mN41, mQ42, mK42, mN42, mQ43, mK43, mN43, mQ44, mK44, mN44, mQ45, mK45, mN45, mQ62, mK62, mN62])
      refine ih (j + 1) (by omega) _ (fun i hi => ?_) (fun i hi1 hi2 => ?_) (fun k h1 h2 => ?_)
      · by_cases e : i = j
        · subst e
          rw [zu_ne _ _ (by omega), zu_same, zu_same]
          exact ⟨u2, u1⟩
        · rw [zu_ne _ _ (by omega), zu_ne _ _ (by omega), zu_ne _ _ (by omega), zu_ne _ _ (by omega)]
          exact hA i (by omega)
      · rw [zu_ne _ _ (by omega), zu_ne _ _ (by omega), zu_ne _ _ (by omega), zu_ne _ _ (by omega)]
        exact hB i (by omega) hi2
      · rw [zu_ne _ _ (by omega), zu_ne _ _ (by omega)]
        exact hC k h1 h2
  refine b180 ?_
  exact loop 9 0 (by omega) pl (fun i hi => absurd hi (Nat.not_lt_zero i)) (fun _ _ _ => ⟨rfl, rfl⟩) (fun _ _ _ => rfl)
theorem zbn_st : ∀ a, a < 10 → ∀ k, k < 10 → a + k + 1 ≤ 9 → zbn a k * (a + (k + 1)) / (k + 1) = zbn a (k + 1) ∧ zbn a k * (a + (k + 1)) < 2000 ∧ zbn a 0 = 1 := by decide +kernel
theorem e_ways {d a b : Nat} {σ : zH} (h9 : a + b ≤ 9) {Q : Option Value → zH → Prop} (hQ : Q (some (.long (lN (zbn a b)))) σ) : zM d 174 [.int (nI a), .int (nI b)] σ Q := by
  have loop : ∀ (m k : Nat), k + m = b → zW d 174 5 [(0, .int (nI a)), (1, .int (nI b)), (2, .long (lN (zbn a k))), (4, .int (nI (k + 1)))] [] σ Q := by
    intro m
    induction m with
    | zero =>
      intro k hk
      refine b174_5 ?_
      rw [if_pos (nI_lt (by omega) (by omega)), show k = b by omega]
      exact hQ
    | succ m ih =>
      intro k hk
      obtain ⟨h1, h2, -⟩ := zbn_st a (by omega) k (by omega) (by omega)
      refine b174_5 ?_
      rw [if_neg (nI_nlt (by omega) (by omega)), nI_add, nI_add, nI_l (by omega), nI_l (by omega), lN_mul, pk_lDiv (by omega) (by omega) (by omega), h1]
      refine ⟨?_, ih (k + 1) (by omega)⟩
      intro q
      have := (pk_lEQ (a := k + 1) (b := 0) (by omega) (by omega)).mp q
      omega
  refine b174 ?_
  have h0 : zbn a 0 = 1 := (zbn_0 a (by omega)).2
  have := loop b 0 (by omega)
  rw [h0] at this
  exact this
theorem zu_comm {α : Type} (f : Nat → α) {a b : Nat} (x y : α) (h : a ≠ b) : zu (zu f a x) b y = zu (zu f b y) a x := by
  funext k
  unfold zu
  by_cases h1 : k = b
  · rw [if_pos h1, if_neg (by omega), if_pos h1]
  · rw [if_neg h1]
    by_cases h2 : k = a
    · rw [if_pos h2, if_pos h2]
    · rw [if_neg h2, if_neg h2, if_neg h1]
set_option maxHeartbeats 2000000 in
theorem l_rdown {d p g : Nat} {σ : zH} (hM : zMb σ) {rs : Nat → Int32} {mk : Int32} (hp : p < 4) (hg : g < 4) (hpg : p ≠ g) {Q : Option Value → zH → Prop} : ∀ (m : Nat) (P : Nat → List Nat) (pl mn hd : Nat → Int32), (P p).length = m → zRR pl mn P → zTot P ≤ 9 → (∀ pl' mn' hd', zRR pl' mn' (zdown m P p g) → Q none (zRa σ pl' mn' hd' rs mk)) → zW (d + 1) 181 2 [(0, .ref 160), (1, .int (nI p)), (2, .int (nI g)), (3, .int (nI 1))] [] (zRa σ pl mn hd rs mk) Q := by
  have ⟨mK0, mQ1, mK1, mN1, mQ6, mK6, mN6, mQ7, mK7, mN7, mQ8, mK8, mN8, mQ9, mK9, mN9, mQ10, mK10, mN10, mQ11, mK11, mN11, mQ21, mK21, mN21, mQ22, mK22, mN22, mQ23, mK23, mN23, mQ24, mK24, mN24, mQ25, mK25, mN25, mQ26, mK26, mN26, mQ27, mK27, mN27, mQ28, mK28, mN28, mQ32, mK32, mN32, mQ33, mK33, mN33, mQ34, mK34, mN34, mQ35, mK35, mN35, mQ40, mK40, mN40, mQ41, mK41, mN41, mQ42, mK42, mN42, mQ43, mK43, mN43, mQ44, mK44, mN44, mQ45, mK45, mN45, mQ62, mK62, mN62⟩ := hM
  intro m
  induction m with
  | zero =>
    intro P pl mn hd hm hR ht hQ
    obtain ⟨h1, h2, h3⟩ := hR p hp
    refine b181_2 ?_
    (try simp (disch := omega) only [zh, zh_st, ↓reduceIte, Nat.add_left_cancel_iff, Nat.reduceEqDiff, Nat.add_sub_cancel, Nat.reduceAdd, Nat.reduceSub, Nat.reduceMul, ← nI_0, zu_same, zu_ne, zoi, zoi_m1, nI_add, pk_mul, pk_sub, zcl, nI_leI, nI_ltI, nI_eq, ite_not, reduceCtorEq, zqi_s, zql_s, zqv_s, true_and, and_true, vp_in_nI, if_pos, if_neg, not_true_eq_false, not_false_eq_true, or_true, true_or, or_false, false_or, and_self, zRa_k, zRa_r, zRa_pl, zRa_mn, zRa_hd, zRa_rs, zRa_mk, mK0, mQ1, mK1, mN1, mQ6, mK6, mN6, mQ7, mK7, mN7, mQ8, mK8, mN8, mQ9, mK9, mN9, mQ10, mK10, mN10, mQ11, mK11, mN11, mQ21, mK21, mN21, mQ22, mK22, mN22, mQ23, mK23, mN23, mQ24, mK24, mN24, mQ25, mK25, mN25, mQ26, mK26, mN26, mQ27, mK27, mN27, mQ28, mK28, mN28, mQ32, mK32, mN32, mQ33, mK33, mN33, mQ34, mK34, mN34, mQ35, mK35, mN35, mQ40, mK40, mN40, mQ41, mK41, mN41, mQ42, mK42, mN42, mQ43, mK43, mN43, mQ44, mK44, mN44, mQ45, mK45, mN45, mQ62, mK62, mN62, h1, hm])
    exact hQ _ _ _ hR
  | succ m ih =>
    intro P pl mn hd hm hR ht hQ
    obtain ⟨h1, h2, h3⟩ := hR p hp
    obtain ⟨c, l, hcl⟩ : ∃ c l, P p = c :: l := by
      cases hP : P p with
      | nil => rw [hP] at hm; simp at hm
      | cons c l => exact ⟨c, l, rfl⟩
    have hlen : l.length = m := by rw [hcl] at hm; simpa using hm
    have hpq := zTot_le2 (P := P) hp hg hpg
    rw [zdown, hcl] at hQ
    simp only at hQ
    refine b181_2 ?_
    (try simp (disch := omega) only [zh, zh_st, ↓reduceIte, Nat.add_left_cancel_iff, Nat.reduceEqDiff, Nat.add_sub_cancel, Nat.reduceAdd, Nat.reduceSub, Nat.reduceMul, ← nI_0, zu_same, zu_ne, zoi, zoi_m1, nI_add, pk_mul, pk_sub, zcl, nI_leI, nI_ltI, nI_eq, ite_not, reduceCtorEq, zqi_s, zql_s, zqv_s, true_and, and_true, vp_in_nI, if_pos, if_neg, not_true_eq_false, not_false_eq_true, or_true, true_or, or_false, false_or, and_self, zRa_k, zRa_r, zRa_pl, zRa_mn, zRa_hd, zRa_rs, zRa_mk, mK0, mQ1, mK1, mN1, mQ6, mK6, mN6, mQ7, mK7, mN7, mQ8, mK8, mN8, mQ9, mK9, mN9, mQ10, mK10, mN10, mQ11, mK11, mN11, mQ21, mK21, mN21, mQ22, mK22, mN22, mQ23, mK23, mN23, mQ24, mK24, mN24, mQ25, mK25, mN25, mQ26, mK26, mN26, mQ27, mK27, mN27, mQ28, mK28, mN28, mQ32, mK32, mN32, mQ33, mK33, mN33, mQ34, mK34, mN34, mQ35, mK35, mN35, mQ40, mK40, mN40, mQ41, mK41, mN41, mQ42, mK42, mN42, mQ43, mK43, mN43, mQ44, mK44, mN44, mQ45, mK45, mN45, mQ62, mK62, mN62, h1, hm])
    refine e_pick hM hR hp (by omega) (fun pl1 mn1 hd1 hR1 hh1 => ?_)
    rw [hcl] at hR1 hh1
    simp only [List.take_zero, List.nil_append, Nat.zero_add, List.drop_succ_cons, List.drop_zero, List.take_succ_cons] at hR1 hh1
    rw [zqv_s]
    (try rw [if_pos (by decide)])
    refine b181_31 ?_
    (try simp (disch := omega) only [zh, zh_st, ↓reduceIte, Nat.add_left_cancel_iff, Nat.reduceEqDiff, Nat.add_sub_cancel, Nat.reduceAdd, Nat.reduceSub, Nat.reduceMul, ← nI_0, zu_same, zu_ne, zoi, zoi_m1, nI_add, pk_mul, pk_sub, zcl, nI_leI, nI_ltI, nI_eq, ite_not, reduceCtorEq, zqi_s, zql_s, zqv_s, true_and, and_true, vp_in_nI, not_true_eq_false, not_false_eq_true, or_true, true_or, or_false, false_or, and_self, zRa_k, zRa_r, zRa_pl, zRa_mn, zRa_hd, zRa_rs, zRa_mk, mK0, mQ1, mK1, mN1, mQ6, mK6, mN6, mQ7, mK7, mN7, mQ8, mK8, mN8, mQ9, mK9, mN9, mQ10, mK10, mN10, mQ11, mK11, mN11, mQ21, mK21, mN21, mQ22, mK22, mN22, mQ23, mK23, mN23, mQ24, mK24, mN24, mQ25, mK25, mN25, mQ26, mK26, mN26, mQ27, mK27, mN27, mQ28, mK28, mN28, mQ32, mK32, mN32, mQ33, mK33, mN33, mQ34, mK34, mN34, mQ35, mK35, mN35, mQ40, mK40, mN40, mQ41, mK41, mN41, mQ42, mK42, mN42, mQ43, mK43, mN43, mQ44, mK44, mN44, mQ45, mK45, mN45, mQ62, mK62, mN62])
    have hR1g : zu P p l g = P g := zu_ne _ _ (fun q => hpg q.symm)
    refine e_onto (n := 1) hM hR1 hg hh1 rfl (by rw [hR1g]; omega) (fun pl2 mn2 hR2 => ?_)
    rw [hR1g] at hR2
    rw [zqv_s]
    (try rw [if_pos (by decide)])
    have hR2' : zRR pl2 mn2 (zu (zu P g (c :: P g)) p l) := by
      rw [← zu_comm P l (c :: P g) hpg]
      exact hR2
    obtain ⟨k1, k2, k3⟩ := hR2' p hp
    rw [zu_same] at k1 k2
    refine b181_2 ?_
    cases l with
    | nil =>
      simp only [List.length_nil] at hlen k1
      (try simp (disch := omega) only [zh, zh_st, ↓reduceIte, Nat.add_left_cancel_iff, Nat.reduceEqDiff, Nat.add_sub_cancel, Nat.reduceAdd, Nat.reduceSub, Nat.reduceMul, ← nI_0, zu_same, zu_ne, zoi, zoi_m1, nI_add, pk_mul, pk_sub, zcl, nI_leI, nI_ltI, nI_eq, ite_not, reduceCtorEq, zqi_s, zql_s, zqv_s, true_and, and_true, vp_in_nI, if_pos, if_neg, not_true_eq_false, not_false_eq_true, or_true, true_or, or_false, false_or, and_self, zRa_k, zRa_r, zRa_pl, zRa_mn, zRa_hd, zRa_rs, zRa_mk, mK0, mQ1, mK1, mN1, mQ6, mK6, mN6, mQ7, mK7, mN7, mQ8, mK8, mN8, mQ9, mK9, mN9, mQ10, mK10, mN10, mQ11, mK11, mN11, mQ21, mK21, mN21, mQ22, mK22, mN22, mQ23, mK23, mN23, mQ24, mK24, mN24, mQ25, mK25, mN25, mQ26, mK26, mN26, mQ27, mK27, mN27, mQ28, mK28, mN28, mQ32, mK32, mN32, mQ33, mK33, mN33, mQ34, mK34, mN34, mQ35, mK35, mN35, mQ40, mK40, mN40, mQ41, mK41, mN41, mQ42, mK42, mN42, mQ43, mK43, mN43, mQ44, mK44, mN44, mQ45, mK45, mN45, mQ62, mK62, mN62, k1])
      refine hQ _ _ _ ?_
      subst hlen
      rw [zdown]
      exact hR2'
    | cons x l' =>
      simp only [List.length_cons] at hlen k1 k2
      (try simp (disch := omega) only [zh, zh_st, ↓reduceIte, Nat.add_left_cancel_iff, Nat.reduceEqDiff, Nat.add_sub_cancel, Nat.reduceAdd, Nat.reduceSub, Nat.reduceMul, ← nI_0, zu_same, zu_ne, zoi, zoi_m1, nI_add, pk_mul, pk_sub, zcl, nI_leI, nI_ltI, nI_eq, ite_not, reduceCtorEq, zqi_s, zql_s, zqv_s, true_and, and_true, vp_in_nI, if_pos, if_neg, not_true_eq_false, not_false_eq_true, or_true, true_or, or_false, false_or, and_self, zRa_k, zRa_r, zRa_pl, zRa_mn, zRa_hd, zRa_rs, zRa_mk, mK0, mQ1, mK1, mN1, mQ6, mK6, mN6, mQ7, mK7, mN7, mQ8, mK8, mN8, mQ9, mK9, mN9, mQ10, mK10, mN10, mQ11, mK11, mN11, mQ21, mK21, mN21, mQ22, mK22, mN22, mQ23, mK23, mN23, mQ24, mK24, mN24, mQ25, mK25, mN25, mQ26, mK26, mN26, mQ27, mK27, mN27, mQ28, mK28, mN28, mQ32, mK32, mN32, mQ33, mK33, mN33, mQ34, mK34, mN34, mQ35, mK35, mN35, mQ40, mK40, mN40, mQ41, mK41, mN41, mQ42, mK42, mN42, mQ43, mK43, mN43, mQ44, mK44, mN44, mQ45, mK45, mN45, mQ62, mK62, mN62, k1])
      refine e_pick hM hR2' hp (by rw [zu_same]; simp) (fun pl3 mn3 hd3 hR3 hh3 => ?_)
      rw [zu_same, zu_zu] at hR3
      rw [zu_same] at hh3
      simp only [List.take_zero, List.nil_append, Nat.zero_add, List.drop_succ_cons, List.drop_zero, List.take_succ_cons] at hR3 hh3
      obtain ⟨j1, j2, j3⟩ := hR3 p hp
      rw [zu_same] at j1 j2
      rw [zqv_s]
      cases l' with
      | nil =>
        simp only [List.length_nil] at j1 hlen
        (try simp (disch := omega) only [zh, zh_st, ↓reduceIte, Nat.add_left_cancel_iff, Nat.reduceEqDiff, Nat.add_sub_cancel, Nat.reduceAdd, Nat.reduceSub, Nat.reduceMul, ← nI_0, zu_same, zu_ne, zoi, zoi_m1, nI_add, pk_mul, pk_sub, zcl, nI_leI, nI_ltI, nI_eq, ite_not, reduceCtorEq, zqi_s, zql_s, zqv_s, true_and, and_true, vp_in_nI, not_true_eq_false, not_false_eq_true, or_true, true_or, or_false, false_or, and_self, zRa_k, zRa_r, zRa_pl, zRa_mn, zRa_hd, zRa_rs, zRa_mk, mK0, mQ1, mK1, mN1, mQ6, mK6, mN6, mQ7, mK7, mN7, mQ8, mK8, mN8, mQ9, mK9, mN9, mQ10, mK10, mN10, mQ11, mK11, mN11, mQ21, mK21, mN21, mQ22, mK22, mN22, mQ23, mK23, mN23, mQ24, mK24, mN24, mQ25, mK25, mN25, mQ26, mK26, mN26, mQ27, mK27, mN27, mQ28, mK28, mN28, mQ32, mK32, mN32, mQ33, mK33, mN33, mQ34, mK34, mN34, mQ35, mK35, mN35, mQ40, mK40, mN40, mQ41, mK41, mN41, mQ42, mK42, mN42, mQ43, mK43, mN43, mQ44, mK44, mN44, mQ45, mK45, mN45, mQ62, mK62, mN62, j1])
        refine b181_31 ?_
        (try simp (disch := omega) only [zh, zh_st, ↓reduceIte, Nat.add_left_cancel_iff, Nat.reduceEqDiff, Nat.add_sub_cancel, Nat.reduceAdd, Nat.reduceSub, Nat.reduceMul, ← nI_0, zu_same, zu_ne, zoi, zoi_m1, nI_add, pk_mul, pk_sub, zcl, nI_leI, nI_ltI, nI_eq, ite_not, reduceCtorEq, zqi_s, zql_s, zqv_s, true_and, and_true, vp_in_nI, not_true_eq_false, not_false_eq_true, or_true, true_or, or_false, false_or, and_self, zRa_k, zRa_r, zRa_pl, zRa_mn, zRa_hd, zRa_rs, zRa_mk, mK0, mQ1, mK1, mN1, mQ6, mK6, mN6, mQ7, mK7, mN7, mQ8, mK8, mN8, mQ9, mK9, mN9, mQ10, mK10, mN10, mQ11, mK11, mN11, mQ21, mK21, mN21, mQ22, mK22, mN22, mQ23, mK23, mN23, mQ24, mK24, mN24, mQ25, mK25, mN25, mQ26, mK26, mN26, mQ27, mK27, mN27, mQ28, mK28, mN28, mQ32, mK32, mN32, mQ33, mK33, mN33, mQ34, mK34, mN34, mQ35, mK35, mN35, mQ40, mK40, mN40, mQ41, mK41, mN41, mQ42, mK42, mN42, mQ43, mK43, mN43, mQ44, mK44, mN44, mQ45, mK45, mN45, mQ62, mK62, mN62])
        have hg3 : zu (zu P g (c :: P g)) p [] g = c :: P g := by rw [zu_ne _ _ (fun q => hpg q.symm), zu_same]
        refine e_onto (n := 1) hM hR3 hg hh3 rfl (by rw [hg3]; simp only [List.length_cons]; rw [hcl] at hpq; simp at hpq; omega) (fun pl4 mn4 hR4 => ?_)
        rw [hg3] at hR4
        obtain ⟨i1, i2, i3⟩ := hR4 p hp
        rw [zu_ne _ _ hpg, zu_same] at i1
        simp only [List.length_nil] at i1
        rw [zqv_s]
        (try rw [if_neg (by decide)])
        refine b181_2 ?_
        (try simp (disch := omega) only [zh, zh_st, ↓reduceIte, Nat.add_left_cancel_iff, Nat.reduceEqDiff, Nat.add_sub_cancel, Nat.reduceAdd, Nat.reduceSub, Nat.reduceMul, ← nI_0, zu_same, zu_ne, zoi, zoi_m1, nI_add, pk_mul, pk_sub, zcl, nI_leI, nI_ltI, nI_eq, ite_not, reduceCtorEq, zqi_s, zql_s, zqv_s, true_and, and_true, vp_in_nI, if_pos, if_neg, not_true_eq_false, not_false_eq_true, or_true, true_or, or_false, false_or, and_self, zRa_k, zRa_r, zRa_pl, zRa_mn, zRa_hd, zRa_rs, zRa_mk, mK0, mQ1, mK1, mN1, mQ6, mK6, mN6, mQ7, mK7, mN7, mQ8, mK8, mN8, mQ9, mK9, mN9, mQ10, mK10, mN10, mQ11, mK11, mN11, mQ21, mK21, mN21, mQ22, mK22, mN22, mQ23, mK23, mN23, mQ24, mK24, mN24, mQ25, mK25, mN25, mQ26, mK26, mN26, mQ27, mK27, mN27, mQ28, mK28, mN28, mQ32, mK32, mN32, mQ33, mK33, mN33, mQ34, mK34, mN34, mQ35, mK35, mN35, mQ40, mK40, mN40, mQ41, mK41, mN41, mQ42, mK42, mN42, mQ43, mK43, mN43, mQ44, mK44, mN44, mQ45, mK45, mN45, mQ62, mK62, mN62, i1])
        refine hQ _ _ _ ?_
        have hm1 : m = 0 + 1 := by omega
        subst hm1
        rw [zdown, zu_same]
        simp only [List.drop_succ_cons, List.drop_zero, List.take_succ_cons, List.take_zero, List.nil_append]
        rw [zdown]
        have e : zu (zu (zu (zu P g (c :: P g)) p [x]) g (x :: zu (zu P g (c :: P g)) p [x] g)) p (List.drop 1 [] ++ List.take 1 []) = zu (zu (zu P g (c :: P g)) p []) g ([x] ++ c :: P g) := by
          rw [zu_ne (zu P g (c :: P g)) _ (fun q => hpg q.symm), zu_same]
          funext k
          unfold zu
          by_cases h1 : k = p
          · simp [h1, hpg]
          · by_cases h2 : k = g
            · have hgp : ¬ g = p := fun q => hpg q.symm
              simp [h2, hgp]
            · simp [h1, h2]
        rw [e]
        exact hR4
      | cons y l'' =>
        simp only [List.length_cons] at j1 hlen j2
        have e0 := hh3 0 (by simp)
        rw [show [x].getD 0 0 = x from rfl] at e0
        have hnz : ¬ (nI (l''.length + 1) = nI 0) := nI_ne0 (by omega) (by omega)
        (try simp (disch := omega) only [zh, zh_st, ↓reduceIte, Nat.add_left_cancel_iff, Nat.reduceEqDiff, Nat.add_sub_cancel, Nat.reduceAdd, Nat.reduceSub, Nat.reduceMul, ← nI_0, zu_same, zu_ne, zoi, zoi_m1, nI_add, pk_mul, pk_sub, zcl, nI_leI, nI_ltI, nI_eq, ite_not, reduceCtorEq, zqi_s, zql_s, zqv_s, true_and, and_true, vp_in_nI, if_pos, if_neg, not_true_eq_false, not_false_eq_true, or_true, true_or, or_false, false_or, and_self, zRa_k, zRa_r, zRa_pl, zRa_mn, zRa_hd, zRa_rs, zRa_mk, mK0, mQ1, mK1, mN1, mQ6, mK6, mN6, mQ7, mK7, mN7, mQ8, mK8, mN8, mQ9, mK9, mN9, mQ10, mK10, mN10, mQ11, mK11, mN11, mQ21, mK21, mN21, mQ22, mK22, mN22, mQ23, mK23, mN23, mQ24, mK24, mN24, mQ25, mK25, mN25, mQ26, mK26, mN26, mQ27, mK27, mN27, mQ28, mK28, mN28, mQ32, mK32, mN32, mQ33, mK33, mN33, mQ34, mK34, mN34, mQ35, mK35, mN35, mQ40, mK40, mN40, mQ41, mK41, mN41, mQ42, mK42, mN42, mQ43, mK43, mN43, mQ44, mK44, mN44, mQ45, mK45, mN45, mQ62, mK62, mN62, j1, e0])
        refine ih (zu (zu P g (c :: P g)) p ((y :: l'') ++ [x])) _ _ _ (by rw [zu_same]; simp; omega) ?_ ?_ (fun pl' mn' hd' hR' => hQ _ _ _ ?_)
        · refine fun q hq => ?_
          by_cases e : q = p
          · subst e
            rw [zu_same, zu_same]
            refine ⟨by simp, by simp; omega, fun i hi => ?_⟩
            simp only [List.length_append, List.length_cons, List.length_nil] at hi
            rw [zgd_app']
            by_cases e2 : i = l''.length + 1
            · rw [e2, zu_same, if_neg (by simp)]
              simp
            · rw [zu_ne _ _ (by omega), if_pos (by simp; omega)]
              have := j3 i (by rw [zu_same]; simp; omega)
              rw [zu_same] at this
              exact this
          · obtain ⟨g1, g2, g3⟩ := hR3 q hq
            rw [zu_ne _ _ e] at g1 g2 g3 ⊢
            rw [zu_ne _ _ e]
            refine ⟨g1, g2, fun i hi => ?_⟩
            rw [zu_ne _ _ (by omega)]
            exact g3 i hi
        · have t1 := zTot_u (P := P) hg (c :: P g)
          have t2 := zTot_u (P := zu P g (c :: P g)) hp ((y :: l'') ++ [x])
          rw [zu_ne _ _ hpg, hcl] at t2
          simp only [List.length_cons, List.length_append, List.length_nil] at t1 t2
          omega
        · simp only [List.drop_succ_cons, List.drop_zero, List.take_succ_cons, List.take_zero]
          exact hR'
theorem e_rdown {d p g : Nat} {σ : zH} (hM : zMb σ) {pl mn hd rs : Nat → Int32} {mk : Int32} {P : Nat → List Nat} (hR : zRR pl mn P) (hp : p < 4) (hg : g < 4) (hpg : p ≠ g) (ht : zTot P ≤ 9) {Q : Option Value → zH → Prop} (hQ : ∀ pl' mn' hd', zRR pl' mn' (zdown (P p).length P p g) → Q none (zRa σ pl' mn' hd' rs mk)) : zM (d + 1) 181 [.ref 160, .int (nI p), .int (nI g)] (zRa σ pl mn hd rs mk) Q := by
  refine b181 ?_
  exact l_rdown hM hp hg hpg _ P pl mn hd rfl hR ht hQ
