theorem znb0 (b : Bool) : (nI (zbn1 b) = nI 0) ↔ b = false := by cases b <;> decide
set_option maxHeartbeats 4000000 in
theorem l_hold {n mk : Nat} {σ : zH} {D : zDT} (hM : zMb σ) (hD : zDR σ D n) {pl mn hd rs : Nat → Int32} {P : Nat → List Nat} (hR : zRR pl mn P) (hV : zVP n P mk) (hb : zDb D) {lo hi : Nat} (hhi : hi ≤ 3200) : ∀ (f : Nat), (∀ (K v : Nat) (C : (zCd → Bool) → Bool), zTr σ lo hi f K v C → ∀ (d : Nat) (Q : Option Value → zH → Prop), Q (some (.int (nI (zbn1 (C (zct D mk P)))))) (zRa σ pl mn hd rs (nI mk)) → zW (d + K + 1) 172 2 [(0, .ref 160), (2, .int (nI v))] [] (zRa σ pl mn hd rs (nI mk)) Q) ∧ (∀ (K v : Nat) (C : (zCd → Bool) → Bool), zTr σ lo hi f K v C → zA σ 176 v = nI 1 → ∀ (d : Nat) (Q : Option Value → zH → Prop), Q (some (.int (nI (zbn1 (C (zct D mk P)))))) (zRa σ pl mn hd rs (nI mk)) → zW (d + K + 1) 172 46 [(0, .ref 160), (2, .int (nI v))] [] (zRa σ pl mn hd rs (nI mk)) Q) := by
  have ⟨mK0, mQ1, mK1, mN1, mQ6, mK6, mN6, mQ7, mK7, mN7, mQ8, mK8, mN8, mQ9, mK9, mN9, mQ10, mK10, mN10, mQ11, mK11, mN11, mQ21, mK21, mN21, mQ22, mK22, mN22, mQ23, mK23, mN23, mQ24, mK24, mN24, mQ25, mK25, mN25, mQ26, mK26, mN26, mQ27, mK27, mN27, mQ28, mK28, mN28, mQ32, mK32, mN32, mQ33, mK33, mN33, mQ34, mK34, mN34, mQ35, mK35, mN35, mQ40, mK40, mN40, mQ41, mK41, mN41, mQ42, mK42, mN42, mQ43, mK43, mN43, mQ44, mK44, mN44, mQ45, mK45, mN45, mQ62, mK62, mN62⟩ := hM
  intro f
  induction f with
  | zero => exact ⟨fun K v C h => h.elim, fun K v C h => h.elim⟩
  | succ f ih =>
    obtain ⟨ih1, ih2⟩ := ih
    have hpos : ∀ {f K v C}, zTr σ lo hi f K v C → v < 3200 := by
      intro f K v C h
      cases f with
      | zero => exact h.elim
      | succ f => have := h.2.1; omega
    have and46 : ∀ (K v : Nat) (C : (zCd → Bool) → Bool), zTr σ lo hi (f + 1) K v C → zA σ 176 v = nI 1 → ∀ (d : Nat) (Q : Option Value → zH → Prop), Q (some (.int (nI (zbn1 (C (zct D mk P)))))) (zRa σ pl mn hd rs (nI mk)) → zW (d + K + 1) 172 46 [(0, .ref 160), (2, .int (nI v))] [] (zRa σ pl mn hd rs (nI mk)) Q := by
      intro K v C hT ho d Q hQ
      obtain ⟨v1, v2, k1, hT⟩ := hT
      obtain ⟨K', rfl⟩ : ∃ K', K = K' + 1 := ⟨K - 1, by omega⟩
      rw [Nat.add_sub_cancel] at hT
      have hne : ∀ x, x < 100 → x ≠ 1 → zA σ 176 v ≠ nI x := fun x hx h1 q => by
        rw [ho] at q
        have := (nI_eq (by omega) (by omega)).mp q
        omega
      rcases hT with ⟨c, hA, hC⟩ | ⟨o, -⟩ | ⟨o, -⟩ | ⟨-, a, b, Ca, Cb, e1, e2, ha, hbT, hC⟩
      · exfalso
        rcases hA with ⟨-, -, o, -⟩ | ⟨-, o, -⟩ | ⟨-, o, -⟩ | ⟨-, o, -⟩
        · exact hne 3 (by omega) (by omega) o
        · exact hne 4 (by omega) (by omega) o
        · exact hne 5 (by omega) (by omega) o
        · exact hne 6 (by omega) (by omega) o
      · exact absurd o (hne 2 (by omega) (by omega))
      · exact absurd o (hne 0 (by omega) (by omega))
      · refine b172_46 ?_
        (try simp (disch := omega) only [zh, zh_st, ↓reduceIte, Nat.add_left_cancel_iff, Nat.reduceEqDiff, Nat.add_sub_cancel, Nat.reduceAdd, Nat.reduceSub, Nat.reduceMul, ← nI_0, zu_same, zu_ne, zoi, zoi_m1, nI_add, pk_mul, pk_sub, zcl, nI_leI, nI_ltI, nI_eq, ite_not, reduceCtorEq, zqi_s, zql_s, zqv_s, true_and, and_true, vp_in_nI, not_true_eq_false, not_false_eq_true, or_true, true_or, or_false, false_or, and_self, zRa_k, zRa_r, zRa_pl, zRa_mn, zRa_hd, zRa_rs, zRa_mk, mK0, mQ1, mK1, mN1, mQ6, mK6, mN6, mQ7, mK7, mN7, mQ8, mK8, mN8, mQ9, mK9, mN9, mQ10, mK10, mN10, mQ11, mK11, mN11, mQ21, mK21, mN21, mQ22, mK22, mN22, mQ23, mK23, mN23, mQ24, mK24, mN24, mQ25, mK25, mN25, mQ26, mK26, mN26, mQ27, mK27, mN27, mQ28, mK28, mN28, mQ32, mK32, mN32, mQ33, mK33, mN33, mQ34, mK34, mN34, mQ35, mK35, mN35, mQ40, mK40, mN40, mQ41, mK41, mN41, mQ42, mK42, mN42, mQ43, mK43, mN43, mQ44, mK44, mN44, mQ45, mK45, mN45, mQ62, mK62, mN62, zRa_oA, ho, e1, e2])
        refine b172 ?_
        refine ih1 K' b Cb hbT d _ ?_
        rw [hC] at hQ
        (try simp (disch := omega) only [zh, zh_st, ↓reduceIte, Nat.add_left_cancel_iff, Nat.reduceEqDiff, Nat.add_sub_cancel, Nat.reduceAdd, Nat.reduceSub, Nat.reduceMul, ← nI_0, zu_same, zu_ne, zoi, zoi_m1, nI_add, pk_mul, pk_sub, zcl, nI_leI, nI_ltI, nI_eq, ite_not, reduceCtorEq, zqi_s, zql_s, zqv_s, true_and, and_true, vp_in_nI, not_true_eq_false, not_false_eq_true, or_true, true_or, or_false, false_or, and_self, zRa_k, zRa_r, zRa_pl, zRa_mn, zRa_hd, zRa_rs, zRa_mk, mK0, mQ1, mK1, mN1, mQ6, mK6, mN6, mQ7, mK7, mN7, mQ8, mK8, mN8, mQ9, mK9, mN9, mQ10, mK10, mN10, mQ11, mK11, mN11, mQ21, mK21, mN21, mQ22, mK22, mN22, mQ23, mK23, mN23, mQ24, mK24, mN24, mQ25, mK25, mN25, mQ26, mK26, mN26, mQ27, mK27, mN27, mQ28, mK28, mN28, mQ32, mK32, mN32, mQ33, mK33, mN33, mQ34, mK34, mN34, mQ35, mK35, mN35, mQ40, mK40, mN40, mQ41, mK41, mN41, mQ42, mK42, mN42, mQ43, mK43, mN43, mQ44, mK44, mN44, mQ45, mK45, mN45, mQ62, mK62, mN62, zRa_oA, e1, znb0])
        cases hcb : Cb (zct D mk P) with
        | false =>
          rw [hcb, Bool.and_false] at hQ
          (try simp (disch := omega) only [zh, zh_st, ↓reduceIte, Nat.add_left_cancel_iff, Nat.reduceEqDiff, Nat.add_sub_cancel, Nat.reduceAdd, Nat.reduceSub, Nat.reduceMul, ← nI_0, zu_same, zu_ne, zoi, zoi_m1, nI_add, pk_mul, pk_sub, zcl, nI_leI, nI_ltI, nI_eq, ite_not, reduceCtorEq, zqi_s, zql_s, zqv_s, true_and, and_true, vp_in_nI, not_true_eq_false, not_false_eq_true, or_true, true_or, or_false, false_or, and_self, ])
          exact hQ
        | true =>
          rw [hcb, Bool.and_true] at hQ
          (try simp (disch := omega) only [zh, zh_st, ↓reduceIte, Nat.add_left_cancel_iff, Nat.reduceEqDiff, Nat.add_sub_cancel, Nat.reduceAdd, Nat.reduceSub, Nat.reduceMul, ← nI_0, zu_same, zu_ne, zoi, zoi_m1, nI_add, pk_mul, pk_sub, zcl, nI_leI, nI_ltI, nI_eq, ite_not, reduceCtorEq, zqi_s, zql_s, zqv_s, true_and, and_true, vp_in_nI, not_true_eq_false, not_false_eq_true, or_true, true_or, or_false, false_or, and_self, ])
          by_cases hao : zA σ 176 a = nI 1
          · rcases ha with ⟨-, ha⟩ | ha
            · exact ih2 (K' + 1) a Ca ha hao d Q hQ
            · have := ih2 K' a Ca ha hao (d + 1) Q hQ
              rw [show d + 1 + K' + 1 = d + (K' + 1) + 1 by omega] at this
              exact this
          · rcases ha with ⟨h, -⟩ | ha
            · exact absurd h hao
            · have hal := hpos ha
              refine b172_46 ?_
              (try simp (disch := omega) only [zh, zh_st, ↓reduceIte, Nat.add_left_cancel_iff, Nat.reduceEqDiff, Nat.add_sub_cancel, Nat.reduceAdd, Nat.reduceSub, Nat.reduceMul, ← nI_0, zu_same, zu_ne, zoi, zoi_m1, nI_add, pk_mul, pk_sub, zcl, nI_leI, nI_ltI, nI_eq, ite_not, reduceCtorEq, zqi_s, zql_s, zqv_s, true_and, and_true, vp_in_nI, not_true_eq_false, not_false_eq_true, or_true, true_or, or_false, false_or, and_self, zRa_k, zRa_r, zRa_pl, zRa_mn, zRa_hd, zRa_rs, zRa_mk, mK0, mQ1, mK1, mN1, mQ6, mK6, mN6, mQ7, mK7, mN7, mQ8, mK8, mN8, mQ9, mK9, mN9, mQ10, mK10, mN10, mQ11, mK11, mN11, mQ21, mK21, mN21, mQ22, mK22, mN22, mQ23, mK23, mN23, mQ24, mK24, mN24, mQ25, mK25, mN25, mQ26, mK26, mN26, mQ27, mK27, mN27, mQ28, mK28, mN28, mQ32, mK32, mN32, mQ33, mK33, mN33, mQ34, mK34, mN34, mQ35, mK35, mN35, mQ40, mK40, mN40, mQ41, mK41, mN41, mQ42, mK42, mN42, mQ43, mK43, mN43, mQ44, mK44, mN44, mQ45, mK45, mN45, mQ62, mK62, mN62, zRa_oA])
              rw [if_neg hao]
              refine b172 ?_
              refine ih1 K' a Ca ha d _ ?_
              rw [zqi_s]
              exact ⟨zb01' _, hQ⟩
    refine ⟨fun K v C hT d Q hQ => ?_, and46⟩
    have hT0 := hT
    obtain ⟨v1, v2, k1, hT⟩ := hT
    obtain ⟨K', rfl⟩ : ∃ K', K = K' + 1 := ⟨K - 1, by omega⟩
    rw [Nat.add_sub_cancel] at hT
    rcases hT with ⟨c, hA, hC⟩ | ⟨o, u, C1, e1, hu, hC⟩ | ⟨o, a, b, Ca, Cb, e1, e2, ha, hbT, hC⟩ | ⟨o, a, b, Ca, Cb, e1, e2, ha, hbT, hC⟩
    · rw [hC] at hQ
      have := e_atom (d := d + K') hM hD hR hV hb (by omega) hhi hA hQ
      exact this
    · refine b172_2 ?_
      (try simp (disch := omega) only [zh, zh_st, ↓reduceIte, Nat.add_left_cancel_iff, Nat.reduceEqDiff, Nat.add_sub_cancel, Nat.reduceAdd, Nat.reduceSub, Nat.reduceMul, ← nI_0, zu_same, zu_ne, zoi, zoi_m1, nI_add, pk_mul, pk_sub, zcl, nI_leI, nI_ltI, nI_eq, ite_not, reduceCtorEq, zqi_s, zql_s, zqv_s, true_and, and_true, vp_in_nI, not_true_eq_false, not_false_eq_true, or_true, true_or, or_false, false_or, and_self, zRa_k, zRa_r, zRa_pl, zRa_mn, zRa_hd, zRa_rs, zRa_mk, mK0, mQ1, mK1, mN1, mQ6, mK6, mN6, mQ7, mK7, mN7, mQ8, mK8, mN8, mQ9, mK9, mN9, mQ10, mK10, mN10, mQ11, mK11, mN11, mQ21, mK21, mN21, mQ22, mK22, mN22, mQ23, mK23, mN23, mQ24, mK24, mN24, mQ25, mK25, mN25, mQ26, mK26, mN26, mQ27, mK27, mN27, mQ28, mK28, mN28, mQ32, mK32, mN32, mQ33, mK33, mN33, mQ34, mK34, mN34, mQ35, mK35, mN35, mQ40, mK40, mN40, mQ41, mK41, mN41, mQ42, mK42, mN42, mQ43, mK43, mN43, mQ44, mK44, mN44, mQ45, mK45, mN45, mQ62, mK62, mN62, zRa_oA, o, e1])
      refine b172 ?_
      refine ih1 K' u C1 hu d _ ?_
      rw [hC] at hQ
      (try simp (disch := omega) only [zh, zh_st, ↓reduceIte, Nat.add_left_cancel_iff, Nat.reduceEqDiff, Nat.add_sub_cancel, Nat.reduceAdd, Nat.reduceSub, Nat.reduceMul, ← nI_0, zu_same, zu_ne, zoi, zoi_m1, nI_add, pk_mul, pk_sub, zcl, nI_leI, nI_ltI, nI_eq, ite_not, reduceCtorEq, zqi_s, zql_s, zqv_s, true_and, and_true, vp_in_nI, not_true_eq_false, not_false_eq_true, or_true, true_or, or_false, false_or, and_self, znb0])
      cases h1 : C1 (zct D mk P) <;> rw [h1] at hQ <;> ((try simp (disch := omega) only [zh, zh_st, ↓reduceIte, Nat.add_left_cancel_iff, Nat.reduceEqDiff, Nat.add_sub_cancel, Nat.reduceAdd, Nat.reduceSub, Nat.reduceMul, ← nI_0, zu_same, zu_ne, zoi, zoi_m1, nI_add, pk_mul, pk_sub, zcl, nI_leI, nI_ltI, nI_eq, ite_not, reduceCtorEq, zqi_s, zql_s, zqv_s, true_and, and_true, vp_in_nI, not_true_eq_false, not_false_eq_true, or_true, true_or, or_false, false_or, and_self, ])) <;> exact hQ
    · refine b172_2 ?_
      (try simp (disch := omega) only [zh, zh_st, ↓reduceIte, Nat.add_left_cancel_iff, Nat.reduceEqDiff, Nat.add_sub_cancel, Nat.reduceAdd, Nat.reduceSub, Nat.reduceMul, ← nI_0, zu_same, zu_ne, zoi, zoi_m1, nI_add, pk_mul, pk_sub, zcl, nI_leI, nI_ltI, nI_eq, ite_not, reduceCtorEq, zqi_s, zql_s, zqv_s, true_and, and_true, vp_in_nI, not_true_eq_false, not_false_eq_true, or_true, true_or, or_false, false_or, and_self, zRa_k, zRa_r, zRa_pl, zRa_mn, zRa_hd, zRa_rs, zRa_mk, mK0, mQ1, mK1, mN1, mQ6, mK6, mN6, mQ7, mK7, mN7, mQ8, mK8, mN8, mQ9, mK9, mN9, mQ10, mK10, mN10, mQ11, mK11, mN11, mQ21, mK21, mN21, mQ22, mK22, mN22, mQ23, mK23, mN23, mQ24, mK24, mN24, mQ25, mK25, mN25, mQ26, mK26, mN26, mQ27, mK27, mN27, mQ28, mK28, mN28, mQ32, mK32, mN32, mQ33, mK33, mN33, mQ34, mK34, mN34, mQ35, mK35, mN35, mQ40, mK40, mN40, mQ41, mK41, mN41, mQ42, mK42, mN42, mQ43, mK43, mN43, mQ44, mK44, mN44, mQ45, mK45, mN45, mQ62, mK62, mN62, zRa_oA, o, e2])
      refine b172 ?_
      refine ih1 K' b Cb hbT d _ ?_
      rw [hC] at hQ
      (try simp (disch := omega) only [zh, zh_st, ↓reduceIte, Nat.add_left_cancel_iff, Nat.reduceEqDiff, Nat.add_sub_cancel, Nat.reduceAdd, Nat.reduceSub, Nat.reduceMul, ← nI_0, zu_same, zu_ne, zoi, zoi_m1, nI_add, pk_mul, pk_sub, zcl, nI_leI, nI_ltI, nI_eq, ite_not, reduceCtorEq, zqi_s, zql_s, zqv_s, true_and, and_true, vp_in_nI, not_true_eq_false, not_false_eq_true, or_true, true_or, or_false, false_or, and_self, zRa_k, zRa_r, zRa_pl, zRa_mn, zRa_hd, zRa_rs, zRa_mk, mK0, mQ1, mK1, mN1, mQ6, mK6, mN6, mQ7, mK7, mN7, mQ8, mK8, mN8, mQ9, mK9, mN9, mQ10, mK10, mN10, mQ11, mK11, mN11, mQ21, mK21, mN21, mQ22, mK22, mN22, mQ23, mK23, mN23, mQ24, mK24, mN24, mQ25, mK25, mN25, mQ26, mK26, mN26, mQ27, mK27, mN27, mQ28, mK28, mN28, mQ32, mK32, mN32, mQ33, mK33, mN33, mQ34, mK34, mN34, mQ35, mK35, mN35, mQ40, mK40, mN40, mQ41, mK41, mN41, mQ42, mK42, mN42, mQ43, mK43, mN43, mQ44, mK44, mN44, mQ45, mK45, mN45, mQ62, mK62, mN62, zRa_oA, e1, znb0])
      cases hcb : Cb (zct D mk P) with
      | false =>
        rw [hcb, Bool.or_false] at hQ
        (try simp (disch := omega) only [zh, zh_st, ↓reduceIte, Nat.add_left_cancel_iff, Nat.reduceEqDiff, Nat.add_sub_cancel, Nat.reduceAdd, Nat.reduceSub, Nat.reduceMul, ← nI_0, zu_same, zu_ne, zoi, zoi_m1, nI_add, pk_mul, pk_sub, zcl, nI_leI, nI_ltI, nI_eq, ite_not, reduceCtorEq, zqi_s, zql_s, zqv_s, true_and, and_true, vp_in_nI, not_true_eq_false, not_false_eq_true, or_true, true_or, or_false, false_or, and_self, ])
        exact ih1 (K' + 1) a Ca ha d Q hQ
      | true =>
        rw [hcb, Bool.or_true] at hQ
        (try simp (disch := omega) only [zh, zh_st, ↓reduceIte, Nat.add_left_cancel_iff, Nat.reduceEqDiff, Nat.add_sub_cancel, Nat.reduceAdd, Nat.reduceSub, Nat.reduceMul, ← nI_0, zu_same, zu_ne, zoi, zoi_m1, nI_add, pk_mul, pk_sub, zcl, nI_leI, nI_ltI, nI_eq, ite_not, reduceCtorEq, zqi_s, zql_s, zqv_s, true_and, and_true, vp_in_nI, not_true_eq_false, not_false_eq_true, or_true, true_or, or_false, false_or, and_self, ])
        exact hQ
    · refine b172_2 ?_
      (try simp (disch := omega) only [zh, zh_st, ↓reduceIte, Nat.add_left_cancel_iff, Nat.reduceEqDiff, Nat.add_sub_cancel, Nat.reduceAdd, Nat.reduceSub, Nat.reduceMul, ← nI_0, zu_same, zu_ne, zoi, zoi_m1, nI_add, pk_mul, pk_sub, zcl, nI_leI, nI_ltI, nI_eq, ite_not, reduceCtorEq, zqi_s, zql_s, zqv_s, true_and, and_true, vp_in_nI, not_true_eq_false, not_false_eq_true, or_true, true_or, or_false, false_or, and_self, zRa_k, zRa_r, zRa_pl, zRa_mn, zRa_hd, zRa_rs, zRa_mk, mK0, mQ1, mK1, mN1, mQ6, mK6, mN6, mQ7, mK7, mN7, mQ8, mK8, mN8, mQ9, mK9, mN9, mQ10, mK10, mN10, mQ11, mK11, mN11, mQ21, mK21, mN21, mQ22, mK22, mN22, mQ23, mK23, mN23, mQ24, mK24, mN24, mQ25, mK25, mN25, mQ26, mK26, mN26, mQ27, mK27, mN27, mQ28, mK28, mN28, mQ32, mK32, mN32, mQ33, mK33, mN33, mQ34, mK34, mN34, mQ35, mK35, mN35, mQ40, mK40, mN40, mQ41, mK41, mN41, mQ42, mK42, mN42, mQ43, mK43, mN43, mQ44, mK44, mN44, mQ45, mK45, mN45, mQ62, mK62, mN62, zRa_oA, o])
      exact and46 (K' + 1) v C hT0 o d Q hQ
theorem e_hold {n mk : Nat} {σ : zH} {D : zDT} (hM : zMb σ) (hD : zDR σ D n) {pl mn hd rs : Nat → Int32} {P : Nat → List Nat} (hR : zRR pl mn P) (hV : zVP n P mk) (hb : zDb D) {lo hi f K v d : Nat} {C : (zCd → Bool) → Bool} (hhi : hi ≤ 3200) (hT : zTr σ lo hi f K v C) {Q : Option Value → zH → Prop} (hQ : Q (some (.int (nI (zbn1 (C (zct D mk P)))))) (zRa σ pl mn hd rs (nI mk))) : zM (d + K + 1) 172 [.ref 160, .int (nI v)] (zRa σ pl mn hd rs (nI mk)) Q := by
  refine b172 ?_
  exact (l_hold hM hD hR hV hb hhi f).1 K v C hT d Q hQ
