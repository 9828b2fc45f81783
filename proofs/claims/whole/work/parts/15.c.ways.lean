theorem zkeys_app (L : List (Nat × Nat)) (k r : Nat) : zkeys (L ++ [(k, r)]) = zkeys L ++ [k] := by simp [zkeys]
theorem zWR_new {li ro : Nat → Int64} {tk sl : Nat → Int32} {L : List (Nat × Nat)} {S T : Nat → Nat} (h2 : L.length < 3000) (h3 : (zkeys L).Nodup) (h4 : ∀ x ∈ L, x.1 < 2 ^ 63 ∧ x.2 < 2 ^ 63) (h5 : ∀ i, i < L.length → li i = lN (L.getD i (0, 0)).1 ∧ ro i = lN (L.getD i (0, 0)).2) (hS : ∀ s, s < 4096 → sl s = nI (S s)) (hT : ∀ i, i < L.length → tk i = nI (T i) ∧ T i < 4096) (hST : ∀ s, s < 4096 → S s ≠ 0 → T (S s - 1) = s) (hI : zHI 4096 zhC S (zkeys L)) {j k r : Nat} (hk : k < 2 ^ 63) (hr : r < 2 ^ 63) (hj : j < 4096) (hp : ∀ j', j' < j → S ((zhC k + j') % 4096) ≠ 0) (h0 : S ((zhC k + j) % 4096) = 0) (hnew : k ∉ zkeys L) : zWR (zu li L.length (lN k)) (zu ro L.length (lN r)) (zu tk L.length (nI ((zhC k + j) % 4096))) (zu sl ((zhC k + j) % 4096) (nI (L.length + 1))) (nI (L.length + 1)) (L ++ [(k, r)]) := by
  have hs4 : (zhC k + j) % 4096 < 4096 := Nat.mod_lt _ (by decide)
  have hI2 := zHI_add hI (by decide) hj hp h0
  rw [zkeys_len] at hI2
  refine ⟨by simp, by simp; omega, ?_, fun x hx => ?_, fun i hi => ?_, zu S ((zhC k + j) % 4096) (L.length + 1), zu T L.length ((zhC k + j) % 4096), fun s hs => ?_, fun i hi => ?_, fun s hs hne => ?_, by rw [zkeys_app]; exact hI2⟩
  · rw [zkeys_app, List.nodup_append]
    refine ⟨h3, by simp, fun a ha b hb => ?_⟩
    simp only [List.mem_singleton] at hb
    rw [hb]
    exact fun q => hnew (by rw [← q]; exact ha)
  · rcases List.mem_append.mp hx with hx | hx
    · exact h4 x hx
    · simp only [List.mem_singleton] at hx
      rw [hx]
      exact ⟨hk, hr⟩
  · simp only [List.length_append, List.length_cons, List.length_nil] at hi
    rw [zgd_app hi]
    by_cases e : i = L.length
    · rw [if_pos e, e, zu_same, zu_same]
      exact ⟨rfl, rfl⟩
    · rw [if_neg e, zu_ne _ _ e, zu_ne _ _ e]
      exact h5 i (by omega)
  · by_cases e : s = (zhC k + j) % 4096
    · rw [e, zu_same, zu_same]
    · rw [zu_ne _ _ e, zu_ne _ _ e]
      exact hS s hs
  · simp only [List.length_append, List.length_cons, List.length_nil] at hi
    by_cases e : i = L.length
    · rw [e, zu_same, zu_same]
      exact ⟨rfl, hs4⟩
    · rw [zu_ne _ _ e, zu_ne _ _ e]
      exact hT i (by omega)
  · by_cases e : s = (zhC k + j) % 4096
    · rw [e, zu_same, Nat.add_sub_cancel, zu_same]
    · rw [zu_ne _ _ e] at hne ⊢
      have := hI.1 s hs
      rw [zkeys_len] at this
      rw [zu_ne _ _ (by omega)]
      exact hST s hs hne
theorem zand4095 (a : Nat) : nI a &&& nI 4095 = nI (a % 4096) := znand a 12 (by decide)
theorem zmod_next (a j : Nat) : ((a + j) % 4096 + 1) % 4096 = (a + (j + 1)) % 4096 := by omega
set_option maxHeartbeats 2000000 in
theorem l_wput {d w : Nat} {σ : zH} (hW : zWb σ w) {li ro : Nat → Int64} {tk sl : Nat → Int32} {L : List (Nat × Nat)} {S T : Nat → Nat} (h2 : L.length ≤ 3000) (h3 : (zkeys L).Nodup) (h4 : ∀ x ∈ L, x.1 < 2 ^ 63 ∧ x.2 < 2 ^ 63) (h5 : ∀ i, i < L.length → li i = lN (L.getD i (0, 0)).1 ∧ ro i = lN (L.getD i (0, 0)).2) (hS : ∀ s, s < 4096 → sl s = nI (S s)) (hT : ∀ i, i < L.length → tk i = nI (T i) ∧ T i < 4096) (hST : ∀ s, s < 4096 → S s ≠ 0 → T (S s - 1) = s) (hI : zHI 4096 zhC S (zkeys L)) {k r : Nat} (hk : k < 2 ^ 63) (hr : r < 2 ^ 63) {Q : Option Value → zH → Prop} (hQ1 : ∀ L', zput L k r = some L' → ∀ li' ro' tk' sl' sz', zWR li' ro' tk' sl' sz' L' → Q (some (.int (nI 1))) (zWa σ w li' ro' tk' sl' sz')) (hQ0 : zput L k r = none → Q (some (.int (nI 0))) (zWa σ w li ro tk sl (nI L.length))) : ∀ (m j : Nat), j + m < 4096 → S ((zhC k + (j + m)) % 4096) = 0 → (∀ j', j' < j → S ((zhC k + j') % 4096) ≠ 0 ∧ (zkeys L).getD (S ((zhC k + j') % 4096) - 1) 0 ≠ k) → zW (d + 1) 100 14 [(0, .ref w), (1, .long (lN k)), (3, .long (lN r)), (5, .int (nI ((zhC k + j) % 4096))), (6, .int (nI j))] [] (zWa σ w li ro tk sl (nI L.length)) Q := by
  have ⟨k0, q0, q1, q2, q3, k1, k2, k3, k4, n1, n2, n3, n4⟩ := hW
  intro m
  induction m with
  | zero =>
    intro j hj h0 hp
    rw [Nat.add_zero] at h0 hj
    have hs4 : (zhC k + j) % 4096 < 4096 := Nat.mod_lt _ (by decide)
    have hnew := zHI_none hI hp h0
    have e1 : sl ((zhC k + j) % 4096) = nI 0 := by rw [hS _ hs4, h0]
    have e2 : ¬ (0 ≤ nI 0 - nI 1) := by decide
    refine b100_14 ?_
    obtain ⟨pos, hpos⟩ : ∃ p, p = (zhC k + j) % 4096 := ⟨_, rfl⟩
    rw [← hpos] at e1 hs4 ⊢
    (try simp (disch := omega) only [zh, zh_st, ↓reduceIte, Nat.add_left_cancel_iff, Nat.reduceEqDiff, Nat.add_sub_cancel, Nat.reduceAdd, Nat.reduceSub, Nat.reduceMul, ← nI_0, zu_same, zu_ne, zoi, zoi_m1, nI_add, pk_mul, pk_sub, zcl, nI_leI, nI_ltI, nI_eq, ite_not, reduceCtorEq, zqi_s, zql_s, zqv_s, true_and, and_true, vp_in_nI, if_pos, if_neg, not_true_eq_false, not_false_eq_true, or_true, true_or, or_false, false_or, and_self, zWa_k, zWa_r, zWa_li, zWa_ro, zWa_tk, zWa_sl, zWa_sz, k0, q0, q1, q2, q3, k1, k2, k3, k4, n1, n2, n3, n4, e1])
    rw [if_neg (by decide)]
    refine b101 ?_
    (try simp (disch := omega) only [zh, zh_st, ↓reduceIte, Nat.add_left_cancel_iff, Nat.reduceEqDiff, Nat.add_sub_cancel, Nat.reduceAdd, Nat.reduceSub, Nat.reduceMul, ← nI_0, zu_same, zu_ne, zoi, zoi_m1, nI_add, pk_mul, pk_sub, zcl, nI_leI, nI_ltI, nI_eq, ite_not, reduceCtorEq, zqi_s, zql_s, zqv_s, true_and, and_true, vp_in_nI, not_true_eq_false, not_false_eq_true, or_true, true_or, or_false, false_or, and_self, zWa_k, zWa_r, zWa_li, zWa_ro, zWa_tk, zWa_sl, zWa_sz, k0, q0, q1, q2, q3, k1, k2, k3, k4, n1, n2, n3, n4])
    by_cases hl : L.length < 3000
    · have hput : zput L k r = some (L ++ [(k, r)]) := by unfold zput; rw [if_pos (Or.inr hl), zins_new hnew]
      have hw := zWR_new hl h3 h4 h5 hS hT hST hI hk hr hj (fun j' hj' => (hp j' hj').1) h0 hnew
      rw [← hpos] at hw
      rw [if_pos hl]
      (try simp (disch := omega) only [zh, zh_st, ↓reduceIte, Nat.add_left_cancel_iff, Nat.reduceEqDiff, Nat.add_sub_cancel, Nat.reduceAdd, Nat.reduceSub, Nat.reduceMul, ← nI_0, zu_same, zu_ne, zoi, zoi_m1, nI_add, pk_mul, pk_sub, zcl, nI_leI, nI_ltI, nI_eq, ite_not, reduceCtorEq, zqi_s, zql_s, zqv_s, true_and, and_true, vp_in_nI, if_pos, if_neg, not_true_eq_false, not_false_eq_true, or_true, true_or, or_false, false_or, and_self, zWa_k, zWa_r, zWa_li, zWa_ro, zWa_tk, zWa_sl, zWa_sz, k0, q0, q1, q2, q3, k1, k2, k3, k4, n1, n2, n3, n4])
      exact ⟨rfl, hQ1 _ hput _ _ _ _ _ hw⟩
    · have hput : zput L k r = none := by unfold zput; rw [if_neg (by rintro (h | h); exact hnew h; exact hl h)]
      rw [if_neg hl]
      (try simp (disch := omega) only [zh, zh_st, ↓reduceIte, Nat.add_left_cancel_iff, Nat.reduceEqDiff, Nat.add_sub_cancel, Nat.reduceAdd, Nat.reduceSub, Nat.reduceMul, ← nI_0, zu_same, zu_ne, zoi, zoi_m1, nI_add, pk_mul, pk_sub, zcl, nI_leI, nI_ltI, nI_eq, ite_not, reduceCtorEq, zqi_s, zql_s, zqv_s, true_and, and_true, vp_in_nI, if_pos, if_neg, not_true_eq_false, not_false_eq_true, or_true, true_or, or_false, false_or, and_self, ])
      exact hQ0 hput
  | succ m ih =>
    intro j hj h0 hp
    have hs4 : (zhC k + j) % 4096 < 4096 := Nat.mod_lt _ (by decide)
    have hSl := hI.1 _ hs4
    rw [zkeys_len] at hSl
    by_cases hz : S ((zhC k + j) % 4096) = 0
    · have hnew := zHI_none hI hp hz
      have e1 : sl ((zhC k + j) % 4096) = nI 0 := by rw [hS _ hs4, hz]
      refine b100_14 ?_
      obtain ⟨pos, hpos⟩ : ∃ p, p = (zhC k + j) % 4096 := ⟨_, rfl⟩
      rw [← hpos] at e1 hs4 ⊢
      (try simp (disch := omega) only [zh, zh_st, ↓reduceIte, Nat.add_left_cancel_iff, Nat.reduceEqDiff, Nat.add_sub_cancel, Nat.reduceAdd, Nat.reduceSub, Nat.reduceMul, ← nI_0, zu_same, zu_ne, zoi, zoi_m1, nI_add, pk_mul, pk_sub, zcl, nI_leI, nI_ltI, nI_eq, ite_not, reduceCtorEq, zqi_s, zql_s, zqv_s, true_and, and_true, vp_in_nI, if_pos, if_neg, not_true_eq_false, not_false_eq_true, or_true, true_or, or_false, false_or, and_self, zWa_k, zWa_r, zWa_li, zWa_ro, zWa_tk, zWa_sl, zWa_sz, k0, q0, q1, q2, q3, k1, k2, k3, k4, n1, n2, n3, n4, e1])
      rw [if_neg (by decide)]
      refine b101 ?_
      (try simp (disch := omega) only [zh, zh_st, ↓reduceIte, Nat.add_left_cancel_iff, Nat.reduceEqDiff, Nat.add_sub_cancel, Nat.reduceAdd, Nat.reduceSub, Nat.reduceMul, ← nI_0, zu_same, zu_ne, zoi, zoi_m1, nI_add, pk_mul, pk_sub, zcl, nI_leI, nI_ltI, nI_eq, ite_not, reduceCtorEq, zqi_s, zql_s, zqv_s, true_and, and_true, vp_in_nI, not_true_eq_false, not_false_eq_true, or_true, true_or, or_false, false_or, and_self, zWa_k, zWa_r, zWa_li, zWa_ro, zWa_tk, zWa_sl, zWa_sz, k0, q0, q1, q2, q3, k1, k2, k3, k4, n1, n2, n3, n4])
      by_cases hl : L.length < 3000
      · have hput : zput L k r = some (L ++ [(k, r)]) := by unfold zput; rw [if_pos (Or.inr hl), zins_new hnew]
        have hw := zWR_new hl h3 h4 h5 hS hT hST hI hk hr (show j < 4096 by omega) (fun j' hj' => (hp j' hj').1) hz hnew
        rw [← hpos] at hw
        rw [if_pos hl]
        (try simp (disch := omega) only [zh, zh_st, ↓reduceIte, Nat.add_left_cancel_iff, Nat.reduceEqDiff, Nat.add_sub_cancel, Nat.reduceAdd, Nat.reduceSub, Nat.reduceMul, ← nI_0, zu_same, zu_ne, zoi, zoi_m1, nI_add, pk_mul, pk_sub, zcl, nI_leI, nI_ltI, nI_eq, ite_not, reduceCtorEq, zqi_s, zql_s, zqv_s, true_and, and_true, vp_in_nI, if_pos, if_neg, not_true_eq_false, not_false_eq_true, or_true, true_or, or_false, false_or, and_self, zWa_k, zWa_r, zWa_li, zWa_ro, zWa_tk, zWa_sl, zWa_sz, k0, q0, q1, q2, q3, k1, k2, k3, k4, n1, n2, n3, n4])
        exact ⟨rfl, hQ1 _ hput _ _ _ _ _ hw⟩
      · have hput : zput L k r = none := by unfold zput; rw [if_neg (by rintro (h | h); exact hnew h; exact hl h)]
        rw [if_neg hl]
        (try simp (disch := omega) only [zh, zh_st, ↓reduceIte, Nat.add_left_cancel_iff, Nat.reduceEqDiff, Nat.add_sub_cancel, Nat.reduceAdd, Nat.reduceSub, Nat.reduceMul, ← nI_0, zu_same, zu_ne, zoi, zoi_m1, nI_add, pk_mul, pk_sub, zcl, nI_leI, nI_ltI, nI_eq, ite_not, reduceCtorEq, zqi_s, zql_s, zqv_s, true_and, and_true, vp_in_nI, if_pos, if_neg, not_true_eq_false, not_false_eq_true, or_true, true_or, or_false, false_or, and_self, ])
        exact hQ0 hput
    · obtain ⟨i, hi⟩ : ∃ i, S ((zhC k + j) % 4096) = i + 1 := ⟨S ((zhC k + j) % 4096) - 1, by omega⟩
      have hil : i < L.length := by omega
      have e1 : sl ((zhC k + j) % 4096) = nI (i + 1) := by rw [hS _ hs4, hi]
      obtain ⟨a1, a2⟩ := h5 i hil
      have hb := h4 _ (zgd_memP hil)
      have hnx := zmod_next (zhC k) j
      have hkey := zkeys_get L i
      refine b100_14 ?_
      obtain ⟨pos, hpos⟩ : ∃ p, p = (zhC k + j) % 4096 := ⟨_, rfl⟩
      rw [← hpos] at e1 hs4 hi hnx ⊢
      have hcmp : (lg_cmp (lN (L.getD i (0, 0)).1) (lN k) = nI 0) ↔ (L.getD i (0, 0)).1 = k := by rw [nI_0, lg_cmp_eq, pk_lEQ hb.1 hk]
      (try simp (disch := omega) only [zh, zh_st, ↓reduceIte, Nat.add_left_cancel_iff, Nat.reduceEqDiff, Nat.add_sub_cancel, Nat.reduceAdd, Nat.reduceSub, Nat.reduceMul, ← nI_0, zu_same, zu_ne, zoi, zoi_m1, nI_add, pk_mul, pk_sub, zcl, nI_leI, nI_ltI, nI_eq, ite_not, reduceCtorEq, zqi_s, zql_s, zqv_s, true_and, and_true, vp_in_nI, not_true_eq_false, not_false_eq_true, or_true, true_or, or_false, false_or, and_self, zWa_k, zWa_r, zWa_li, zWa_ro, zWa_tk, zWa_sl, zWa_sz, k0, q0, q1, q2, q3, k1, k2, k3, k4, n1, n2, n3, n4, e1, a1, hcmp])
      rw [if_neg (by omega), if_pos (by omega)]
      by_cases hkk : (L.getD i (0, 0)).1 = k
      · rw [if_pos hkk]
        have hin : k ∈ zkeys L := by
          rw [← hkk]
          exact List.mem_map_of_mem (zgd_memP hil)
        have hput : zput L k r = some (zins L k r) := by unfold zput; rw [if_pos (Or.inl hin)]
        exact hQ1 _ hput _ _ _ _ _ (zWR_old ⟨rfl, h2, h3, h4, h5, S, T, hS, hT, hST, hI⟩ hil hkk hr)
      · rw [if_neg hkk, zand4095, hnx]
        refine ih (j + 1) (by omega) ?_ ?_
        · rw [show j + 1 + m = j + (m + 1) by omega]; exact h0
        · intro j' hj'
          by_cases hjj : j' = j
          · subst hjj
            rw [← hpos, hi, Nat.add_sub_cancel, hkey]
            exact ⟨by omega, hkk⟩
          · exact hp j' (by omega)
theorem e_wput {d w : Nat} {σ : zH} (hW : zWb σ w) {li ro : Nat → Int64} {tk sl : Nat → Int32} {sz : Int32} {L : List (Nat × Nat)} (hR : zWR li ro tk sl sz L) {k r : Nat} (hk : k < 2 ^ 63) (hr : r < 2 ^ 63) {Q : Option Value → zH → Prop} (hQ1 : ∀ L', zput L k r = some L' → ∀ li' ro' tk' sl' sz', zWR li' ro' tk' sl' sz' L' → Q (some (.int (nI 1))) (zWa σ w li' ro' tk' sl' sz')) (hQ0 : zput L k r = none → Q (some (.int (nI 0))) (zWa σ w li ro tk sl sz)) : zM (d + 1) 100 [.ref w, .long (lN k), .long (lN r)] (zWa σ w li ro tk sl sz) Q := by
  obtain ⟨h1, h2, h3, h4, h5, S, T, hS, hT, hST, hI⟩ := hR
  subst h1
  obtain ⟨j, hj, h0⟩ := zHI_free hI (by rw [zkeys_len]; omega) (zhC k)
  refine b100 ?_
  rw [show Int64.ofInt (-7046029254386353131) = zM1 from rfl, zhC_eq]
  have := l_wput (d := d) hW h2 h3 h4 h5 hS hT hST hI hk hr hQ1 hQ0 j 0 (by omega) (by rw [Nat.zero_add]; exact h0) (fun j' hj' => absurd hj' (by omega))
  have e : ∀ h, h < 4096 → (h + 0) % 4096 = h := by omega
  rw [e _ (zhC_lt k)] at this
  exact this
