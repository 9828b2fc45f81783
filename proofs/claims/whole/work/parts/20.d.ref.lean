/-! riffle and faro -/
def zwdl : List Nat := [6518132, 1684365676, 1836021349, 1952541541, 1953854062, 1718380912, 125797015120997, 1717662319, 1685026670, 1937203568, 1835102827, 499984983411, 26982, 1701606245, 29807, 6384748, 1718773093, 97, 98, 99, 100, 28530, 6385252, 7237492, 418430675813, 1700881256, 125797233421927, 1936292453, 30064, 512852587109, 1667330660, 508440638821, 1937074548, 109330211763570, 1717658469]
/-- the reference's words, by the class's kinds -/
def zwdn (k : Nat) : Nat := zwdl.getD k 0
theorem zwdn_inj : ∀ a, a < 35 → ∀ b, b < 35 → zwdn a = zwdn b → a = b := by decide +kernel
theorem zwdn_lt : ∀ a, a < 35 → zwdn a < 2 ^ 62 := by decide +kernel
theorem zlgw {a : Nat} (b : Nat) (ha : a < 35) (hb : b < 35) : (lg_cmp (lN (zwdn a)) (lN (zwdn b)) = 0) ↔ a = b := by
  rw [lg_cmp_eq, pk_lEQ (Nat.lt_trans (zwdn_lt a ha) (by decide)) (Nat.lt_trans (zwdn_lt b hb) (by decide))]
  exact ⟨fun h => zwdn_inj a ha b hb h, fun h => by rw [h]⟩
/-- the reference's step at place s of its rows -/
def zRs (σ : zH) (s w p q g h : Nat) : Prop := zB σ 168 s = lN (zwdn w) ∧ zA σ 169 s = nI p ∧ ((w = 6 ∨ w = 7 ∨ w = 9) → zA σ 170 s = nI q) ∧ ((w = 1 ∨ w = 2 ∨ w = 3 ∨ w = 6 ∨ w = 7 ∨ w = 8) → zA σ 171 s = nI g) ∧ zA σ 172 s = nI h
abbrev ztl (s a b i j x y n : Nat) (w : Nat) : zC := [(0, .ref 160), (1, .int (nI s)), (3, .int (nI a)), (4, .int (nI b)), (5, .int (nI i)), (6, .int (nI j)), (7, .int (nI x)), (8, .int (nI y)), (9, .long (lN w)), (11, .int (nI n))]
set_option maxHeartbeats 2000000 in
theorem l_togend {d s a b g n : Nat} {σ : zH} (hM : zMb σ) (hs : s < 96) (h3 : zA σ 171 s = nI g) {mk : Int32} {P : Nat → List Nat} {out : List Nat} (ha : a < 4) (hb : b < 4) (hg : g < 4) (hab : a ≠ b) (hn : out.length = n) (hn2 : n = (P a).length + (P b).length) (ht : zTot P ≤ 9) {Q : Option Value → zH → Prop} (hQ : ∀ pl' mn' hd' rs', zRR pl' mn' (zu (zu (zu P a []) b []) g (out ++ zu (zu P a []) b [] g)) → Q none (zRa σ pl' mn' hd' rs' mk)) {pl mn hd rs : Nat → Int32} (hR : zRR pl mn P) (hr : zHD rs out) (w : Nat) : zW (d + 1) 182 45 (ztl s a b (P a).length (P b).length (P a).length (P b).length n w) [] (zRa σ pl mn hd rs mk) Q := by
  have ⟨mK0, mQ1, mK1, mN1, mQ6, mK6, mN6, mQ7, mK7, mN7, mQ8, mK8, mN8, mQ9, mK9, mN9, mQ10, mK10, mN10, mQ11, mK11, mN11, mQ21, mK21, mN21, mQ22, mK22, mN22, mQ23, mK23, mN23, mQ24, mK24, mN24, mQ25, mK25, mN25, mQ26, mK26, mN26, mQ27, mK27, mN27, mQ28, mK28, mN28, mQ32, mK32, mN32, mQ33, mK33, mN33, mQ34, mK34, mN34, mQ35, mK35, mN35, mQ40, mK40, mN40, mQ41, mK41, mN41, mQ42, mK42, mN42, mQ43, mK43, mN43, mQ44, mK44, mN44, mQ45, mK45, mN45, mQ62, mK62, mN62⟩ := hM
  have h2 := zTot_le2 (P := P) ha hb hab
  have hRe : zRR pl (zu (zu mn a (nI 0)) b (nI 0)) (zu (zu P a []) b []) := by
    intro p hp
    obtain ⟨g1, g2, g3⟩ := hR p hp
    by_cases e1 : p = b
    · rw [e1, zu_same, zu_same]; exact ⟨rfl, by simp, fun i hi => absurd hi (by simp)⟩
    · rw [zu_ne _ _ e1, zu_ne _ _ e1]
      by_cases e2 : p = a
      · rw [e2, zu_same, zu_same]; exact ⟨rfl, by simp, fun i hi => absurd hi (by simp)⟩
      · rw [zu_ne _ _ e2, zu_ne _ _ e2]; exact ⟨g1, g2, g3⟩
  have ht2 : ((zu (zu P a []) b []) g).length + n ≤ 9 := by
    have a1 := zTot_u (P := P) ha []
    have a2 := zTot_u (P := zu P a []) hb []
    rw [zu_ne (f := P) _ (fun h => hab h.symm)] at a2
    have a3 := zTot_le (P := zu (zu P a []) b []) hg
    simp only [List.length_nil] at a1 a2
    omega
  have loop : ∀ (m j : Nat), j + m = n → ∀ (hd' : Nat → Int32), (∀ i, i < j → hd' i = nI (out.getD i 0)) → zW (d + 1) 182 236 [(0, .ref 160), (1, .int (nI s)), (11, .int (nI n)), (12, .int (nI j))] [] (zRa σ pl (zu (zu mn a (nI 0)) b (nI 0)) hd' rs mk) Q := by
    intro m
    induction m with
    | zero =>
      intro j hj hd' hB
      refine b182_236 ?_
      (try simp (disch := omega) only [zh, zh_st, ↓reduceIte, Nat.add_left_cancel_iff, Nat.reduceEqDiff, Nat.add_sub_cancel, Nat.reduceAdd, Nat.reduceSub, Nat.reduceMul, ← nI_0, zu_same, zu_ne, zoi, zoi_m1, nI_add, pk_mul, pk_sub, zcl, nI_leI, nI_ltI, nI_eq, ite_not, reduceCtorEq, zqi_s, zql_s, zqv_s, true_and, and_true, vp_in_nI, if_pos, if_neg, not_true_eq_false, not_false_eq_true, or_true, true_or, or_false, false_or, and_self, zRa_k, zRa_r, zRa_pl, zRa_mn, zRa_hd, zRa_rs, zRa_mk, mK0, mQ1, mK1, mN1, mQ6, mK6, mN6, mQ7, mK7, mN7, mQ8, mK8, mN8, mQ9, mK9, mN9, mQ10, mK10, mN10, mQ11, mK11, mN11, mQ21, mK21, mN21, mQ22, mK22, mN22, mQ23, mK23, mN23, mQ24, mK24, mN24, mQ25, mK25, mN25, mQ26, mK26, mN26, mQ27, mK27, mN27, mQ28, mK28, mN28, mQ32, mK32, mN32, mQ33, mK33, mN33, mQ34, mK34, mN34, mQ35, mK35, mN35, mQ40, mK40, mN40, mQ41, mK41, mN41, mQ42, mK42, mN42, mQ43, mK43, mN43, mQ44, mK44, mN44, mQ45, mK45, mN45, mQ62, mK62, mN62, zRa_oA, h3])
      refine e_onto hM hRe hg (h := out) (fun i hi => hB i (by omega)) hn ht2 (fun pl' mn' hR' => ?_)
      rw [zqv_s]
      exact hQ _ _ _ _ hR'
    | succ m ih =>
      intro j hj hd' hB
      have e1 := hr j (by omega)
      refine b182_236 ?_
      (try simp (disch := omega) only [zh, zh_st, ↓reduceIte, Nat.add_left_cancel_iff, Nat.reduceEqDiff, Nat.add_sub_cancel, Nat.reduceAdd, Nat.reduceSub, Nat.reduceMul, ← nI_0, zu_same, zu_ne, zoi, zoi_m1, nI_add, pk_mul, pk_sub, zcl, nI_leI, nI_ltI, nI_eq, ite_not, reduceCtorEq, zqi_s, zql_s, zqv_s, true_and, and_true, vp_in_nI, if_pos, if_neg, not_true_eq_false, not_false_eq_true, or_true, true_or, or_false, false_or, and_self, zRa_k, zRa_r, zRa_pl, zRa_mn, zRa_hd, zRa_rs, zRa_mk, mK0, mQ1, mK1, mN1, mQ6, mK6, mN6, mQ7, mK7, mN7, mQ8, mK8, mN8, mQ9, mK9, mN9, mQ10, mK10, mN10, mQ11, mK11, mN11, mQ21, mK21, mN21, mQ22, mK22, mN22, mQ23, mK23, mN23, mQ24, mK24, mN24, mQ25, mK25, mN25, mQ26, mK26, mN26, mQ27, mK27, mN27, mQ28, mK28, mN28, mQ32, mK32, mN32, mQ33, mK33, mN33, mQ34, mK34, mN34, mQ35, mK35, mN35, mQ40, mK40, mN40, mQ41, mK41, mN41, mQ42, mK42, mN42, mQ43, mK43, mN43, mQ44, mK44, mN44, mQ45, mK45, mN45, mQ62, mK62, mN62, e1])
      refine ih (j + 1) (by omega) _ (fun i hi => ?_)
      by_cases e : i = j
      · rw [e, zu_same]
      · rw [zu_ne _ _ e]; exact hB i (by omega)
  refine b182_45 ?_
  (try simp (disch := omega) only [zh, zh_st, ↓reduceIte, Nat.add_left_cancel_iff, Nat.reduceEqDiff, Nat.add_sub_cancel, Nat.reduceAdd, Nat.reduceSub, Nat.reduceMul, ← nI_0, zu_same, zu_ne, zoi, zoi_m1, nI_add, pk_mul, pk_sub, zcl, nI_leI, nI_ltI, nI_eq, ite_not, reduceCtorEq, zqi_s, zql_s, zqv_s, true_and, and_true, vp_in_nI, if_pos, if_neg, not_true_eq_false, not_false_eq_true, or_true, true_or, or_false, false_or, and_self, zRa_k, zRa_r, zRa_pl, zRa_mn, zRa_hd, zRa_rs, zRa_mk, mK0, mQ1, mK1, mN1, mQ6, mK6, mN6, mQ7, mK7, mN7, mQ8, mK8, mN8, mQ9, mK9, mN9, mQ10, mK10, mN10, mQ11, mK11, mN11, mQ21, mK21, mN21, mQ22, mK22, mN22, mQ23, mK23, mN23, mQ24, mK24, mN24, mQ25, mK25, mN25, mQ26, mK26, mN26, mQ27, mK27, mN27, mQ28, mK28, mN28, mQ32, mK32, mN32, mQ33, mK33, mN33, mQ34, mK34, mN34, mQ35, mK35, mN35, mQ40, mK40, mN40, mQ41, mK41, mN41, mQ42, mK42, mN42, mQ43, mK43, mN43, mQ44, mK44, mN44, mQ45, mK45, mN45, mQ62, mK62, mN62])
  exact loop n 0 (by omega) hd (fun i hi => absurd hi (Nat.not_lt_zero i))
set_option maxHeartbeats 2000000 in
/-- one card is taken -/
theorem l_togtake {d s a b i j w : Nat} {σ : zH} (hM : zMb σ) {mk : Int32} {P : Nat → List Nat} {out : List Nat} (ha : a < 4) (hb : b < 4) (hij : i + j = out.length) (h9 : (P a).length + (P b).length ≤ 9) {pl mn hd rs : Nat → Int32} (hR : zRR pl mn P) (hr : zHD rs out) (f : Bool) (hf : if f then i < (P a).length ∧ j ≤ (P b).length else j < (P b).length ∧ i ≤ (P a).length) {Q : Option Value → zH → Prop} (hQ : ∀ rs', zHD rs' (out ++ [if f then (P a).getD i 0 else (P b).getD j 0]) → zW (d + 1) 182 45 (ztl s a b (if f then i + 1 else i) (if f then j else j + 1) (P a).length (P b).length (out.length + 1) w) [] (zRa σ pl mn hd rs' mk) Q) : zW (d + 1) 182 158 (ztl s a b i j (P a).length (P b).length out.length w ++ [(12, .int (nI (zbn1 f)))]) [] (zRa σ pl mn hd rs mk) Q := by
  have ⟨mK0, mQ1, mK1, mN1, mQ6, mK6, mN6, mQ7, mK7, mN7, mQ8, mK8, mN8, mQ9, mK9, mN9, mQ10, mK10, mN10, mQ11, mK11, mN11, mQ21, mK21, mN21, mQ22, mK22, mN22, mQ23, mK23, mN23, mQ24, mK24, mN24, mQ25, mK25, mN25, mQ26, mK26, mN26, mQ27, mK27, mN27, mQ28, mK28, mN28, mQ32, mK32, mN32, mQ33, mK33, mN33, mQ34, mK34, mN34, mQ35, mK35, mN35, mQ40, mK40, mN40, mQ41, mK41, mN41, mQ42, mK42, mN42, mQ43, mK43, mN43, mQ44, mK44, mN44, mQ45, mK45, mN45, mQ62, mK62, mN62⟩ := hM
  obtain ⟨a1, a2, a3⟩ := hR a ha
  obtain ⟨b1, b2, b3⟩ := hR b hb
  refine b182_158 ?_
  cases f with
  | true =>
    simp only [if_true] at hf hQ
    have e1 := a3 i hf.1
    have hh := zHD_u hr ((P a).getD i 0)
    rw [show nI (zbn1 true) = nI 1 from rfl]
    (try simp (disch := omega) only [zh, zh_st, ↓reduceIte, Nat.add_left_cancel_iff, Nat.reduceEqDiff, Nat.add_sub_cancel, Nat.reduceAdd, Nat.reduceSub, Nat.reduceMul, ← nI_0, zu_same, zu_ne, zoi, zoi_m1, nI_add, pk_mul, pk_sub, zcl, nI_leI, nI_ltI, nI_eq, ite_not, reduceCtorEq, zqi_s, zql_s, zqv_s, true_and, and_true, vp_in_nI, not_true_eq_false, not_false_eq_true, or_true, true_or, or_false, false_or, and_self, zRa_k, zRa_r, zRa_pl, zRa_mn, zRa_hd, zRa_rs, zRa_mk, mK0, mQ1, mK1, mN1, mQ6, mK6, mN6, mQ7, mK7, mN7, mQ8, mK8, mN8, mQ9, mK9, mN9, mQ10, mK10, mN10, mQ11, mK11, mN11, mQ21, mK21, mN21, mQ22, mK22, mN22, mQ23, mK23, mN23, mQ24, mK24, mN24, mQ25, mK25, mN25, mQ26, mK26, mN26, mQ27, mK27, mN27, mQ28, mK28, mN28, mQ32, mK32, mN32, mQ33, mK33, mN33, mQ34, mK34, mN34, mQ35, mK35, mN35, mQ40, mK40, mN40, mQ41, mK41, mN41, mQ42, mK42, mN42, mQ43, mK43, mN43, mQ44, mK44, mN44, mQ45, mK45, mN45, mQ62, mK62, mN62, e1])
    exact hQ _ hh
  | false =>
    simp only [Bool.false_eq_true, if_false] at hf hQ
    have e1 := b3 j hf.1
    have hh := zHD_u hr ((P b).getD j 0)
    rw [show nI (zbn1 false) = nI 0 from rfl]
    (try simp (disch := omega) only [zh, zh_st, ↓reduceIte, Nat.add_left_cancel_iff, Nat.reduceEqDiff, Nat.add_sub_cancel, Nat.reduceAdd, Nat.reduceSub, Nat.reduceMul, ← nI_0, zu_same, zu_ne, zoi, zoi_m1, nI_add, pk_mul, pk_sub, zcl, nI_leI, nI_ltI, nI_eq, ite_not, reduceCtorEq, zqi_s, zql_s, zqv_s, true_and, and_true, vp_in_nI, not_true_eq_false, not_false_eq_true, or_true, true_or, or_false, false_or, and_self, zRa_k, zRa_r, zRa_pl, zRa_mn, zRa_hd, zRa_rs, zRa_mk, mK0, mQ1, mK1, mN1, mQ6, mK6, mN6, mQ7, mK7, mN7, mQ8, mK8, mN8, mQ9, mK9, mN9, mQ10, mK10, mN10, mQ11, mK11, mN11, mQ21, mK21, mN21, mQ22, mK22, mN22, mQ23, mK23, mN23, mQ24, mK24, mN24, mQ25, mK25, mN25, mQ26, mK26, mN26, mQ27, mK27, mN27, mQ28, mK28, mN28, mQ32, mK32, mN32, mQ33, mK33, mN33, mQ34, mK34, mN34, mQ35, mK35, mN35, mQ40, mK40, mN40, mQ41, mK41, mN41, mQ42, mK42, mN42, mQ43, mK43, mN43, mQ44, mK44, mN44, mQ45, mK45, mN45, mQ62, mK62, mN62, e1])
    exact hQ _ hh
