set_option maxHeartbeats 4000000 in
theorem l_rrif {d s a b g h : Nat} {σ : zH} (hM : zMb σ) (hs : s < 96) (hS : zRs σ s 6 a b g h) {mk : Int32} {P : Nat → List Nat} (ha : a < 4) (hb : b < 4) (hg : g < 4) (hab : a ≠ b) (ht : zTot P ≤ 9) {OUT : List Nat} {Q : Option Value → zH → Prop} (hQ : ∀ pl' mn' hd' rs', zRR pl' mn' (zu (zu (zu P a []) b []) g (OUT ++ zu (zu P a []) b [] g)) → Q none (zRa σ pl' mn' hd' rs' mk)) {pl mn hd : Nat → Int32} (hR : zRR pl mn P) : ∀ (m i j w : Nat) (out : List Nat) (rs : Nat → Int32), i + j + m = (P a).length + (P b).length → i ≤ (P a).length → j ≤ (P b).length → i + j = out.length → zHD rs out → w < zbn ((P a).length - i) ((P b).length - j) → out ++ zrf m w ((P a).drop i) ((P b).drop j) = OUT → zW (d + 1) 182 45 (ztl s a b i j (P a).length (P b).length out.length w) [] (zRa σ pl mn hd rs mk) Q := by
  have ⟨mK0, mQ1, mK1, mN1, mQ6, mK6, mN6, mQ7, mK7, mN7, mQ8, mK8, mN8, mQ9, mK9, mN9, mQ10, mK10, mN10, mQ11, mK11, mN11, mQ21, mK21, mN21, mQ22, mK22, mN22, mQ23, mK23, mN23, mQ24, mK24, mN24, mQ25, mK25, mN25, mQ26, mK26, mN26, mQ27, mK27, mN27, mQ28, mK28, mN28, mQ32, mK32, mN32, mQ33, mK33, mN33, mQ34, mK34, mN34, mQ35, mK35, mN35, mQ40, mK40, mN40, mQ41, mK41, mN41, mQ42, mK42, mN42, mQ43, mK43, mN43, mQ44, mK44, mN44, mQ45, mK45, mN45, mQ62, mK62, mN62⟩ := hM
  obtain ⟨s1, s2, s3, s4, s5⟩ := hS
  have h2 := zTot_le2 (P := P) ha hb hab
  intro m
  induction m with
  | zero =>
    intro i j w out rs hm hi hj hij hr hw hO
    have e1 : i = (P a).length := by omega
    have e2 : j = (P b).length := by omega
    rw [zrf, List.append_nil] at hO
    subst hO
    rw [e1, e2]
    exact l_togend hM hs (s4 (by decide)) ha hb hg hab rfl (by omega) ht hQ hR hr w
  | succ m ih =>
    intro i j w out rs hm hi hj hij hr hw hO
    -- behind the choice
    have go : ∀ (f : Bool) (w' : Nat), (if f then i < (P a).length ∧ j ≤ (P b).length else j < (P b).length ∧ i ≤ (P a).length) → w' < zbn ((P a).length - (if f then i + 1 else i)) ((P b).length - (if f then j else j + 1)) → zrf (m + 1) w ((P a).drop i) ((P b).drop j) = (if f then (P a).getD i 0 else (P b).getD j 0) :: zrf m w' ((P a).drop (if f then i + 1 else i)) ((P b).drop (if f then j else j + 1)) → zW (d + 1) 182 158 (ztl s a b i j (P a).length (P b).length out.length w' ++ [(12, .int (nI (zbn1 f)))]) [] (zRa σ pl mn hd rs mk) Q := by
      intro f w' hf hw' hz
      refine l_togtake hM ha hb hij (by omega) hR hr f hf (fun rs' hr' => ?_)
      have hl : (out ++ [if f then (P a).getD i 0 else (P b).getD j 0]).length = out.length + 1 := by simp
      rw [← hl]
      refine ih _ _ w' _ rs' ?_ ?_ ?_ (by rw [hl]; cases f <;> simp <;> omega) hr' hw' ?_
      · cases f <;> simp <;> omega
      · cases f <;> simp at hf ⊢ <;> omega
      · cases f <;> simp at hf ⊢ <;> omega
      · rw [← hO, hz, List.append_assoc]; rfl
    have at129 : ∀ v, (v ≤ w → w - v < zbn ((P a).length - i) ((P b).length - (j + 1)) ∧ j < (P b).length ∧ zrf (m + 1) w ((P a).drop i) ((P b).drop j) = (P b).getD j 0 :: zrf m (w - v) ((P a).drop i) ((P b).drop (j + 1))) → (w < v → w < zbn ((P a).length - (i + 1)) ((P b).length - j) ∧ i < (P a).length ∧ zrf (m + 1) w ((P a).drop i) ((P b).drop j) = (P a).getD i 0 :: zrf m w ((P a).drop (i + 1)) ((P b).drop j)) → v < 2 ^ 30 → w < 2 ^ 30 → zW (d + 1) 182 129 (ztl s a b i j (P a).length (P b).length out.length w) [.long (lN v)] (zRa σ pl mn hd rs mk) Q := by
      intro v h1 h2 hv hw2
      refine b182_129 ?_
      by_cases hwv : w < v
      · have e : ¬ (0 ≤ lg_cmp (lN w) (lN v)) := fun q => by
          have := (pk_lLE (by omega) (by omega)).mp ((lg_cmp_ge _ _).mp q); omega
        rw [if_neg e, if_pos (by decide)]
        obtain ⟨g1, g2, g3⟩ := h2 hwv
        exact go true w ⟨g2, hj⟩ g1 g3
      · have e : 0 ≤ lg_cmp (lN w) (lN v) := (lg_cmp_ge _ _).mpr ((pk_lLE (by omega) (by omega)).mpr (by omega))
        rw [if_pos e, if_neg (by decide), lN_sub (by omega)]
        obtain ⟨g1, g2, g3⟩ := h1 (by omega)
        exact go false (w - v) ⟨g2, hi⟩ g1 g3
    have to59 : zW (d + 1) 182 59 (ztl s a b i j (P a).length (P b).length out.length w) [] (zRa σ pl mn hd rs mk) Q := by
      have hlg : ¬ (lg_cmp (lN (zwdn 6)) (lN 1717662319) = 0) := fun q => by
        have := (zlgw (a := 6) 7 (by decide) (by decide)).mp q
        omega
      refine b182_59 ?_
      (try simp (disch := omega) only [zh, zh_st, ↓reduceIte, Nat.add_left_cancel_iff, Nat.reduceEqDiff, Nat.add_sub_cancel, Nat.reduceAdd, Nat.reduceSub, Nat.reduceMul, ← nI_0, zu_same, zu_ne, zoi, zoi_m1, nI_add, pk_mul, pk_sub, zcl, nI_leI, nI_ltI, nI_eq, ite_not, reduceCtorEq, zqi_s, zql_s, zqv_s, true_and, and_true, vp_in_nI, not_true_eq_false, not_false_eq_true, or_true, true_or, or_false, false_or, and_self, zRa_k, zRa_r, zRa_pl, zRa_mn, zRa_hd, zRa_rs, zRa_mk, mK0, mQ1, mK1, mN1, mQ6, mK6, mN6, mQ7, mK7, mN7, mQ8, mK8, mN8, mQ9, mK9, mN9, mQ10, mK10, mN10, mQ11, mK11, mN11, mQ21, mK21, mN21, mQ22, mK22, mN22, mQ23, mK23, mN23, mQ24, mK24, mN24, mQ25, mK25, mN25, mQ26, mK26, mN26, mQ27, mK27, mN27, mQ28, mK28, mN28, mQ32, mK32, mN32, mQ33, mK33, mN33, mQ34, mK34, mN34, mQ35, mK35, mN35, mQ40, mK40, mN40, mQ41, mK41, mN41, mQ42, mK42, mN42, mQ43, mK43, mN43, mQ44, mK44, mN44, mQ45, mK45, mN45, mQ62, mK62, mN62, s1])
      rw [← nI_0] at hlg
      rw [if_neg hlg]
      by_cases hia : (P a).length ≤ i
      · rw [if_pos hia]
        have e1 : (P a).drop i = [] := List.drop_eq_nil_of_le hia
        have hz0 := (zbn_0 ((P b).length - j) (by omega)).1
        have hz1 := (zbn_0 ((P b).length - (j + 1)) (by omega)).1
        rw [show (P a).length - i = 0 by omega] at hw at129
        rw [hz0] at hw
        refine at129 0 (fun _ => ⟨by rw [hz1]; omega, by omega, ?_⟩) (fun q => absurd q (by omega)) (by omega) (by omega)
        rw [e1, zgd_drop (by omega : j < (P b).length), zrf, show w - 0 = w from rfl]
      · rw [if_neg hia]
        refine e_ways (by omega) ?_
        rw [zql_s]
        have hbl := zbn_le ((P a).length - i - 1) (by omega) ((P b).length - j) (by omega)
        have hbl2 := zbn_le ((P a).length - i) (by omega) ((P b).length - j) (by omega)
        by_cases hjb : (P b).length ≤ j
        · have e2 : (P b).drop j = [] := List.drop_eq_nil_of_le hjb
          have hz0 := (zbn_0 ((P a).length - i) (by omega)).2
          have hz1 := (zbn_0 ((P a).length - (i + 1)) (by omega)).2
          rw [show (P b).length - j = 0 by omega] at hw at129 ⊢
          rw [show (P a).length - i - 1 = (P a).length - (i + 1) by omega, hz1]
          rw [hz0] at hw
          refine at129 1 (fun q => absurd q (by omega)) (fun _ => ⟨by rw [hz1]; omega, by omega, ?_⟩) (by omega) (by omega)
          rw [e2, zgd_drop (by omega : i < (P a).length), zrf]
        · have hpas := zbn_p ((P a).length - i - 1) (by omega) ((P b).length - j - 1) (by omega) (by omega)
          rw [show (P a).length - i - 1 + 1 = (P a).length - i by omega, show (P b).length - j - 1 + 1 = (P b).length - j by omega] at hpas
          have hzr : zrf (m + 1) w ((P a).drop i) ((P b).drop j) = if w < zbn ((P a).length - i - 1) ((P b).length - j) then (P a).getD i 0 :: zrf m w ((P a).drop (i + 1)) ((P b).drop j) else (P b).getD j 0 :: zrf m (w - zbn ((P a).length - i - 1) ((P b).length - j)) ((P a).drop i) ((P b).drop (j + 1)) := by
            rw [zgd_drop (by omega : i < (P a).length), zgd_drop (by omega : j < (P b).length), zrf, List.length_drop, List.length_drop, show (P a).length - (i + 1) = (P a).length - i - 1 by omega, show (P b).length - (j + 1) + 1 = (P b).length - j by omega]
          refine at129 _ (fun q => ⟨?_, by omega, ?_⟩) (fun q => ⟨?_, by omega, ?_⟩) (by omega) (by omega)
          · rw [show (P b).length - (j + 1) = (P b).length - j - 1 by omega]; omega
          · rw [hzr, if_neg (by omega)]
          · rw [show (P a).length - (i + 1) = (P a).length - i - 1 by omega]; exact q
          · rw [hzr, if_pos q]
    refine b182_45 ?_
    (try simp (disch := omega) only [zh, zh_st, ↓reduceIte, Nat.add_left_cancel_iff, Nat.reduceEqDiff, Nat.add_sub_cancel, Nat.reduceAdd, Nat.reduceSub, Nat.reduceMul, ← nI_0, zu_same, zu_ne, zoi, zoi_m1, nI_add, pk_mul, pk_sub, zcl, nI_leI, nI_ltI, nI_eq, ite_not, reduceCtorEq, zqi_s, zql_s, zqv_s, true_and, and_true, vp_in_nI, not_true_eq_false, not_false_eq_true, or_true, true_or, or_false, false_or, and_self, ])
    by_cases hia : i < (P a).length
    · rw [if_pos hia]; exact to59
    · rw [if_neg hia, if_neg (by omega)]; exact to59

set_option maxHeartbeats 4000000 in
theorem l_rfar {d s a b g h w : Nat} {σ : zH} (hM : zMb σ) (hs : s < 96) (hS : zRs σ s 7 a b g h) {mk : Int32} {P : Nat → List Nat} (ha : a < 4) (hb : b < 4) (hg : g < 4) (hab : a ≠ b) (ht : zTot P ≤ 9) {OUT : List Nat} {Q : Option Value → zH → Prop} (hQ : ∀ pl' mn' hd' rs', zRR pl' mn' (zu (zu (zu P a []) b []) g (OUT ++ zu (zu P a []) b [] g)) → Q none (zRa σ pl' mn' hd' rs' mk)) {pl mn hd : Nat → Int32} (hR : zRR pl mn P) : ∀ (m i j : Nat) (ft : Bool) (out : List Nat) (rs : Nat → Int32), i + j + m = (P a).length + (P b).length → i ≤ (P a).length → j ≤ (P b).length → i + j = out.length → zHD rs out → (i < (P a).length → j < (P b).length → (if ft then i = j else i = j + 1)) → out ++ zfa m ft ((P a).drop i) ((P b).drop j) = OUT → zW (d + 1) 182 45 (ztl s a b i j (P a).length (P b).length out.length w) [] (zRa σ pl mn hd rs mk) Q := by
  have ⟨mK0, mQ1, mK1, mN1, mQ6, mK6, mN6, mQ7, mK7, mN7, mQ8, mK8, mN8, mQ9, mK9, mN9, mQ10, mK10, mN10, mQ11, mK11, mN11, mQ21, mK21, mN21, mQ22, mK22, mN22, mQ23, mK23, mN23, mQ24, mK24, mN24, mQ25, mK25, mN25, mQ26, mK26, mN26, mQ27, mK27, mN27, mQ28, mK28, mN28, mQ32, mK32, mN32, mQ33, mK33, mN33, mQ34, mK34, mN34, mQ35, mK35, mN35, mQ40, mK40, mN40, mQ41, mK41, mN41, mQ42, mK42, mN42, mQ43, mK43, mN43, mQ44, mK44, mN44, mQ45, mK45, mN45, mQ62, mK62, mN62⟩ := hM
  obtain ⟨s1, s2, s3, s4, s5⟩ := hS
  have h2 := zTot_le2 (P := P) ha hb hab
  intro m
  induction m with
  | zero =>
    intro i j ft out rs hm hi hj hij hr hft hO
    have e1 : i = (P a).length := by omega
    have e2 : j = (P b).length := by omega
    rw [zfa, List.append_nil] at hO
    subst hO
    rw [e1, e2]
    exact l_togend hM hs (s4 (by decide)) ha hb hg hab rfl (by omega) ht hQ hR hr w
  | succ m ih =>
    intro i j ft out rs hm hi hj hij hr hft hO
    have go : ∀ (f : Bool), (if f then i < (P a).length ∧ j ≤ (P b).length else j < (P b).length ∧ i ≤ (P a).length) → (i < (P a).length → j < (P b).length → f = ft) → zfa (m + 1) ft ((P a).drop i) ((P b).drop j) = (if f then (P a).getD i 0 else (P b).getD j 0) :: zfa m (!ft) ((P a).drop (if f then i + 1 else i)) ((P b).drop (if f then j else j + 1)) → zW (d + 1) 182 158 (ztl s a b i j (P a).length (P b).length out.length w ++ [(12, .int (nI (zbn1 f)))]) [] (zRa σ pl mn hd rs mk) Q := by
      intro f hf hff hz
      refine l_togtake hM ha hb hij (by omega) hR hr f hf (fun rs' hr' => ?_)
      have hl : (out ++ [if f then (P a).getD i 0 else (P b).getD j 0]).length = out.length + 1 := by simp
      rw [← hl]
      refine ih _ _ (!ft) _ rs' ?_ ?_ ?_ (by rw [hl]; cases f <;> simp <;> omega) hr' ?_ ?_
      · cases f <;> simp <;> omega
      · cases f <;> simp at hf ⊢ <;> omega
      · cases f <;> simp at hf ⊢ <;> omega
      · intro g1 g2
        have g1' : i < (P a).length := by cases f <;> simp at g1 <;> omega
        have g2' : j < (P b).length := by cases f <;> simp at g2 <;> omega
        have e := hff g1' g2'
        have e2 := hft g1' g2'
        subst e
        cases f <;> simp at e2 ⊢ <;> omega
      · rw [← hO, hz, List.append_assoc]; rfl
    have to59 : zW (d + 1) 182 59 (ztl s a b i j (P a).length (P b).length out.length w) [] (zRa σ pl mn hd rs mk) Q := by
      have hlg : lg_cmp (lN (zwdn 7)) (lN 1717662319) = 0 := (zlgw (a := 7) 7 (by decide) (by decide)).mpr rfl
      refine b182_59 ?_
      (try simp (disch := omega) only [zh, zh_st, ↓reduceIte, Nat.add_left_cancel_iff, Nat.reduceEqDiff, Nat.add_sub_cancel, Nat.reduceAdd, Nat.reduceSub, Nat.reduceMul, ← nI_0, zu_same, zu_ne, zoi, zoi_m1, nI_add, pk_mul, pk_sub, zcl, nI_leI, nI_ltI, nI_eq, ite_not, reduceCtorEq, zqi_s, zql_s, zqv_s, true_and, and_true, vp_in_nI, not_true_eq_false, not_false_eq_true, or_true, true_or, or_false, false_or, and_self, zRa_k, zRa_r, zRa_pl, zRa_mn, zRa_hd, zRa_rs, zRa_mk, mK0, mQ1, mK1, mN1, mQ6, mK6, mN6, mQ7, mK7, mN7, mQ8, mK8, mN8, mQ9, mK9, mN9, mQ10, mK10, mN10, mQ11, mK11, mN11, mQ21, mK21, mN21, mQ22, mK22, mN22, mQ23, mK23, mN23, mQ24, mK24, mN24, mQ25, mK25, mN25, mQ26, mK26, mN26, mQ27, mK27, mN27, mQ28, mK28, mN28, mQ32, mK32, mN32, mQ33, mK33, mN33, mQ34, mK34, mN34, mQ35, mK35, mN35, mQ40, mK40, mN40, mQ41, mK41, mN41, mQ42, mK42, mN42, mQ43, mK43, mN43, mQ44, mK44, mN44, mQ45, mK45, mN45, mQ62, mK62, mN62, s1])
      rw [← nI_0] at hlg
      rw [if_pos hlg]
      by_cases hjb : j = (P b).length
      · rw [if_pos hjb]
        have e2 : (P b).drop j = [] := List.drop_eq_nil_of_le (by omega)
        refine go true ⟨by omega, hj⟩ (fun _ q => absurd q (by omega)) ?_
        simp only [if_true]
        rw [e2, zgd_drop (by omega : i < (P a).length), zfa]
      · rw [if_neg hjb]
        by_cases hia : (P a).length ≤ i
        · rw [if_pos hia]
          have e1 : (P a).drop i = [] := List.drop_eq_nil_of_le hia
          refine go false ⟨by omega, hi⟩ (fun q _ => absurd q (by omega)) ?_
          simp only [Bool.false_eq_true, if_false]
          rw [e1, zgd_drop (by omega : j < (P b).length), zfa]
        · rw [if_neg hia]
          have e2 := hft (by omega) (by omega)
          cases ft with
          | true =>
            simp only [if_true] at e2
            rw [if_neg (by omega)]
            refine go true ⟨by omega, hj⟩ (fun _ _ => rfl) ?_
            simp only [if_true]
            rw [zgd_drop (by omega : i < (P a).length), zgd_drop (by omega : j < (P b).length), zfa]
            rfl
          | false =>
            simp only [Bool.false_eq_true, if_false] at e2
            rw [if_pos (by omega)]
            refine go false ⟨by omega, hi⟩ (fun _ _ => rfl) ?_
            simp only [Bool.false_eq_true, if_false]
            rw [zgd_drop (by omega : i < (P a).length), zgd_drop (by omega : j < (P b).length), zfa]
            rfl
    refine b182_45 ?_
    (try simp (disch := omega) only [zh, zh_st, ↓reduceIte, Nat.add_left_cancel_iff, Nat.reduceEqDiff, Nat.add_sub_cancel, Nat.reduceAdd, Nat.reduceSub, Nat.reduceMul, ← nI_0, zu_same, zu_ne, zoi, zoi_m1, nI_add, pk_mul, pk_sub, zcl, nI_leI, nI_ltI, nI_eq, ite_not, reduceCtorEq, zqi_s, zql_s, zqv_s, true_and, and_true, vp_in_nI, not_true_eq_false, not_false_eq_true, or_true, true_or, or_false, false_or, and_self, ])
    by_cases hia : i < (P a).length
    · rw [if_pos hia]; exact to59
    · rw [if_neg hia, if_neg (by omega)]; exact to59
set_option maxHeartbeats 2000000 in
/-- together -/
theorem e_tog {d s w a b g h c : Nat} {σ : zH} (hM : zMb σ) (hs : s < 96) (hw : w = 6 ∨ w = 7) (hS : zRs σ s w a b g h) {mk : Int32} {P : Nat → List Nat} (ha : a < 4) (hb : b < 4) (hg : g < 4) (hab : a ≠ b) (ht : zTot P ≤ 9) (hc : w = 6 → c < zbn (P a).length (P b).length) (hc2 : c < 2 ^ 30) {Q : Option Value → zH → Prop} {pl mn hd rs : Nat → Int32} (hR : zRR pl mn P) (hQ : ∀ pl' mn' hd' rs', zRR pl' mn' (zu (zu (zu P a []) b []) g ((if w = 6 then zrf ((P a).length + (P b).length) c (P a) (P b) else zfa ((P a).length + (P b).length) true (P a) (P b)) ++ zu (zu P a []) b [] g)) → Q none (zRa σ pl' mn' hd' rs' mk)) : zM (d + 1) 182 [.ref 160, .int (nI s), .int (nI c)] (zRa σ pl mn hd rs mk) Q := by
  have ⟨mK0, mQ1, mK1, mN1, mQ6, mK6, mN6, mQ7, mK7, mN7, mQ8, mK8, mN8, mQ9, mK9, mN9, mQ10, mK10, mN10, mQ11, mK11, mN11, mQ21, mK21, mN21, mQ22, mK22, mN22, mQ23, mK23, mN23, mQ24, mK24, mN24, mQ25, mK25, mN25, mQ26, mK26, mN26, mQ27, mK27, mN27, mQ28, mK28, mN28, mQ32, mK32, mN32, mQ33, mK33, mN33, mQ34, mK34, mN34, mQ35, mK35, mN35, mQ40, mK40, mN40, mQ41, mK41, mN41, mQ42, mK42, mN42, mQ43, mK43, mN43, mQ44, mK44, mN44, mQ45, mK45, mN45, mQ62, mK62, mN62⟩ := hM
  have hS' := hS
  obtain ⟨s1, s2, s3, s4, s5⟩ := hS
  have s3' := s3 (by omega)
  obtain ⟨a1, a2, a3⟩ := hR a ha
  obtain ⟨b1, b2, b3⟩ := hR b hb
  refine b182 ?_
  (try simp (disch := omega) only [zh, zh_st, ↓reduceIte, Nat.add_left_cancel_iff, Nat.reduceEqDiff, Nat.add_sub_cancel, Nat.reduceAdd, Nat.reduceSub, Nat.reduceMul, ← nI_0, zu_same, zu_ne, zoi, zoi_m1, nI_add, pk_mul, pk_sub, zcl, nI_leI, nI_ltI, nI_eq, ite_not, reduceCtorEq, zqi_s, zql_s, zqv_s, true_and, and_true, vp_in_nI, if_pos, if_neg, not_true_eq_false, not_false_eq_true, or_true, true_or, or_false, false_or, and_self, zRa_k, zRa_r, zRa_pl, zRa_mn, zRa_hd, zRa_rs, zRa_mk, mK0, mQ1, mK1, mN1, mQ6, mK6, mN6, mQ7, mK7, mN7, mQ8, mK8, mN8, mQ9, mK9, mN9, mQ10, mK10, mN10, mQ11, mK11, mN11, mQ21, mK21, mN21, mQ22, mK22, mN22, mQ23, mK23, mN23, mQ24, mK24, mN24, mQ25, mK25, mN25, mQ26, mK26, mN26, mQ27, mK27, mN27, mQ28, mK28, mN28, mQ32, mK32, mN32, mQ33, mK33, mN33, mQ34, mK34, mN34, mQ35, mK35, mN35, mQ40, mK40, mN40, mQ41, mK41, mN41, mQ42, mK42, mN42, mQ43, mK43, mN43, mQ44, mK44, mN44, mQ45, mK45, mN45, mQ62, mK62, mN62, zRa_oA, s2, s3', a1, b1, nI_l])
  rcases hw with rfl | rfl
  · rw [if_pos rfl] at hQ
    exact l_rrif hM hs hS' ha hb hg hab ht hQ hR _ 0 0 c [] rs (by rw [Nat.zero_add]) (by omega) (by omega) rfl (fun i hi => absurd hi (Nat.not_lt_zero i)) (hc rfl) rfl
  · rw [if_neg (by decide)] at hQ
    exact l_rfar hM hs hS' ha hb hg hab ht hQ hR _ 0 0 true [] rs (by rw [Nat.zero_add]) (by omega) (by omega) rfl (fun i hi => absurd hi (Nat.not_lt_zero i)) (fun _ _ => rfl) rfl
