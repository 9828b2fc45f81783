theorem zpr_le {D : zDT} (hb : zDb D) {k c : Nat} (h1 : 31 ≤ k) (h2 : k ≤ 33) : zpr D k c ≤ 13 := by
  unfold zpr
  have h := hb.1 (c % 16)
  rw [if_neg (by omega)]
  split
  · exact h.1
  · split
    · exact h.2.1
    · rw [if_pos (by omega)]
      exact h.2.2
set_option maxHeartbeats 1000000 in
theorem l_al {d t p n : Nat} {σ : zH} {D : zDT} (hT : zTb σ t) (ht : 8 < t) (hD : zDk σ D n) {ly hd sz : Nat → Int32} {mk : Int32} {P : Nat → List Nat} (hR : zTR ly sz P) (hp : p < 4) (h32 : ∀ c ∈ P p, zco c) {Q : Option Value → zH → Prop} {k v : Nat} (hb : zDb D) (h1 : 31 ≤ k) (h2 : k ≤ 33) (hv : v ≤ 13) : ∀ (m i : Nat), i + m = (P p).length ∨ (m = 0 ∧ (P p).length ≤ i) → i ≤ 10 → Q (some (.int (nI (zbn1 (zal (zpr D k) v ((P p).drop i)))))) (zTa σ t ly hd sz mk) → zW (d + 1) 64 18 [(0, .ref t), (1, .int (nI p)), (2, .int (nI k)), (3, .int (nI v)), (4, .int (nI (i + 1)))] [] (zTa σ t ly hd sz mk) Q := by
  have ⟨k0, k1, k2, k3, n1, n2, n3, q0, q1, q2, q3⟩ := hT
  have sp := (hR p hp).1
  have lp := (hR p hp).2.1
  intro m
  induction m with
  | zero =>
    intro i hi hi9 hQ
    rw [List.drop_eq_nil_of_le (by omega)] at hQ
    refine b64_18 ?_
    (try simp (disch := omega) only [zh, zh_st, ↓reduceIte, Nat.add_left_cancel_iff, Nat.reduceEqDiff, Nat.add_sub_cancel, Nat.reduceAdd, Nat.reduceSub, Nat.reduceMul, ← nI_0, zu_same, zu_ne, zoi, zoi_m1, nI_add, pk_mul, pk_sub, zcl, nI_leI, nI_ltI, nI_eq, ite_not, reduceCtorEq, zqi_s, zql_s, zqv_s, true_and, and_true, vp_in_nI, if_pos, if_neg, not_true_eq_false, not_false_eq_true, or_true, true_or, or_false, false_or, and_self, zTa_k, zTa_ly, zTa_hd, zTa_sz, zTa_mk, zTa_r, k0, k3, n3, q3, sp])
    exact hQ
  | succ m ih =>
    intro i hi hi9 hQ
    refine b64_18 ?_
    (try simp (disch := omega) only [zh, zh_st, ↓reduceIte, Nat.add_left_cancel_iff, Nat.reduceEqDiff, Nat.add_sub_cancel, Nat.reduceAdd, Nat.reduceSub, Nat.reduceMul, ← nI_0, zu_same, zu_ne, zoi, zoi_m1, nI_add, pk_mul, pk_sub, zcl, nI_leI, nI_ltI, nI_eq, ite_not, reduceCtorEq, zqi_s, zql_s, zqv_s, true_and, and_true, vp_in_nI, if_pos, if_neg, not_true_eq_false, not_false_eq_true, or_true, true_or, or_false, false_or, and_self, zTa_k, zTa_ly, zTa_hd, zTa_sz, zTa_mk, zTa_r, k0, k3, n3, q3, q0, sp])
    refine e_cp (F := fun x σ1 => if x = nI v then zW (d + 1) 64 18 [(0, .ref t), (1, .int (nI p)), (2, .int (nI k)), (3, .int (nI v)), (4, .int (nI (i + 1 + 1)))] [] σ1 Q else Q (some (.int (nI 0))) σ1) hT ht hD hR hp h32 (by omega) (by omega) (by omega) ?_
    rw [zgd_drop (by omega)] at hQ
    simp only [zal] at hQ
    have hle := zpr_le hb (c := (P p).getD i 0) h1 h2
    (try simp (disch := omega) only [zh, zh_st, ↓reduceIte, Nat.add_left_cancel_iff, Nat.reduceEqDiff, Nat.add_sub_cancel, Nat.reduceAdd, Nat.reduceSub, Nat.reduceMul, ← nI_0, zu_same, zu_ne, zoi, zoi_m1, nI_add, pk_mul, pk_sub, zcl, nI_leI, nI_ltI, nI_eq, ite_not, reduceCtorEq, zqi_s, zql_s, zqv_s, true_and, and_true, vp_in_nI, not_true_eq_false, not_false_eq_true, or_true, true_or, or_false, false_or, and_self, ])
    by_cases h : zpr D k ((P p).getD i 0) = v
    · rw [if_pos h] at hQ ⊢
      exact ih (i + 1) (by omega) (by omega) hQ
    · rw [if_neg h] at hQ ⊢
      exact hQ
theorem e_al {d t p n : Nat} {σ : zH} {D : zDT} (hT : zTb σ t) (ht : 8 < t) (hD : zDk σ D n) {ly hd sz : Nat → Int32} {mk : Int32} {P : Nat → List Nat} (hR : zTR ly sz P) (hp : p < 4) (h32 : ∀ c ∈ P p, zco c) {Q : Option Value → zH → Prop} {k : Nat} (hb : zDb D) (h1 : 31 ≤ k) (h2 : k ≤ 33) (hQ : Q (some (.int (nI (zbn1 (zal (zpr D k) (zpr D k ((P p).getD 0 0)) ((P p).drop 1)))))) (zTa σ t ly hd sz mk)) : zM (d + 1) 64 [.ref t, .int (nI p), .int (nI k)] (zTa σ t ly hd sz mk) Q := by
  have ⟨k0, k1, k2, k3, n1, n2, n3, q0, q1, q2, q3⟩ := hT
  have lp := (hR p hp).2.1
  refine b64 ?_
  (try simp (disch := omega) only [zh, zh_st, ↓reduceIte, Nat.add_left_cancel_iff, Nat.reduceEqDiff, Nat.add_sub_cancel, Nat.reduceAdd, Nat.reduceSub, Nat.reduceMul, ← nI_0, zu_same, zu_ne, zoi, zoi_m1, nI_add, pk_mul, pk_sub, zcl, nI_leI, nI_ltI, nI_eq, ite_not, reduceCtorEq, zqi_s, zql_s, zqv_s, true_and, and_true, vp_in_nI, if_pos, if_neg, not_true_eq_false, not_false_eq_true, or_true, true_or, or_false, false_or, and_self, zTa_k, zTa_ly, zTa_hd, zTa_sz, zTa_mk, zTa_r, k0, q0])
  refine e_cp (i := 0) hT ht hD hR hp h32 (by omega) (by omega) (by omega) ?_
  exact l_al hT ht hD hR hp h32 hb h1 h2 (zpr_le hb h1 h2) ((P p).length - 1) 1 (by omega) (by omega) hQ
set_option maxHeartbeats 1000000 in
theorem l_ri {d t p n : Nat} {σ : zH} {D : zDT} (hT : zTb σ t) (ht : 8 < t) (hD : zDk σ D n) {ly hd sz : Nat → Int32} {mk : Int32} {P : Nat → List Nat} (hR : zTR ly sz P) (hp : p < 4) (h32 : ∀ c ∈ P p, zco c) {Q : Option Value → zH → Prop} (hb : zDb D) : ∀ (m i : Nat), i + 1 + m = (P p).length ∨ (m = 0 ∧ (P p).length ≤ i + 1) → i ≤ 10 → Q (some (.int (nI (zbn1 (zris (zpr D 31) ((P p).getD i 0) ((P p).drop (i + 1))))))) (zTa σ t ly hd sz mk) → zW (d + 1) 66 2 [(0, .ref t), (1, .int (nI p)), (2, .int (nI (i + 1 + 1)))] [] (zTa σ t ly hd sz mk) Q := by
  have ⟨k0, k1, k2, k3, n1, n2, n3, q0, q1, q2, q3⟩ := hT
  have sp := (hR p hp).1
  have lp := (hR p hp).2.1
  intro m
  induction m with
  | zero =>
    intro i hi hi9 hQ
    rw [List.drop_eq_nil_of_le (by omega)] at hQ
    refine b66_2 ?_
    (try simp (disch := omega) only [zh, zh_st, ↓reduceIte, Nat.add_left_cancel_iff, Nat.reduceEqDiff, Nat.add_sub_cancel, Nat.reduceAdd, Nat.reduceSub, Nat.reduceMul, ← nI_0, zu_same, zu_ne, zoi, zoi_m1, nI_add, pk_mul, pk_sub, zcl, nI_leI, nI_ltI, nI_eq, ite_not, reduceCtorEq, zqi_s, zql_s, zqv_s, true_and, and_true, vp_in_nI, if_pos, if_neg, not_true_eq_false, not_false_eq_true, or_true, true_or, or_false, false_or, and_self, zTa_k, zTa_ly, zTa_hd, zTa_sz, zTa_mk, zTa_r, k0, k3, n3, q3, sp])
    exact hQ
  | succ m ih =>
    intro i hi hi9 hQ
    refine b66_2 ?_
    (try simp (disch := omega) only [zh, zh_st, ↓reduceIte, Nat.add_left_cancel_iff, Nat.reduceEqDiff, Nat.add_sub_cancel, Nat.reduceAdd, Nat.reduceSub, Nat.reduceMul, ← nI_0, zu_same, zu_ne, zoi, zoi_m1, nI_add, pk_mul, pk_sub, zcl, nI_leI, nI_ltI, nI_eq, ite_not, reduceCtorEq, zqi_s, zql_s, zqv_s, true_and, and_true, vp_in_nI, if_pos, if_neg, not_true_eq_false, not_false_eq_true, or_true, true_or, or_false, false_or, and_self, zTa_k, zTa_ly, zTa_hd, zTa_sz, zTa_mk, zTa_r, k0, k3, n3, q3, q0, sp])
    refine e_cp (i := i) (F := fun x σ1 => (zK σ1 t = 7) ∧ zM d 61 [.ref t, .int (nI p), .int (nI (i + 1 + 1))] σ1 (fun r σ111 => zqi r (fun x112 => (zK σ111 (zQ σ1 t 0) = 2) ∧ zM d 13 [.ref (zQ σ1 t 0), .int (nI 31), .int x112] σ111 (fun r σ114 => zqi r (fun x115 => (if x < x115 then zW (d + 1) 66 2 [(0, .ref t), (1, .int (nI p)), (2, .int (nI (i + 1 + 1 + 1)))] [] σ114 Q else Q (some (.int (nI 0))) σ114)))))) hT ht hD hR hp h32 (by omega) (by omega) (by omega) ?_
    have hle := zpr_le hb (k := 31) (c := (P p).getD i 0) (by omega) (by omega)
    have hle2 := zpr_le hb (k := 31) (c := (P p).getD (i + 1) 0) (by omega) (by omega)
    (try simp (disch := omega) only [zh, zh_st, ↓reduceIte, Nat.add_left_cancel_iff, Nat.reduceEqDiff, Nat.add_sub_cancel, Nat.reduceAdd, Nat.reduceSub, Nat.reduceMul, ← nI_0, zu_same, zu_ne, zoi, zoi_m1, nI_add, pk_mul, pk_sub, zcl, nI_leI, nI_ltI, nI_eq, ite_not, reduceCtorEq, zqi_s, zql_s, zqv_s, true_and, and_true, vp_in_nI, not_true_eq_false, not_false_eq_true, or_true, true_or, or_false, false_or, and_self, zTa_k, zTa_ly, zTa_hd, zTa_sz, zTa_mk, zTa_r, k0, q0])
    refine e_cp (i := i + 1) (F := fun x σ1 => if nI (zpr D 31 ((P p).getD i 0)) < x then zW (d + 1) 66 2 [(0, .ref t), (1, .int (nI p)), (2, .int (nI (i + 1 + 1 + 1)))] [] σ1 Q else Q (some (.int (nI 0))) σ1) hT ht hD hR hp h32 (by omega) (by omega) (by omega) ?_
    (try simp (disch := omega) only [zh, zh_st, ↓reduceIte, Nat.add_left_cancel_iff, Nat.reduceEqDiff, Nat.add_sub_cancel, Nat.reduceAdd, Nat.reduceSub, Nat.reduceMul, ← nI_0, zu_same, zu_ne, zoi, zoi_m1, nI_add, pk_mul, pk_sub, zcl, nI_leI, nI_ltI, nI_eq, ite_not, reduceCtorEq, zqi_s, zql_s, zqv_s, true_and, and_true, vp_in_nI, not_true_eq_false, not_false_eq_true, or_true, true_or, or_false, false_or, and_self, ])
    rw [zgd_drop (by omega)] at hQ
    simp only [zris] at hQ
    by_cases h : zpr D 31 ((P p).getD i 0) < zpr D 31 ((P p).getD (i + 1) 0)
    · rw [if_pos h] at hQ ⊢
      exact ih (i + 1) (by omega) (by omega) hQ
    · rw [if_neg h] at hQ ⊢
      exact hQ
theorem e_ri {d t p n : Nat} {σ : zH} {D : zDT} (hT : zTb σ t) (ht : 8 < t) (hD : zDk σ D n) {ly hd sz : Nat → Int32} {mk : Int32} {P : Nat → List Nat} (hR : zTR ly sz P) (hp : p < 4) (h32 : ∀ c ∈ P p, zco c) {Q : Option Value → zH → Prop} (hb : zDb D) (hQ : Q (some (.int (nI (zbn1 (zris (zpr D 31) ((P p).getD 0 0) ((P p).drop 1)))))) (zTa σ t ly hd sz mk)) : zM (d + 1) 66 [.ref t, .int (nI p)] (zTa σ t ly hd sz mk) Q := by
  have lp := (hR p hp).2.1
  refine b66 ?_
  exact l_ri hT ht hD hR hp h32 hb ((P p).length - 1) 0 (by omega) (by omega) hQ
/-! masks -/
theorem zIand {a b : Nat} (ha : a < 2 ^ 32) (hb : b < 2 ^ 32) : nI a &&& nI b = nI (a &&& b) := by
  apply Int32.toBitVec_inj.mp
  apply BitVec.eq_of_toNat_eq
  rw [Int32.toBitVec_and, BitVec.toNat_and, pk_tn ha, pk_tn hb, pk_tn (Nat.and_lt_two_pow _ hb)]
theorem zIor {a b : Nat} (ha : a < 2 ^ 32) (hb : b < 2 ^ 32) : nI a ||| nI b = nI (a ||| b) := by
  apply Int32.toBitVec_inj.mp
  apply BitVec.eq_of_toNat_eq
  rw [Int32.toBitVec_or, BitVec.toNat_or, pk_tn ha, pk_tn hb, pk_tn (Nat.or_lt_two_pow ha hb)]
theorem zIsh : ∀ x, x < 31 → nI 1 <<< (nI x &&& 31) = nI (2 ^ x) := by decide +kernel
def zmask : List Nat → Nat
  | [] => 0
  | x :: l => zmask l ||| 2 ^ x
theorem zmask_t (l : List Nat) (x : Nat) : (zmask l).testBit x = l.contains x := by
  induction l with
  | nil => simp [zmask]
  | cons a l ih =>
    rw [zmask, Nat.testBit_or, ih, Nat.testBit_two_pow, List.contains_cons, Bool.or_comm]
    congr 1
    by_cases h : x = a
    · subst h; simp
    · rw [decide_eq_false (fun q => h q.symm)]
      exact (beq_eq_false_iff_ne.mpr h).symm
theorem zmask_lt {l : List Nat} {b : Nat} (h : ∀ x ∈ l, x < b) : zmask l < 2 ^ b := by
  induction l with
  | nil => exact Nat.two_pow_pos b
  | cons a l ih =>
    rw [zmask]
    exact Nat.or_lt_two_pow (ih (fun x hx => h x (by simp [hx]))) (Nat.pow_lt_pow_right (by decide) (h a (by simp)))
theorem zmask_z (l : List Nat) (x : Nat) : (zmask l &&& 2 ^ x = 0) ↔ l.contains x = false := by
  rw [← zmask_t]
  constructor
  · intro h
    have h2 := congrArg (fun z => Nat.testBit z x) h
    simpa [Nat.testBit_two_pow] using h2
  · intro h
    apply Nat.eq_of_testBit_eq
    intro i
    rw [Nat.testBit_and, Nat.testBit_two_pow, Nat.zero_testBit]
    by_cases hi : x = i
    · subst hi; rw [h]; rfl
    · simp [hi]
set_option maxHeartbeats 2000000 in
theorem l_ea {d t p n : Nat} {σ : zH} {D : zDT} (hT : zTb σ t) (ht : 8 < t) (hD : zDk σ D n) {ly hd sz : Nat → Int32} {mk : Int32} {P : Nat → List Nat} (hR : zTR ly sz P) (hp : p < 4) (h32 : ∀ c ∈ P p, zco c) {Q : Option Value → zH → Prop} {k g : Nat} (hb : zDb D) (h1 : 31 ≤ k) (h2 : k ≤ 33) (hg : g ≤ 9) (hg2 : 1 ≤ g) : ∀ (m i : Nat), i + m = (P p).length → ∀ (pre : List Nat), pre.length < g → (∀ x ∈ pre, x < 14) → Q (some (.int (nI (zbn1 (zea (zpr D k) g pre ((P p).drop i)))))) (zTa σ t ly hd sz mk) → zW (d + 1) 65 12 [(0, .ref t), (1, .int (nI p)), (2, .int (nI k)), (3, .int (nI g)), (4, .int (nI (zmask pre))), (5, .int (nI pre.length)), (6, .int (nI (zbn1 (zdupf pre)))), (7, .int (nI (i + 1)))] [] (zTa σ t ly hd sz mk) Q := by
  have ⟨k0, k1, k2, k3, n1, n2, n3, q0, q1, q2, q3⟩ := hT
  have sp := (hR p hp).1
  have lp := (hR p hp).2.1
  intro m
  induction m with
  | zero =>
    intro i hi pre hpre h14 hQ
    rw [List.drop_eq_nil_of_le (by omega)] at hQ
    refine b65_12 ?_
    (try simp (disch := omega) only [zh, zh_st, ↓reduceIte, Nat.add_left_cancel_iff, Nat.reduceEqDiff, Nat.add_sub_cancel, Nat.reduceAdd, Nat.reduceSub, Nat.reduceMul, ← nI_0, zu_same, zu_ne, zoi, zoi_m1, nI_add, pk_mul, pk_sub, zcl, nI_leI, nI_ltI, nI_eq, ite_not, reduceCtorEq, zqi_s, zql_s, zqv_s, true_and, and_true, vp_in_nI, if_pos, if_neg, not_true_eq_false, not_false_eq_true, or_true, true_or, or_false, false_or, and_self, zTa_k, zTa_ly, zTa_hd, zTa_sz, zTa_mk, zTa_r, k0, k3, n3, q3, sp])
    exact hQ
  | succ m ih =>
    intro i hi pre hpre h14 hQ
    have hle := zpr_le hb (k := k) (c := (P p).getD i 0) h1 h2
    rw [zgd_drop (by omega)] at hQ
    simp only [zea] at hQ
    have hml := zmask_lt h14
    have hm2 : ∀ x ∈ zpr D k ((P p).getD i 0) :: pre, x < 14 := by
      intro x hx
      rcases List.mem_cons.mp hx with rfl | hx
      · omega
      · exact h14 x hx
    have h2x : 2 ^ zpr D k ((P p).getD i 0) ≤ 2 ^ 13 := Nat.pow_le_pow_right (by decide) hle
    have hxl : zmask pre &&& 2 ^ zpr D k ((P p).getD i 0) < 2 ^ 14 := Nat.and_lt_two_pow _ (by omega)
    have go : ∀ (b : Bool), b = zdupf (zpr D k ((P p).getD i 0) :: pre) → (if nI (pre.length + 1) = nI g then (if nI (zbn1 b) = 0 then zW (d + 1) 65 12 [(0, .ref t), (1, .int (nI p)), (2, .int (nI k)), (3, .int (nI g)), (4, .int (nI 0)), (5, .int (nI 0)), (6, .int (nI (zbn1 b))), (7, .int (nI (i + 1 + 1)))] [] (zTa σ t ly hd sz mk) Q else Q (some (.int (nI 0))) (zTa σ t ly hd sz mk)) else zW (d + 1) 65 12 [(0, .ref t), (1, .int (nI p)), (2, .int (nI k)), (3, .int (nI g)), (4, .int (nI (zmask pre) ||| nI (2 ^ zpr D k ((P p).getD i 0)))), (5, .int (nI (pre.length + 1))), (6, .int (nI (zbn1 b))), (7, .int (nI (i + 1 + 1)))] [] (zTa σ t ly hd sz mk) Q) := by
      intro b hb'
      rw [← hb'] at hQ
      by_cases hl : pre.length + 1 = g
      · rw [if_pos hl] at hQ
        rw [if_pos (by rw [hl])]
        cases b with
        | true => rw [if_neg (by decide)]; exact hQ
        | false =>
          rw [if_pos (by decide)]
          exact ih (i + 1) (by omega) [] (by simp; omega) (by simp) hQ
      · rw [if_neg hl] at hQ
        rw [if_neg (fun q => hl ((nI_eq (by omega) (by omega)).mp q)), zIor (by omega) (by omega), hb']
        exact ih (i + 1) (by omega) (zpr D k ((P p).getD i 0) :: pre) (by simp; omega) hm2 hQ
    refine b65_12 ?_
    (try simp (disch := omega) only [zh, zh_st, ↓reduceIte, Nat.add_left_cancel_iff, Nat.reduceEqDiff, Nat.add_sub_cancel, Nat.reduceAdd, Nat.reduceSub, Nat.reduceMul, ← nI_0, zu_same, zu_ne, zoi, zoi_m1, nI_add, pk_mul, pk_sub, zcl, nI_leI, nI_ltI, nI_eq, ite_not, reduceCtorEq, zqi_s, zql_s, zqv_s, true_and, and_true, vp_in_nI, if_pos, if_neg, not_true_eq_false, not_false_eq_true, or_true, true_or, or_false, false_or, and_self, zTa_k, zTa_ly, zTa_hd, zTa_sz, zTa_mk, zTa_r, k0, k3, n3, q3, q0, sp])
    refine e_cp (i := i) hT ht hD hR hp h32 (by omega) (by omega) (by omega) ?_
    have hsh := zIsh (zpr D k ((P p).getD i 0)) (by omega)
    cases hdp : zdupf pre with
    | true =>
      have g1 := go true (by rw [zdupf, hdp, Bool.or_true])
      (try simp (disch := omega) only [zh, zh_st, ↓reduceIte, Nat.add_left_cancel_iff, Nat.reduceEqDiff, Nat.add_sub_cancel, Nat.reduceAdd, Nat.reduceSub, Nat.reduceMul, ← nI_0, zu_same, zu_ne, zoi, zoi_m1, nI_add, pk_mul, pk_sub, zcl, nI_leI, nI_ltI, nI_eq, ite_not, reduceCtorEq, zqi_s, zql_s, zqv_s, true_and, and_true, vp_in_nI, not_true_eq_false, not_false_eq_true, or_true, true_or, or_false, false_or, and_self, zbn1, hsh, Nat.reduceEqDiff, Nat.reduceLT])
      refine b65_60 ?_
      (try simp (disch := omega) only [zh, zh_st, ↓reduceIte, Nat.add_left_cancel_iff, Nat.reduceEqDiff, Nat.add_sub_cancel, Nat.reduceAdd, Nat.reduceSub, Nat.reduceMul, ← nI_0, zu_same, zu_ne, zoi, zoi_m1, nI_add, pk_mul, pk_sub, zcl, nI_leI, nI_ltI, nI_eq, ite_not, reduceCtorEq, zqi_s, zql_s, zqv_s, true_and, and_true, vp_in_nI, not_true_eq_false, not_false_eq_true, or_true, true_or, or_false, false_or, and_self, zbn1, hsh])
      (try simp (disch := omega) only [zh, zh_st, ↓reduceIte, Nat.add_left_cancel_iff, Nat.reduceEqDiff, Nat.add_sub_cancel, Nat.reduceAdd, Nat.reduceSub, Nat.reduceMul, ← nI_0, zu_same, zu_ne, zoi, zoi_m1, nI_add, pk_mul, pk_sub, zcl, nI_leI, nI_ltI, nI_eq, ite_not, reduceCtorEq, zqi_s, zql_s, zqv_s, true_and, and_true, vp_in_nI, not_true_eq_false, not_false_eq_true, or_true, true_or, or_false, false_or, and_self, zbn1] at g1)
      exact g1
    | false =>
      have hand : (nI (zmask pre) &&& nI (2 ^ zpr D k ((P p).getD i 0)) = nI 0) ↔ pre.contains (zpr D k ((P p).getD i 0)) = false := by
        rw [zIand (by omega) (by omega), nI_eq (by omega) (by omega), zmask_z]
      have g1 := go (pre.contains (zpr D k ((P p).getD i 0))) (by rw [zdupf, hdp, Bool.or_false])
      (try simp (disch := omega) only [zh, zh_st, ↓reduceIte, Nat.add_left_cancel_iff, Nat.reduceEqDiff, Nat.add_sub_cancel, Nat.reduceAdd, Nat.reduceSub, Nat.reduceMul, ← nI_0, zu_same, zu_ne, zoi, zoi_m1, nI_add, pk_mul, pk_sub, zcl, nI_leI, nI_ltI, nI_eq, ite_not, reduceCtorEq, zqi_s, zql_s, zqv_s, true_and, and_true, vp_in_nI, not_true_eq_false, not_false_eq_true, or_true, true_or, or_false, false_or, and_self, zbn1, hsh, hand])
      cases hct : pre.contains (zpr D k ((P p).getD i 0)) with
      | true => rw [hct] at g1; (try simp (disch := omega) only [zh, zh_st, ↓reduceIte, Nat.add_left_cancel_iff, Nat.reduceEqDiff, Nat.add_sub_cancel, Nat.reduceAdd, Nat.reduceSub, Nat.reduceMul, ← nI_0, zu_same, zu_ne, zoi, zoi_m1, nI_add, pk_mul, pk_sub, zcl, nI_leI, nI_ltI, nI_eq, ite_not, reduceCtorEq, zqi_s, zql_s, zqv_s, true_and, and_true, vp_in_nI, not_true_eq_false, not_false_eq_true, or_true, true_or, or_false, false_or, and_self, zbn1] at g1); (try simp (disch := omega) only [zh, zh_st, ↓reduceIte, Nat.add_left_cancel_iff, Nat.reduceEqDiff, Nat.add_sub_cancel, Nat.reduceAdd, Nat.reduceSub, Nat.reduceMul, ← nI_0, zu_same, zu_ne, zoi, zoi_m1, nI_add, pk_mul, pk_sub, zcl, nI_leI, nI_ltI, nI_eq, ite_not, reduceCtorEq, zqi_s, zql_s, zqv_s, true_and, and_true, vp_in_nI, not_true_eq_false, not_false_eq_true, or_true, true_or, or_false, false_or, and_self, zbn1]); exact g1
      | false => rw [hct] at g1; (try simp (disch := omega) only [zh, zh_st, ↓reduceIte, Nat.add_left_cancel_iff, Nat.reduceEqDiff, Nat.add_sub_cancel, Nat.reduceAdd, Nat.reduceSub, Nat.reduceMul, ← nI_0, zu_same, zu_ne, zoi, zoi_m1, nI_add, pk_mul, pk_sub, zcl, nI_leI, nI_ltI, nI_eq, ite_not, reduceCtorEq, zqi_s, zql_s, zqv_s, true_and, and_true, vp_in_nI, not_true_eq_false, not_false_eq_true, or_true, true_or, or_false, false_or, and_self, zbn1] at g1); (try simp (disch := omega) only [zh, zh_st, ↓reduceIte, Nat.add_left_cancel_iff, Nat.reduceEqDiff, Nat.add_sub_cancel, Nat.reduceAdd, Nat.reduceSub, Nat.reduceMul, ← nI_0, zu_same, zu_ne, zoi, zoi_m1, nI_add, pk_mul, pk_sub, zcl, nI_leI, nI_ltI, nI_eq, ite_not, reduceCtorEq, zqi_s, zql_s, zqv_s, true_and, and_true, vp_in_nI, not_true_eq_false, not_false_eq_true, or_true, true_or, or_false, false_or, and_self, zbn1]); exact g1
theorem e_ea {d t p n : Nat} {σ : zH} {D : zDT} (hT : zTb σ t) (ht : 8 < t) (hD : zDk σ D n) {ly hd sz : Nat → Int32} {mk : Int32} {P : Nat → List Nat} (hR : zTR ly sz P) (hp : p < 4) (h32 : ∀ c ∈ P p, zco c) {Q : Option Value → zH → Prop} {k g : Nat} (hb : zDb D) (h1 : 31 ≤ k) (h2 : k ≤ 33) (hg : g ≤ 9) (hg2 : 1 ≤ g) (hQ : Q (some (.int (nI (zbn1 (zea (zpr D k) g [] (P p)))))) (zTa σ t ly hd sz mk)) : zM (d + 1) 65 [.ref t, .int (nI p), .int (nI k), .int (nI g)] (zTa σ t ly hd sz mk) Q := by
  refine b65 ?_
  exact l_ea hT ht hD hR hp h32 hb h1 h2 hg hg2 (P p).length 0 (by omega) [] (by simp; omega) (by simp) hQ
