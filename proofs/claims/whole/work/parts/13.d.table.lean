/-! all that lies as one number -/
def zseq (P : Nat → List Nat) : List Nat := (P 0).reverse ++ ((P 1).reverse ++ ((P 2).reverse ++ (P 3).reverse))
def zkey (P : Nat → List Nat) (mk : Nat) : Nat := zdig (zseq P) + 2 ^ 45 * ((P 0).length + 16 * (P 1).length + 256 * (P 2).length + 4096 * mk)
theorem zrev_drop {l : List Nat} {i : Nat} (h : i < l.length) : l.reverse.drop i = l.getD (l.length - 1 - i) 0 :: l.reverse.drop (i + 1) := by
  rw [List.drop_eq_getElem_cons (by simpa using h), List.getElem_reverse, List.getD_eq_getElem?_getD, List.getElem?_eq_getElem (by omega)]
  rfl
theorem zgd_mem {l : List Nat} {i : Nat} (h : i < l.length) : l.getD i 0 ∈ l := by
  rw [List.getD_eq_getElem?_getD, List.getElem?_eq_getElem h]
  exact List.getElem_mem h
set_option maxRecDepth 20000 in
set_option maxHeartbeats 1000000 in
theorem l_packed {d t p hi E : Nat} (hE : E = 2 ^ 45) {σ : zH} (hT : zTb σ t) {ly hd sz : Nat → Int32} {mk : Int32} {P : Nat → List Nat} (hR : zTR ly sz P) (hp : p < 4) (h32 : ∀ c ∈ P p, c < 32) (hhi : hi < 2 ^ 16) {Q : Option Value → zH → Prop} : ∀ (m i : Nat), i + m = (P p).length → ∀ (dn : List Nat), dn.length + m ≤ 9 → (∀ c ∈ dn, c < 32) → zW d 60 14 [(0, .ref t), (1, .long (lN (hi * E + zdig (dn ++ (P p).reverse.drop i)))), (3, .int (nI (5 * (dn.length + m)))), (4, .int (nI (p + 1)))] [] (zTa σ t ly hd sz mk) Q → zW d 60 48 [(0, .ref t), (1, .long (lN (hi * E + zdig dn))), (3, .int (nI (5 * dn.length))), (4, .int (nI p)), (5, .int (nI i))] [] (zTa σ t ly hd sz mk) Q := by
  have ⟨k0, k1, k2, k3, n1, n2, n3, q0, q1, q2, q3⟩ := hT
  obtain ⟨sp, lp, rp⟩ := hR p hp
  intro m
  induction m with
  | zero =>
    intro i hi2 dn h9 hd32 hQ
    refine b60_48 ?_
    (try simp (disch := omega) only [zh, zh_st, ↓reduceIte, Nat.add_left_cancel_iff, Nat.reduceEqDiff, Nat.add_sub_cancel, Nat.reduceAdd, Nat.reduceSub, Nat.reduceMul, ← nI_0, zu_same, zu_ne, zoi, zoi_m1, nI_add, pk_mul, pk_sub, zcl, nI_leI, nI_ltI, nI_eq, ite_not, reduceCtorEq, zqi_s, zql_s, zqv_s, true_and, and_true, vp_in_nI, if_pos, if_neg, not_true_eq_false, not_false_eq_true, or_true, true_or, or_false, false_or, and_self, zTa_k, zTa_ly, zTa_hd, zTa_sz, zTa_mk, zTa_r, k0, k3, n3, q3, sp])
    rw [List.drop_eq_nil_of_le (by simp; omega), List.append_nil] at hQ
    exact hQ
  | succ m ih =>
    intro i hi2 dn h9 hd32 hQ
    have hc := zgd_mem (l := P p) (i := (P p).length - 1 - i) (by omega)
    have hc32 := h32 _ hc
    have hly : ly (p * 16 + i) = nI ((P p).getD ((P p).length - 1 - i) 0) := by rw [show p * 16 + i = 16 * p + i by omega]; exact rp i (by omega)
    rw [zrev_drop (by omega)] at hQ
    generalize (P p).getD ((P p).length - 1 - i) 0 = c at hQ hc32 hly
    have hdl := zdig_lt hd32
    rw [zp32] at hdl
    have hor : lN (hi * E + zdig dn) ||| lN (c * 2 ^ (5 * dn.length)) = lN (hi * E + zdig (dn ++ [c])) := by
      rw [hE]
      have e45 : hi * 2 ^ 45 = hi * 2 ^ (45 - (5 * dn.length + 5)) * 2 ^ (5 * dn.length + 5) := by
        rw [Nat.mul_assoc, ← Nat.pow_add]
        congr 2
        omega
      have hb : c * 2 ^ (5 * dn.length) < 2 ^ 64 := by
        have : 2 ^ (5 * dn.length) ≤ 2 ^ 45 := Nat.pow_le_pow_right (by decide) (by omega)
        have := Nat.mul_le_mul (show c ≤ 32 by omega) this
        omega
      have ha : zdig dn < 2 ^ 45 := Nat.lt_of_lt_of_le hdl (Nat.pow_le_pow_right (by decide) (by omega))
      rw [wb_or (by omega) hb]
      congr 1
      have := zor (hi := hi * 2 ^ (45 - (5 * dn.length + 5))) hdl (show c < 2 ^ 5 by omega)
      rw [← e45] at this
      rw [this, zdig_app, zp32]
      simp only [zdig, Nat.mul_zero, Nat.add_zero]
      rw [Nat.mul_comm c, Nat.add_right_comm, Nat.add_assoc]
    refine b60_48 ?_
    (try simp (disch := omega) only [zh, zh_st, ↓reduceIte, Nat.add_left_cancel_iff, Nat.reduceEqDiff, Nat.add_sub_cancel, Nat.reduceAdd, Nat.reduceSub, Nat.reduceMul, ← nI_0, zu_same, zu_ne, zoi, zoi_m1, nI_add, pk_mul, pk_sub, zcl, nI_leI, nI_ltI, nI_eq, ite_not, reduceCtorEq, zqi_s, zql_s, zqv_s, true_and, and_true, vp_in_nI, if_pos, if_neg, not_true_eq_false, not_false_eq_true, or_true, true_or, or_false, false_or, and_self, zTa_k, zTa_ly, zTa_hd, zTa_sz, zTa_mk, zTa_r, k0, k1, k3, n1, n3, q1, q3, sp, hly, nI_l, zlsl_N, hor])
    have := ih (i + 1) (by omega) (dn ++ [c]) (by simp; omega) (by simp; intro x hx; rcases hx with hx | hx; exact hd32 x hx; omega)
    simp only [List.length_append, List.length_cons, List.length_nil, List.append_assoc, List.cons_append, List.nil_append] at this
    rw [show 5 * dn.length + 5 = 5 * (dn.length + (0 + 1)) by omega]
    refine this ?_
    rw [show dn.length + (0 + 1) + m = dn.length + (m + 1) by omega]
    exact hQ
theorem zseq_len (P : Nat → List Nat) : (zseq P).length = zTot P := by
  unfold zseq zTot
  simp only [List.length_append, List.length_reverse]
  omega
set_option maxRecDepth 20000 in
theorem zor_sz {r len low mk E : Nat} (hE : E = 2 ^ 45) (p : Nat) (hp : p < 3) (hl : len < 16) (hlow : low < E) (hr : r < 16 ^ p) (hmk : mk < 16) : lN ((4096 * mk + r) * E + low) ||| lN (len * 2 ^ (45 + 4 * p)) = lN ((4096 * mk + (r + 16 ^ p * len)) * E + low) := by
  subst hE
  have hr2 : r < 4096 := Nat.lt_of_lt_of_le hr (Nat.le_trans (Nat.pow_le_pow_right (by decide) (show p ≤ 3 by omega)) (by decide))
  have hb : len * 2 ^ (45 + 4 * p) < 2 ^ 64 := by
    have : 2 ^ (45 + 4 * p) ≤ 2 ^ 57 := Nat.pow_le_pow_right (by decide) (by omega)
    have := Nat.mul_le_mul (show len ≤ 16 by omega) this
    omega
  rw [wb_or (by omega) hb]
  clear hb
  congr 1
  rcases (show p = 0 ∨ p = 1 ∨ p = 2 by omega) with rfl | rfl | rfl
  · have := zor (hi := mk * 256) (lo := low) (x := len) (s := 45) (w := 4) hlow hl
    simp only [Nat.reducePow, Nat.reduceMul, Nat.reduceAdd] at this hr ⊢
    rw [show (4096 * mk + r) * 35184372088832 + low = mk * 256 * 562949953421312 + low by omega, this]
    omega
  · have := zor (hi := mk * 16) (lo := r * 2 ^ 45 + low) (x := len) (s := 49) (w := 4) (by simp only [Nat.reducePow] at hr ⊢; omega) hl
    simp only [Nat.reducePow, Nat.reduceMul, Nat.reduceAdd] at this hr ⊢
    rw [show (4096 * mk + r) * 35184372088832 + low = mk * 16 * 9007199254740992 + (r * 35184372088832 + low) by omega, this]
    omega
  · have := zor (hi := mk) (lo := r * 2 ^ 45 + low) (x := len) (s := 53) (w := 4) (by simp only [Nat.reducePow] at hr ⊢; omega) hl
    simp only [Nat.reducePow, Nat.reduceMul, Nat.reduceAdd] at this hr ⊢
    rw [show (4096 * mk + r) * 35184372088832 + low = mk * 144115188075855872 + (r * 35184372088832 + low) by omega, this]
    omega
theorem z57 {E : Nat} (hE : E = 2 ^ 45) (mk : Nat) : mk * 2 ^ 57 = 4096 * mk * E := by
  rw [hE, Nat.mul_comm 4096, Nat.mul_assoc, show 2 ^ 57 = 4096 * 2 ^ 45 from (Nat.pow_add 2 12 45)]
theorem zkey_E {E : Nat} (hE : E = 2 ^ 45) (P : Nat → List Nat) (mk : Nat) : zkey P mk = zdig (zseq P) + E * ((P 0).length + 16 * (P 1).length + 256 * (P 2).length + 4096 * mk) := by rw [hE]; rfl
set_option maxHeartbeats 2000000 in
theorem e_packed {d t mk : Nat} {σ : zH} (hT : zTb σ t) {ly hd sz : Nat → Int32} {P : Nat → List Nat} (hR : zTR ly sz P) (ht : zTot P ≤ 9) (h32 : ∀ p < 4, ∀ c ∈ P p, c < 32) (hmk : mk < 16) {Q : Option Value → zH → Prop} (hQ : Q (some (.long (lN (zkey P mk)))) (zTa σ t ly hd sz (nI mk))) : zM d 60 [.ref t] (zTa σ t ly hd sz (nI mk)) Q := by
  have ⟨k0, k1, k2, k3, n1, n2, n3, q0, q1, q2, q3⟩ := hT
  obtain ⟨E, hE⟩ : ∃ E, E = 2 ^ 45 := ⟨_, rfl⟩
  have sp := fun p hp => (hR p hp).1
  have lp := fun p hp => (hR p hp).2.1
  have l0 := lp 0 (by decide)
  have l1 := lp 1 (by decide)
  have l2 := lp 2 (by decide)
  have l3 := lp 3 (by decide)
  have hdg : ∀ a : List Nat, (∀ c ∈ a, c < 32) → a.length ≤ 9 → zdig a < E := by
    intro a h1 h2
    have h3 := zdig_lt h1
    rw [zp32] at h3
    rw [hE]
    exact Nat.lt_of_lt_of_le h3 (Nat.pow_le_pow_right (by decide) (by omega))
  have d0 : ∀ c ∈ (P 0).reverse, c < 32 := fun c hc => h32 0 (by decide) c (List.mem_reverse.mp hc)
  have d1 : ∀ c ∈ (P 0).reverse ++ (P 1).reverse, c < 32 := fun c hc => (List.mem_append.mp hc).elim (d0 c) (fun h => h32 1 (by decide) c (List.mem_reverse.mp h))
  have d2 : ∀ c ∈ (P 0).reverse ++ (P 1).reverse ++ (P 2).reverse, c < 32 := fun c hc => (List.mem_append.mp hc).elim (d1 c) (fun h => h32 2 (by decide) c (List.mem_reverse.mp h))
  unfold zTot at ht
  have hs0 := zor_sz (r := 0) (len := (P 0).length) (low := 0) (mk := mk) hE 0 (by decide) (by omega) (by rw [hE]; decide) (by decide) hmk
  have hs1 := zor_sz (r := (P 0).length) (len := (P 1).length) (low := zdig (P 0).reverse) (mk := mk) hE 1 (by decide) (by omega) (hdg _ d0 (by simp; omega)) (by omega) hmk
  have hs2 := zor_sz (r := (P 0).length + 16 * (P 1).length) (len := (P 2).length) (low := zdig ((P 0).reverse ++ (P 1).reverse)) (mk := mk) hE 2 (by decide) (by omega) (hdg _ d1 (by simp; omega)) (by simp only [Nat.reducePow]; omega) hmk
  have p1 : 16 ^ 1 = 16 := rfl
  have p2 : 16 ^ 2 = 256 := rfl
  simp only [Nat.reduceMul, Nat.reduceAdd, p1, p2, Nat.pow_zero, Nat.one_mul, Nat.add_zero, Nat.zero_add] at hs0 hs1 hs2
  refine b60 ?_
  (try simp (disch := omega) only [zh, zh_st, ↓reduceIte, Nat.add_left_cancel_iff, Nat.reduceEqDiff, Nat.add_sub_cancel, Nat.reduceAdd, Nat.reduceSub, Nat.reduceMul, ← nI_0, zu_same, zu_ne, zoi, zoi_m1, nI_add, pk_mul, pk_sub, zcl, nI_leI, nI_ltI, nI_eq, ite_not, reduceCtorEq, zqi_s, zql_s, zqv_s, true_and, and_true, vp_in_nI, if_pos, if_neg, not_true_eq_false, not_false_eq_true, or_true, true_or, or_false, false_or, and_self, zTa_k, zTa_ly, zTa_hd, zTa_sz, zTa_mk, zTa_r, k0, nI_l, zlsl_N])
  refine b60_14 ?_
  (try simp (disch := omega) only [zh, zh_st, ↓reduceIte, Nat.add_left_cancel_iff, Nat.reduceEqDiff, Nat.add_sub_cancel, Nat.reduceAdd, Nat.reduceSub, Nat.reduceMul, ← nI_0, zu_same, zu_ne, zoi, zoi_m1, nI_add, pk_mul, pk_sub, zcl, nI_leI, nI_ltI, nI_eq, ite_not, reduceCtorEq, zqi_s, zql_s, zqv_s, true_and, and_true, vp_in_nI, if_pos, if_neg, not_true_eq_false, not_false_eq_true, or_true, true_or, or_false, false_or, and_self, zTa_k, zTa_ly, zTa_hd, zTa_sz, zTa_mk, zTa_r, k0, k3, n3, q3, sp 0 (by decide), nI_l, zlsl_N, Nat.add_zero])
  rw [z57 hE mk, hs0]
  have g0 := l_packed (d := d) hE hT hR (p := 0) (hi := 4096 * mk + (P 0).length) (mk := nI mk) (hd := hd) (by decide) (h32 0 (by decide)) (by omega) (Q := Q) (P 0).length 0 (by omega) [] (by simp; omega) (by simp)
  simp only [zdig, Nat.add_zero, List.length_nil, Nat.mul_zero, List.nil_append, List.drop_zero, Nat.zero_add] at g0
  refine g0 ?_
  refine b60_14 ?_
  (try simp (disch := omega) only [zh, zh_st, ↓reduceIte, Nat.add_left_cancel_iff, Nat.reduceEqDiff, Nat.add_sub_cancel, Nat.reduceAdd, Nat.reduceSub, Nat.reduceMul, ← nI_0, zu_same, zu_ne, zoi, zoi_m1, nI_add, pk_mul, pk_sub, zcl, nI_leI, nI_ltI, nI_eq, ite_not, reduceCtorEq, zqi_s, zql_s, zqv_s, true_and, and_true, vp_in_nI, if_pos, if_neg, not_true_eq_false, not_false_eq_true, or_true, true_or, or_false, false_or, and_self, zTa_k, zTa_ly, zTa_hd, zTa_sz, zTa_mk, zTa_r, k0, k3, n3, q3, sp 1 (by decide), nI_l, zlsl_N])
  rw [hs1]
  have g1 := l_packed (d := d) hE hT hR (p := 1) (hi := 4096 * mk + ((P 0).length + 16 * (P 1).length)) (mk := nI mk) (hd := hd) (by decide) (h32 1 (by decide)) (by omega) (Q := Q) (P 1).length 0 (by omega) (P 0).reverse (by simp; omega) d0
  simp only [List.length_reverse, List.drop_zero, Nat.reduceAdd] at g1
  refine g1 ?_
  refine b60_14 ?_
  (try simp (disch := omega) only [zh, zh_st, ↓reduceIte, Nat.add_left_cancel_iff, Nat.reduceEqDiff, Nat.add_sub_cancel, Nat.reduceAdd, Nat.reduceSub, Nat.reduceMul, ← nI_0, zu_same, zu_ne, zoi, zoi_m1, nI_add, pk_mul, pk_sub, zcl, nI_leI, nI_ltI, nI_eq, ite_not, reduceCtorEq, zqi_s, zql_s, zqv_s, true_and, and_true, vp_in_nI, if_pos, if_neg, not_true_eq_false, not_false_eq_true, or_true, true_or, or_false, false_or, and_self, zTa_k, zTa_ly, zTa_hd, zTa_sz, zTa_mk, zTa_r, k0, k3, n3, q3, sp 2 (by decide), nI_l, zlsl_N])
  rw [hs2]
  have g2 := l_packed (d := d) hE hT hR (p := 2) (hi := 4096 * mk + ((P 0).length + 16 * (P 1).length + 256 * (P 2).length)) (mk := nI mk) (hd := hd) (by decide) (h32 2 (by decide)) (by omega) (Q := Q) (P 2).length 0 (by omega) ((P 0).reverse ++ (P 1).reverse) (by simp; omega) d1
  simp only [List.length_append, List.length_reverse, List.drop_zero, Nat.reduceAdd] at g2
  refine g2 ?_
  refine b60_14 ?_
  (try simp (disch := omega) only [zh, zh_st, ↓reduceIte, Nat.add_left_cancel_iff, Nat.reduceEqDiff, Nat.add_sub_cancel, Nat.reduceAdd, Nat.reduceSub, Nat.reduceMul, ← nI_0, zu_same, zu_ne, zoi, zoi_m1, nI_add, pk_mul, pk_sub, zcl, nI_leI, nI_ltI, nI_eq, ite_not, reduceCtorEq, zqi_s, zql_s, zqv_s, true_and, and_true, vp_in_nI, if_pos, if_neg, not_true_eq_false, not_false_eq_true, or_true, true_or, or_false, false_or, and_self, zTa_k, zTa_ly, zTa_hd, zTa_sz, zTa_mk, zTa_r, k0, k3, n3, q3])
  have g3 := l_packed (d := d) hE hT hR (p := 3) (hi := 4096 * mk + ((P 0).length + 16 * (P 1).length + 256 * (P 2).length)) (mk := nI mk) (hd := hd) (by decide) (h32 3 (by decide)) (by omega) (Q := Q) (P 3).length 0 (by omega) ((P 0).reverse ++ (P 1).reverse ++ (P 2).reverse) (by simp; omega) d2
  simp only [List.length_append, List.length_reverse, List.drop_zero, Nat.reduceAdd] at g3
  refine g3 ?_
  refine b60_14 ?_
  (try simp (disch := omega) only [zh, zh_st, ↓reduceIte, Nat.add_left_cancel_iff, Nat.reduceEqDiff, Nat.add_sub_cancel, Nat.reduceAdd, Nat.reduceSub, Nat.reduceMul, ← nI_0, zu_same, zu_ne, zoi, zoi_m1, nI_add, pk_mul, pk_sub, zcl, nI_leI, nI_ltI, nI_eq, ite_not, reduceCtorEq, zqi_s, zql_s, zqv_s, true_and, and_true, vp_in_nI, if_pos, if_neg, not_true_eq_false, not_false_eq_true, or_true, true_or, or_false, false_or, and_self, ])
  have : (4096 * mk + ((P 0).length + 16 * (P 1).length + 256 * (P 2).length)) * E + zdig ((P 0).reverse ++ (P 1).reverse ++ (P 2).reverse ++ (P 3).reverse) = zkey P mk := by
    rw [zkey_E hE]
    unfold zseq
    rw [List.append_assoc, List.append_assoc, Nat.add_comm, Nat.mul_comm E, Nat.add_comm (4096 * mk)]
  rw [this]
  exact hQ
