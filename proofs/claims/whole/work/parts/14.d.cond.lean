def zCls (σ : zH) (o : Nat) : Nat → List zCd → Prop
  | _, [] => True
  | i, c :: cs => zCc σ o i c ∧ zCls σ o (i + 1) cs
def ztop : List Bool → Bool
  | [] => false
  | b :: _ => b
theorem zbits_top (st : List Bool) : zbits st % 2 = zbn1 (ztop st) := by
  cases st with
  | nil => rfl
  | cons b s => cases b <;> simp [zbits, ztop, zbn1] <;> omega
theorem zbits_31 {st : List Bool} (h : st.length ≤ 30) : zbits st < 2 ^ 30 := Nat.lt_of_lt_of_le (zbits_lt st) (Nat.pow_le_pow_right (by decide) h)
set_option maxHeartbeats 4000000 in
theorem l_met {d t n mk : Nat} {σ : zH} {D : zDT} (hT : zTb σ t) (ht : 8 < t) (hD : zDk σ D n) {ly hd sz : Nat → Int32} {P : Nat → List Nat} (hR : zTR ly sz P) (h32 : ∀ p < 4, ∀ c ∈ P p, zco c) (hmk : mk < 16) (hb : zDb D) {Q : Option Value → zH → Prop} {o to : Nat} (hl : ∀ p < 4, (P p).length ≤ 9) (hO : zCo σ o) (ho : o + 3 < t + 1 ∨ t + 3 < o + 1) (hto : to ≤ 450) : ∀ (cs : List zCd) (i : Nat), i + cs.length = to → zCls σ o i cs → (∀ c ∈ cs, zvc c) → ∀ (st : List Bool), st.length ≤ 29 → zsafe cs st.length → Q (some (.int (nI (zbn1 (ztop (zev (zct D mk P) cs st)))))) (zTa σ t ly hd sz (nI mk)) → zW (d + 4) 5 6 [(0, .ref o), (1, .ref t), (3, .int (nI to)), (4, .int (nI (zbits st))), (5, .int (nI i))] [] (zTa σ t ly hd sz (nI mk)) Q := by
  have ⟨k0, k1, k2, k3, n1, n2, n3, q0, q1, q2, q3⟩ := hT
  have ⟨o1, o2, o3, o4, o5, o6, o7, o8, o9, o10⟩ := hO
  intro cs
  induction cs with
  | nil =>
    intro i hi hC hv st hst hs hQ
    simp only [List.length_nil] at hi
    refine b5_6 ?_
    (try simp (disch := omega) only [zh, zh_st, ↓reduceIte, Nat.add_left_cancel_iff, Nat.reduceEqDiff, Nat.add_sub_cancel, Nat.reduceAdd, Nat.reduceSub, Nat.reduceMul, ← nI_0, zu_same, zu_ne, zoi, zoi_m1, nI_add, pk_mul, pk_sub, zcl, nI_leI, nI_ltI, nI_eq, ite_not, reduceCtorEq, zqi_s, zql_s, zqv_s, true_and, and_true, vp_in_nI, if_pos, if_neg, not_true_eq_false, not_false_eq_true, or_true, true_or, or_false, false_or, and_self, zand1, zbits_top])
    have : (if zbn1 (ztop st) = 1 then nI 1 else nI 0) = nI (zbn1 (ztop st)) := by cases ztop st <;> rfl
    have h2 : zbn1 (ztop st) < 2 := by cases ztop st <;> decide
    (try simp (disch := omega) only [zh, zh_st, ↓reduceIte, Nat.add_left_cancel_iff, Nat.reduceEqDiff, Nat.add_sub_cancel, Nat.reduceAdd, Nat.reduceSub, Nat.reduceMul, ← nI_0, zu_same, zu_ne, zoi, zoi_m1, nI_add, pk_mul, pk_sub, zcl, nI_leI, nI_ltI, nI_eq, ite_not, reduceCtorEq, zqi_s, zql_s, zqv_s, true_and, and_true, vp_in_nI, not_true_eq_false, not_false_eq_true, or_true, true_or, or_false, false_or, and_self, this])
    exact hQ
  | cons c cs ih =>
    intro i hi hC hv st hst hs hQ
    simp only [List.length_cons] at hi
    obtain ⟨hC1, hC2⟩ := hC
    have hvc := hv c (by simp)
    have hv2 : ∀ c ∈ cs, zvc c := fun x hx => hv x (by simp [hx])
    have ⟨c1, c2, c3⟩ := zCc_Ta hC1 ho ly hd sz (nI mk)
    have hbt := zbits_31 (st := st) (by omega)
    simp only [zev] at hQ
    simp only [zsafe] at hs
    have hck : c.1 < 100 := by
      unfold zvc at hvc
      omega
    refine b5_6 ?_
    by_cases e1 : c.1 = 21
    · rw [if_pos (Or.inl e1)] at hs
      unfold zop at hQ
      rw [if_pos e1] at hQ
      match st, hs with
      | b :: a :: s, hs =>
        simp only [List.length_cons] at hs hst
        simp only at hQ
        have e : zbits (b :: a :: s) / 2 = zbits (a :: s) := by cases b <;> simp [zbits, zbn1] <;> omega
        have e' : zbits (b :: a :: s) % 2 = zbn1 b := zbits_top _
        have e2 : zbn1 b < 2 := by cases b <;> decide
        have e3 := zbits_31 (st := a :: s) (by simp; omega)
        (try simp (disch := omega) only [zh, zh_st, ↓reduceIte, Nat.add_left_cancel_iff, Nat.reduceEqDiff, Nat.add_sub_cancel, Nat.reduceAdd, Nat.reduceSub, Nat.reduceMul, ← nI_0, zu_same, zu_ne, zoi, zoi_m1, nI_add, pk_mul, pk_sub, zcl, nI_leI, nI_ltI, nI_eq, ite_not, reduceCtorEq, zqi_s, zql_s, zqv_s, true_and, and_true, vp_in_nI, if_pos, if_neg, not_true_eq_false, not_false_eq_true, or_true, true_or, or_false, false_or, and_self, zand1, zTa_k, zTa_ly, zTa_hd, zTa_sz, zTa_mk, zTa_r, o1, o2, o5, o8, c1, e1, zsr1, e, e', zIor])
        rw [show zbits (a :: s) = 2 * zbits s + zbn1 a from rfl, zor1]
        exact ih (i + 1) (by omega) hC2 hv2 ((a || b) :: s) (by simp; omega) (by simpa using hs.2) hQ
    by_cases e2 : c.1 = 22
    · rw [if_pos (Or.inr e2)] at hs
      unfold zop at hQ
      rw [if_neg e1, if_pos e2] at hQ
      match st, hs with
      | b :: a :: s, hs =>
        simp only [List.length_cons] at hs hst
        simp only at hQ
        have e : zbits (b :: a :: s) / 2 = zbits (a :: s) := by cases b <;> simp [zbits, zbn1] <;> omega
        have e' : zbits (b :: a :: s) % 2 = zbn1 b := zbits_top _
        have e4 : zbn1 b < 2 := by cases b <;> decide
        have e3 := zbits_31 (st := a :: s) (by simp; omega)
        (try simp (disch := omega) only [zh, zh_st, ↓reduceIte, Nat.add_left_cancel_iff, Nat.reduceEqDiff, Nat.add_sub_cancel, Nat.reduceAdd, Nat.reduceSub, Nat.reduceMul, ← nI_0, zu_same, zu_ne, zoi, zoi_m1, nI_add, pk_mul, pk_sub, zcl, nI_leI, nI_ltI, nI_eq, ite_not, reduceCtorEq, zqi_s, zql_s, zqv_s, true_and, and_true, vp_in_nI, if_pos, if_neg, not_true_eq_false, not_false_eq_true, or_true, true_or, or_false, false_or, and_self, zand1, zTa_k, zTa_ly, zTa_hd, zTa_sz, zTa_mk, zTa_r, o1, o2, o5, o8, c1, e2, zsr1, e, e'])
        cases b with
        | false =>
          rw [if_neg (by decide), show zbits (a :: s) = 2 * zbits s + zbn1 a from rfl, zandm2 _ _ (by rw [show 2 * zbits s + zbn1 a = zbits (a :: s) from rfl]; omega)]
          have := ih (i + 1) (by omega) hC2 hv2 (false :: s) (by simp; omega) (by simpa using hs.2)
          rw [Bool.and_false] at hQ
          exact this hQ
        | true =>
          rw [if_pos (by decide)]
          rw [Bool.and_true] at hQ
          exact ih (i + 1) (by omega) hC2 hv2 (a :: s) (by simp; omega) (by simpa using hs.2) hQ
    rw [if_neg (by omega)] at hs
    by_cases e3 : c.1 = 23
    · rw [if_pos e3] at hs
      unfold zop at hQ
      rw [if_neg e1, if_neg e2, if_pos e3] at hQ
      match st, hs with
      | b :: s, hs =>
        simp only [List.length_cons] at hs hst
        simp only at hQ
        (try simp (disch := omega) only [zh, zh_st, ↓reduceIte, Nat.add_left_cancel_iff, Nat.reduceEqDiff, Nat.add_sub_cancel, Nat.reduceAdd, Nat.reduceSub, Nat.reduceMul, ← nI_0, zu_same, zu_ne, zoi, zoi_m1, nI_add, pk_mul, pk_sub, zcl, nI_leI, nI_ltI, nI_eq, ite_not, reduceCtorEq, zqi_s, zql_s, zqv_s, true_and, and_true, vp_in_nI, if_pos, if_neg, not_true_eq_false, not_false_eq_true, or_true, true_or, or_false, false_or, and_self, zTa_k, zTa_ly, zTa_hd, zTa_sz, zTa_mk, zTa_r, o1, o2, o5, o8, c1, e3, zIxor1])
        rw [show zbits (b :: s) = 2 * zbits s + zbn1 b from rfl, zxor1]
        exact ih (i + 1) (by omega) hC2 hv2 ((!b) :: s) (by simp; omega) (by simpa using hs.2) hQ
    rw [if_neg e3] at hs
    unfold zop at hQ
    rw [if_neg e1, if_neg e2, if_neg e3] at hQ
    (try simp (disch := omega) only [zh, zh_st, ↓reduceIte, Nat.add_left_cancel_iff, Nat.reduceEqDiff, Nat.add_sub_cancel, Nat.reduceAdd, Nat.reduceSub, Nat.reduceMul, ← nI_0, zu_same, zu_ne, zoi, zoi_m1, nI_add, pk_mul, pk_sub, zcl, nI_leI, nI_ltI, nI_eq, ite_not, reduceCtorEq, zqi_s, zql_s, zqv_s, true_and, and_true, vp_in_nI, if_pos, if_neg, not_true_eq_false, not_false_eq_true, or_true, true_or, or_false, false_or, and_self, zTa_k, zTa_ly, zTa_hd, zTa_sz, zTa_mk, zTa_r, o1, o2, o5, o8, c1])
    refine e_isTrue hT ht hD hR h32 hmk hb hl hvc (by omega) hO hC1 ho (by omega) ?_
    have e4 : (if zbn1 (zct D mk P c) = 0 then nI 0 else nI 1) = nI (zbn1 (zct D mk P c)) := by cases zct D mk P c <;> decide
    have e5 : zbn1 (zct D mk P c) < 2 := by cases zct D mk P c <;> decide
    (try simp (disch := omega) only [zh, zh_st, ↓reduceIte, Nat.add_left_cancel_iff, Nat.reduceEqDiff, Nat.add_sub_cancel, Nat.reduceAdd, Nat.reduceSub, Nat.reduceMul, ← nI_0, zu_same, zu_ne, zoi, zoi_m1, nI_add, pk_mul, pk_sub, zcl, nI_leI, nI_ltI, nI_eq, ite_not, reduceCtorEq, zqi_s, zql_s, zqv_s, true_and, and_true, vp_in_nI, not_true_eq_false, not_false_eq_true, or_true, true_or, or_false, false_or, and_self, zsl1])
    rw [e4, zIor (by omega) (by omega)]
    have e6 : zbits st * 2 ||| zbn1 (zct D mk P c) = 2 * zbits st + zbn1 (zct D mk P c) := by
      have := zor1 (zbits st) false (zct D mk P c)
      simp only [zbn1, Bool.false_eq_true, if_false, Nat.add_zero, Bool.false_or] at this
      rw [Nat.mul_comm]
      exact this
    rw [e6]
    exact ih (i + 1) (by omega) hC2 hv2 (zct D mk P c :: st) (by simp; omega) (by simpa using hs.2) hQ
/-- areMet -/
theorem e_met {d t n mk : Nat} {σ : zH} {D : zDT} (hT : zTb σ t) (ht : 8 < t) (hD : zDk σ D n) {ly hd sz : Nat → Int32} {P : Nat → List Nat} (hR : zTR ly sz P) (h32 : ∀ p < 4, ∀ c ∈ P p, zco c) (hmk : mk < 16) (hb : zDb D) {Q : Option Value → zH → Prop} {o i : Nat} {cs : List zCd} (hl : ∀ p < 4, (P p).length ≤ 9) (hO : zCo σ o) (ho : o + 3 < t + 1 ∨ t + 3 < o + 1) (hto : i + cs.length ≤ 450) (hC : zCls σ o i cs) (hv : ∀ c ∈ cs, zvc c) (hs : zsafe cs 0) (hQ : Q (some (.int (nI (zbn1 (ztop (zev (zct D mk P) cs [])))))) (zTa σ t ly hd sz (nI mk))) : zM (d + 4) 5 [.ref o, .ref t, .int (nI i), .int (nI (i + cs.length))] (zTa σ t ly hd sz (nI mk)) Q := by
  refine b5 ?_
  exact l_met hT ht hD hR h32 hmk hb hl hO ho hto cs i rfl hC hv [] (by simp) hs hQ
