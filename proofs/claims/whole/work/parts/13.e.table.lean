set_option maxHeartbeats 1000000 in
theorem l_lay {d t p : Nat} {σ : zH} (hT : zTb σ t) {hd sz : Nat → Int32} {mk : Int32} {l : List Nat} {Y : Nat} (hp : p < 4) (sp : sz p = nI l.length) (hl : l.length ≤ 9) (h32 : ∀ c ∈ l, c < 32) {Q : Option Value → zH → Prop} : ∀ (m i : Nat), i + m = l.length → ∀ (ly : Nat → Int32), (∀ j, j < i → ly (16 * p + j) = nI (l.getD (l.length - 1 - j) 0)) → zdig (l.reverse.drop i) + 32 ^ m * Y < 2 ^ 63 → (∀ ly', (∀ j, j < l.length → ly' (16 * p + j) = nI (l.getD (l.length - 1 - j) 0)) → (∀ k, (k < 16 * p ∨ 16 * p + 16 ≤ k) → ly' k = ly k) → zW d 59 78 [(0, .ref t), (4, .long (lN Y)), (6, .int (nI (p + 1)))] [] (zTa σ t ly' hd sz mk) Q) → zW d 59 87 [(0, .ref t), (4, .long (lN (zdig (l.reverse.drop i) + 32 ^ m * Y))), (6, .int (nI p)), (7, .int (nI i))] [] (zTa σ t ly hd sz mk) Q := by
  have ⟨k0, k1, k2, k3, n1, n2, n3, q0, q1, q2, q3⟩ := hT
  intro m
  induction m with
  | zero =>
    intro i hi ly hly hY hQ
    refine b59_87 ?_
    (try simp (disch := omega) only [zh, zh_st, ↓reduceIte, Nat.add_left_cancel_iff, Nat.reduceEqDiff, Nat.add_sub_cancel, Nat.reduceAdd, Nat.reduceSub, Nat.reduceMul, ← nI_0, zu_same, zu_ne, zoi, zoi_m1, nI_add, pk_mul, pk_sub, zcl, nI_leI, nI_ltI, nI_eq, ite_not, reduceCtorEq, zqi_s, zql_s, zqv_s, true_and, and_true, vp_in_nI, if_pos, if_neg, not_true_eq_false, not_false_eq_true, or_true, true_or, or_false, false_or, and_self, zTa_k, zTa_ly, zTa_hd, zTa_sz, zTa_mk, zTa_r, k0, k3, n3, q3, sp])
    rw [List.drop_eq_nil_of_le (by simp; omega)]
    simp only [zdig, Nat.pow_zero, Nat.one_mul, Nat.zero_add]
    exact hQ ly (fun j hj => hly j (by omega)) (fun k hk => rfl)
  | succ m ih =>
    intro i hi ly hly hY hQ
    have hc32 := h32 _ (zgd_mem (l := l) (i := l.length - 1 - i) (by omega))
    have hc0 : ∀ c, c = l.getD (l.length - 1 - i) 0 → c = l.getD (l.length - 1 - i) 0 := fun _ h => h
    rw [zrev_drop (by omega)] at hY ⊢
    obtain ⟨c, hc⟩ : ∃ c, c = l.getD (l.length - 1 - i) 0 := ⟨_, rfl⟩
    rw [← hc] at hc32 hY ⊢
    simp only [zdig] at hY ⊢
    have e1 : c + 32 * zdig (l.reverse.drop (i + 1)) + 32 ^ (m + 1) * Y = c + 32 * (zdig (l.reverse.drop (i + 1)) + 32 ^ m * Y) := by
      rw [Nat.pow_succ, Nat.mul_add, Nat.mul_comm (32 ^ m) 32, Nat.mul_assoc]
      omega
    rw [e1] at hY ⊢
    obtain ⟨Z, hZ⟩ : ∃ Z, Z = zdig (l.reverse.drop (i + 1)) + 32 ^ m * Y := ⟨_, rfl⟩
    rw [← hZ] at hY ⊢
    have e2 : (lN (c + 32 * Z)).toInt32 &&& nI 31 = nI c := by
      rw [lN_i, zand31]
      congr 1
      omega
    have e3 : zlus (lN (c + 32 * Z)) (nI 5) = lN Z := by
      rw [zlus_N (Nat.lt_trans hY (by decide)) (by decide)]
      congr 1
      omega
    refine b59_87 ?_
    (try simp (disch := omega) only [zh, zh_st, ↓reduceIte, Nat.add_left_cancel_iff, Nat.reduceEqDiff, Nat.add_sub_cancel, Nat.reduceAdd, Nat.reduceSub, Nat.reduceMul, ← nI_0, zu_same, zu_ne, zoi, zoi_m1, nI_add, pk_mul, pk_sub, zcl, nI_leI, nI_ltI, nI_eq, ite_not, reduceCtorEq, zqi_s, zql_s, zqv_s, true_and, and_true, vp_in_nI, if_pos, if_neg, not_true_eq_false, not_false_eq_true, or_true, true_or, or_false, false_or, and_self, zTa_k, zTa_ly, zTa_hd, zTa_sz, zTa_mk, zTa_r, k0, k1, k3, n1, n3, q1, q3, sp, e2, e3])
    rw [hZ]
    refine ih (i + 1) (by omega) _ ?_ (by omega) ?_
    · intro j hj
      by_cases hj2 : j = i
      · subst hj2
        rw [show p * 16 + j = 16 * p + j by omega, zu_same, hc]
      · rw [zu_ne _ _ (by omega)]
        exact hly j (by omega)
    · intro ly' h1 h2
      refine hQ ly' h1 (fun k hk => ?_)
      rw [h2 k hk, zu_ne _ _ (by omega)]
theorem zkey_lt {P : Nat → List Nat} {mk : Nat} (ht : zTot P ≤ 9) (h32 : ∀ p < 4, ∀ c ∈ P p, c < 32) (hmk : mk < 16) : zdig (zseq P) < 2 ^ 45 ∧ zkey P mk < 2 ^ 62 := by
  have h1 : ∀ c ∈ zseq P, c < 32 := by
    intro c hc
    unfold zseq at hc
    simp only [List.mem_append, List.mem_reverse] at hc
    rcases hc with h | h | h | h
    · exact h32 0 (by decide) c h
    · exact h32 1 (by decide) c h
    · exact h32 2 (by decide) c h
    · exact h32 3 (by decide) c h
  have h2 := zdig_lt h1
  rw [zseq_len, zp32] at h2
  have h3 : zdig (zseq P) < 2 ^ 45 := Nat.lt_of_lt_of_le h2 (Nat.pow_le_pow_right (by decide) (by omega))
  refine ⟨h3, ?_⟩
  unfold zkey
  unfold zTot at ht
  omega
theorem zkey_dig {P : Nat → List Nat} {mk : Nat} (ht : zTot P ≤ 9) : zkey P mk = zdig (P 0).reverse + 32 ^ (P 0).length * (zdig (P 1).reverse + 32 ^ (P 1).length * (zdig (P 2).reverse + 32 ^ (P 2).length * (zdig (P 3).reverse + 32 ^ (P 3).length * (32 ^ (9 - zTot P) * ((P 0).length + 16 * (P 1).length + 256 * (P 2).length + 4096 * mk))))) := by
  have e : 2 ^ 45 = 32 ^ (P 0).length * (32 ^ (P 1).length * (32 ^ (P 2).length * (32 ^ (P 3).length * 32 ^ (9 - zTot P)))) := by
    rw [← Nat.pow_add, ← Nat.pow_add, ← Nat.pow_add, ← Nat.pow_add, zp32]
    congr 1
    unfold zTot at *
    omega
  unfold zkey zseq
  rw [e]
  simp only [zdig_app, List.length_reverse]
  simp only [Nat.mul_add, Nat.add_assoc, Nat.mul_assoc]
theorem zsz_of {E L X : Nat} (hE : E = 2 ^ 45) (hL : L < E) {s0 s1 s2 mk : Nat} (h0 : s0 < 16) (h1 : s1 < 16) (h2 : s2 < 16) (hm : mk < 16) (hX : X = L + E * (s0 + 16 * s1 + 256 * s2 + 4096 * mk)) : X / 2 ^ 45 % 16 = s0 ∧ X / 2 ^ 49 % 16 = s1 ∧ X / 2 ^ 53 % 16 = s2 ∧ X / 2 ^ 57 % 16 = mk ∧ X < 2 ^ 63 := by
  subst hE
  simp only [Nat.reducePow] at *
  refine ⟨?_, ?_, ?_, ?_, ?_⟩ <;> omega
set_option maxHeartbeats 2000000 in
theorem e_lay {d t n mk : Nat} {σ : zH} (hT : zTb σ t) (kd : zK σ 4 = 2) (ht4 : t ≠ 4) (hc : zI σ 4 4 = nI n) {ly hd sz : Nat → Int32} {mk0 : Int32} {P : Nat → List Nat} (ht : zTot P = n) (hn : n ≤ 9) (h32 : ∀ p < 4, ∀ c ∈ P p, c < 32) (hmk : mk < 16) {Q : Option Value → zH → Prop} (hQ : ∀ ly' sz', zTR ly' sz' P → Q none (zTa σ t ly' hd sz' (nI mk))) : zM d 59 [.ref t, .long (lN (zkey P mk))] (zTa σ t ly hd sz mk0) Q := by
  have ⟨k0, k1, k2, k3, n1, n2, n3, q0, q1, q2, q3⟩ := hT
  obtain ⟨E, hE⟩ : ∃ E, E = 2 ^ 45 := ⟨_, rfl⟩
  have hkl := (zkey_lt (mk := mk) (P := P) (by omega) h32 hmk).1
  have hkd := zkey_dig (P := P) (mk := mk) (by omega)
  have hkE := zkey_E hE P mk
  have hoI : ∀ ly hd sz mk, zI (zTa σ t ly hd sz mk) 4 4 = nI n := fun ly hd sz mk => by rw [zTa_oI ly hd sz mk (fun h => ht4 h.symm)]; exact hc
  unfold zTot at ht
  obtain ⟨s0, s1, s2, s3, s4⟩ := zsz_of hE (by rw [hE]; exact hkl) (show (P 0).length < 16 by omega) (show (P 1).length < 16 by omega) (show (P 2).length < 16 by omega) hmk hkE
  obtain ⟨X, hX⟩ : ∃ X, X = zkey P mk := ⟨_, rfl⟩
  rw [← hX] at hkd s0 s1 s2 s3 s4 ⊢
  have s5 : X < 2 ^ 64 := Nat.lt_trans s4 (by decide)
  have z0 : (zlus (lN X) (nI 45)).toInt32 &&& nI 15 = nI (P 0).length := by rw [zlus_N s5 (by decide), lN_i, zand15, s0]
  have z1 : (zlus (lN X) (nI 49)).toInt32 &&& nI 15 = nI (P 1).length := by rw [zlus_N s5 (by decide), lN_i, zand15, s1]
  have z2' : (zlus (lN X) (nI 53)).toInt32 &&& nI 15 = nI (P 2).length := by rw [zlus_N s5 (by decide), lN_i, zand15, s2]
  have z3 : (zlus (lN X) (nI 57)).toInt32 &&& nI 15 = nI mk := by rw [zlus_N s5 (by decide), lN_i, zand15, s3]
  refine b59 ?_
  (try simp (disch := omega) only [zh, zh_st, ↓reduceIte, Nat.add_left_cancel_iff, Nat.reduceEqDiff, Nat.add_sub_cancel, Nat.reduceAdd, Nat.reduceSub, Nat.reduceMul, ← nI_0, zu_same, zu_ne, zoi, zoi_m1, nI_add, pk_mul, pk_sub, zcl, nI_leI, nI_ltI, nI_eq, ite_not, reduceCtorEq, zqi_s, zql_s, zqv_s, true_and, and_true, vp_in_nI, if_pos, if_neg, not_true_eq_false, not_false_eq_true, or_true, true_or, or_false, false_or, and_self, zTa_k, zTa_ly, zTa_hd, zTa_sz, zTa_mk, zTa_r, k0, q0, kd, hoI])
  refine b59_11 ?_
  (try simp (disch := omega) only [zh, zh_st, ↓reduceIte, Nat.add_left_cancel_iff, Nat.reduceEqDiff, Nat.add_sub_cancel, Nat.reduceAdd, Nat.reduceSub, Nat.reduceMul, ← nI_0, zu_same, zu_ne, zoi, zoi_m1, nI_add, pk_mul, pk_sub, zcl, nI_leI, nI_ltI, nI_eq, ite_not, reduceCtorEq, zqi_s, zql_s, zqv_s, true_and, and_true, vp_in_nI, if_pos, if_neg, not_true_eq_false, not_false_eq_true, or_true, true_or, or_false, false_or, and_self, zTa_k, zTa_ly, zTa_hd, zTa_sz, zTa_mk, zTa_r, k0, k3, n3, q3, z0, Nat.add_zero])
  refine b59_11 ?_
  (try simp (disch := omega) only [zh, zh_st, ↓reduceIte, Nat.add_left_cancel_iff, Nat.reduceEqDiff, Nat.add_sub_cancel, Nat.reduceAdd, Nat.reduceSub, Nat.reduceMul, ← nI_0, zu_same, zu_ne, zoi, zoi_m1, nI_add, pk_mul, pk_sub, zcl, nI_leI, nI_ltI, nI_eq, ite_not, reduceCtorEq, zqi_s, zql_s, zqv_s, true_and, and_true, vp_in_nI, if_pos, if_neg, not_true_eq_false, not_false_eq_true, or_true, true_or, or_false, false_or, and_self, zTa_k, zTa_ly, zTa_hd, zTa_sz, zTa_mk, zTa_r, k0, k3, n3, q3, z1])
  refine b59_11 ?_
  (try simp (disch := omega) only [zh, zh_st, ↓reduceIte, Nat.add_left_cancel_iff, Nat.reduceEqDiff, Nat.add_sub_cancel, Nat.reduceAdd, Nat.reduceSub, Nat.reduceMul, ← nI_0, zu_same, zu_ne, zoi, zoi_m1, nI_add, pk_mul, pk_sub, zcl, nI_leI, nI_ltI, nI_eq, ite_not, reduceCtorEq, zqi_s, zql_s, zqv_s, true_and, and_true, vp_in_nI, if_pos, if_neg, not_true_eq_false, not_false_eq_true, or_true, true_or, or_false, false_or, and_self, zTa_k, zTa_ly, zTa_hd, zTa_sz, zTa_mk, zTa_r, k0, k3, n3, q3, z2'])
  refine b59_11 ?_
  (try simp (disch := omega) only [zh, zh_st, ↓reduceIte, Nat.add_left_cancel_iff, Nat.reduceEqDiff, Nat.add_sub_cancel, Nat.reduceAdd, Nat.reduceSub, Nat.reduceMul, ← nI_0, zu_same, zu_ne, zoi, zoi_m1, nI_add, pk_mul, pk_sub, zcl, nI_leI, nI_ltI, nI_eq, ite_not, reduceCtorEq, zqi_s, zql_s, zqv_s, true_and, and_true, vp_in_nI, if_pos, if_neg, not_true_eq_false, not_false_eq_true, or_true, true_or, or_false, false_or, and_self, zTa_k, zTa_ly, zTa_hd, zTa_sz, zTa_mk, zTa_r, k0, k3, n3, q3, z3])
  rw [show n - (P 0).length - (P 1).length - (P 2).length = (P 3).length by omega]
  obtain ⟨sz', hsz⟩ : ∃ f, f = zu (zu (zu (zu sz 0 (nI (P 0).length)) 1 (nI (P 1).length)) 2 (nI (P 2).length)) 3 (nI (P 3).length) := ⟨_, rfl⟩
  rw [← hsz]
  have hs : ∀ p, p < 4 → sz' p = nI (P p).length := by
    intro p hp
    rw [hsz]
    rcases (show p = 0 ∨ p = 1 ∨ p = 2 ∨ p = 3 by omega) with rfl | rfl | rfl | rfl <;> simp [zu]
  have hl : ∀ p, p < 4 → (P p).length ≤ 9 := by
    intro p hp
    rcases (show p = 0 ∨ p = 1 ∨ p = 2 ∨ p = 3 by omega) with rfl | rfl | rfl | rfl <;> omega
  have lt1 : ∀ a k b, a + 32 ^ k * b < 2 ^ 63 → b < 2 ^ 63 := by
    intro a k b h
    have : b ≤ 32 ^ k * b := Nat.le_mul_of_pos_left b (Nat.pow_pos (by decide))
    omega
  rw [hkd] at s4 ⊢
  refine b59_78 ?_
  (try simp (disch := omega) only [zh, zh_st, ↓reduceIte, Nat.add_left_cancel_iff, Nat.reduceEqDiff, Nat.add_sub_cancel, Nat.reduceAdd, Nat.reduceSub, Nat.reduceMul, ← nI_0, zu_same, zu_ne, zoi, zoi_m1, nI_add, pk_mul, pk_sub, zcl, nI_leI, nI_ltI, nI_eq, ite_not, reduceCtorEq, zqi_s, zql_s, zqv_s, true_and, and_true, vp_in_nI, if_pos, if_neg, not_true_eq_false, not_false_eq_true, or_true, true_or, or_false, false_or, and_self, ])
  refine l_lay hT (by decide) (hs 0 (by decide)) (hl 0 (by decide)) (h32 0 (by decide)) _ 0 (by omega) _ (fun j hj => absurd hj (by omega)) s4 (fun ly0 a0 b0 => ?_)
  have s6 := lt1 _ _ _ s4
  refine b59_78 ?_
  (try simp (disch := omega) only [zh, zh_st, ↓reduceIte, Nat.add_left_cancel_iff, Nat.reduceEqDiff, Nat.add_sub_cancel, Nat.reduceAdd, Nat.reduceSub, Nat.reduceMul, ← nI_0, zu_same, zu_ne, zoi, zoi_m1, nI_add, pk_mul, pk_sub, zcl, nI_leI, nI_ltI, nI_eq, ite_not, reduceCtorEq, zqi_s, zql_s, zqv_s, true_and, and_true, vp_in_nI, if_pos, if_neg, not_true_eq_false, not_false_eq_true, or_true, true_or, or_false, false_or, and_self, ])
  refine l_lay hT (by decide) (hs 1 (by decide)) (hl 1 (by decide)) (h32 1 (by decide)) _ 0 (by omega) _ (fun j hj => absurd hj (by omega)) s6 (fun ly1 a1 b1 => ?_)
  have s7 := lt1 _ _ _ s6
  refine b59_78 ?_
  (try simp (disch := omega) only [zh, zh_st, ↓reduceIte, Nat.add_left_cancel_iff, Nat.reduceEqDiff, Nat.add_sub_cancel, Nat.reduceAdd, Nat.reduceSub, Nat.reduceMul, ← nI_0, zu_same, zu_ne, zoi, zoi_m1, nI_add, pk_mul, pk_sub, zcl, nI_leI, nI_ltI, nI_eq, ite_not, reduceCtorEq, zqi_s, zql_s, zqv_s, true_and, and_true, vp_in_nI, if_pos, if_neg, not_true_eq_false, not_false_eq_true, or_true, true_or, or_false, false_or, and_self, ])
  refine l_lay hT (by decide) (hs 2 (by decide)) (hl 2 (by decide)) (h32 2 (by decide)) _ 0 (by omega) _ (fun j hj => absurd hj (by omega)) s7 (fun ly2 a2 b2 => ?_)
  have s8 := lt1 _ _ _ s7
  refine b59_78 ?_
  (try simp (disch := omega) only [zh, zh_st, ↓reduceIte, Nat.add_left_cancel_iff, Nat.reduceEqDiff, Nat.add_sub_cancel, Nat.reduceAdd, Nat.reduceSub, Nat.reduceMul, ← nI_0, zu_same, zu_ne, zoi, zoi_m1, nI_add, pk_mul, pk_sub, zcl, nI_leI, nI_ltI, nI_eq, ite_not, reduceCtorEq, zqi_s, zql_s, zqv_s, true_and, and_true, vp_in_nI, if_pos, if_neg, not_true_eq_false, not_false_eq_true, or_true, true_or, or_false, false_or, and_self, ])
  refine l_lay hT (by decide) (hs 3 (by decide)) (hl 3 (by decide)) (h32 3 (by decide)) _ 0 (by omega) _ (fun j hj => absurd hj (by omega)) s8 (fun ly3 a3 b3 => ?_)
  refine b59_78 ?_
  (try simp (disch := omega) only [zh, zh_st, ↓reduceIte, Nat.add_left_cancel_iff, Nat.reduceEqDiff, Nat.add_sub_cancel, Nat.reduceAdd, Nat.reduceSub, Nat.reduceMul, ← nI_0, zu_same, zu_ne, zoi, zoi_m1, nI_add, pk_mul, pk_sub, zcl, nI_leI, nI_ltI, nI_eq, ite_not, reduceCtorEq, zqi_s, zql_s, zqv_s, true_and, and_true, vp_in_nI, if_pos, if_neg, not_true_eq_false, not_false_eq_true, or_true, true_or, or_false, false_or, and_self, ])
  refine hQ _ _ (fun p hp => ⟨hs p hp, hl p hp, fun i hi => ?_⟩)
  rcases (show p = 0 ∨ p = 1 ∨ p = 2 ∨ p = 3 by omega) with rfl | rfl | rfl | rfl
  · rw [b3 _ (by omega), b2 _ (by omega), b1 _ (by omega)]
    exact a0 i hi
  · rw [b3 _ (by omega), b2 _ (by omega)]
    exact a1 i hi
  · rw [b3 _ (by omega)]
    exact a2 i hi
  · exact a3 i hi
