/-! conditions: codes (kind, left, right) -/
theorem zsr8 {a : Nat} (h : a < 2 ^ 31) : nI a >>> (nI 8 &&& 31) = nI (a / 256) := pk_shrN h _ 8 (by decide)
theorem zsr4 {a : Nat} (h : a < 2 ^ 31) : nI a >>> (nI 4 &&& 31) = nI (a / 16) := pk_shrN h _ 4 (by decide)
theorem zsr1 {a : Nat} (h : a < 2 ^ 31) : nI a >>> (nI 1 &&& 31) = nI (a / 2) := pk_shrN h _ 1 (by decide)
theorem zsl1 {a : Nat} (h : a < 2 ^ 31) : nI a <<< (nI 1 &&& 31) = nI (a * 2) := pk_shlN _ 1 (by decide) (by omega)
theorem zsl4 {a : Nat} (h : a < 2 ^ 28) : nI a <<< (nI 4 &&& 31) = nI (a * 16) := pk_shlN _ 4 (by decide) (by omega)
theorem zsl8 {a : Nat} (h : a < 2 ^ 24) : nI a <<< (nI 8 &&& 31) = nI (a * 256) := pk_shlN _ 8 (by decide) (by omega)
/-- a NUM's code -/
def zvn (a : Nat) : Prop := (∃ x, x ≤ 99 ∧ a = 36 * 256 + x) ∨ (∃ k p, 27 ≤ k ∧ k ≤ 29 ∧ p < 4 ∧ a = k * 256 + p * 16) ∨ (∃ k p i, 30 ≤ k ∧ k ≤ 34 ∧ p < 4 ∧ 1 ≤ i ∧ i ≤ 9 ∧ a = k * 256 + p * 16 + i)
def zval (D : zDT) (mk : Nat) (P : Nat → List Nat) (a : Nat) : Nat := if a / 256 = 36 then a % 256 else if a / 256 = 27 then (P (a / 16 % 4)).length else if a / 256 = 28 then zup (P (a / 16 % 4)) else if a / 256 = 29 then zwh mk (P (a / 16 % 4)) 0 else zpr D (a / 256) ((P (a / 16 % 4)).getD (a % 16 - 1) 0)
set_option maxHeartbeats 2000000 in
theorem e_val {d t n mk : Nat} {σ : zH} {D : zDT} (hT : zTb σ t) (ht : 8 < t) (hD : zDk σ D n) {ly hd sz : Nat → Int32} {P : Nat → List Nat} (hR : zTR ly sz P) (h32 : ∀ p < 4, ∀ c ∈ P p, zco c) (hmk : mk < 16) (hb : zDb D) {Q : Option Value → zH → Prop} {a : Nat} (ha : zvn a) (hQ : Q (some (.int (nI (zval D mk P a)))) (zTa σ t ly hd sz (nI mk))) : zM (d + 2) 8 [.ref t, .int (nI a)] (zTa σ t ly hd sz (nI mk)) Q := by
  have ⟨k0, k1, k2, k3, n1, n2, n3, q0, q1, q2, q3⟩ := hT
  have hD' := zDk_Ta hD ht ly hd sz (nI mk)
  refine b8 ?_
  rcases ha with ⟨x, hx, rfl⟩ | ⟨k, p, h1, h2, hp, rfl⟩ | ⟨k, p, i, h1, h2, hp, hi1, hi2, rfl⟩
  · rw [zsr8 (by omega), show (36 * 256 + x) / 256 = 36 by omega]
    (try simp (disch := omega) only [zh, zh_st, ↓reduceIte, Nat.add_left_cancel_iff, Nat.reduceEqDiff, Nat.add_sub_cancel, Nat.reduceAdd, Nat.reduceSub, Nat.reduceMul, ← nI_0, zu_same, zu_ne, zoi, zoi_m1, nI_add, pk_mul, pk_sub, zcl, nI_leI, nI_ltI, nI_eq, ite_not, reduceCtorEq, zqi_s, zql_s, zqv_s, true_and, and_true, vp_in_nI, not_true_eq_false, not_false_eq_true, or_true, true_or, or_false, false_or, and_self, zand255])
    have e : zval D mk P (36 * 256 + x) = (36 * 256 + x) % 256 := by unfold zval; rw [if_pos (by omega)]
    rw [e] at hQ
    exact hQ
  · rw [zsr8 (by omega), zsr4 (by omega), zand3, show (k * 256 + p * 16) / 256 = k by omega, show (k * 256 + p * 16) / 16 % 4 = p by omega]
    unfold zval at hQ
    rw [show (k * 256 + p * 16) / 256 = k by omega, show (k * 256 + p * 16) / 16 % 4 = p by omega, if_neg (by omega)] at hQ
    have sp := (hR p hp).1
    rcases (show k = 27 ∨ k = 28 ∨ k = 29 by omega) with rfl | rfl | rfl
    · (try simp (disch := omega) only [zh, zh_st, ↓reduceIte, Nat.add_left_cancel_iff, Nat.reduceEqDiff, Nat.add_sub_cancel, Nat.reduceAdd, Nat.reduceSub, Nat.reduceMul, ← nI_0, zu_same, zu_ne, zoi, zoi_m1, nI_add, pk_mul, pk_sub, zcl, nI_leI, nI_ltI, nI_eq, ite_not, reduceCtorEq, zqi_s, zql_s, zqv_s, true_and, and_true, vp_in_nI, not_true_eq_false, not_false_eq_true, or_true, true_or, or_false, false_or, and_self, zTa_k, zTa_ly, zTa_hd, zTa_sz, zTa_mk, zTa_r, k0, k3, n3, q3, sp])
      exact hQ
    · (try simp (disch := omega) only [zh, zh_st, ↓reduceIte, Nat.add_left_cancel_iff, Nat.reduceEqDiff, Nat.add_sub_cancel, Nat.reduceAdd, Nat.reduceSub, Nat.reduceMul, ← nI_0, zu_same, zu_ne, zoi, zoi_m1, nI_add, pk_mul, pk_sub, zcl, nI_leI, nI_ltI, nI_eq, ite_not, reduceCtorEq, zqi_s, zql_s, zqv_s, true_and, and_true, vp_in_nI, not_true_eq_false, not_false_eq_true, or_true, true_or, or_false, false_or, and_self, zTa_k, zTa_ly, zTa_hd, zTa_sz, zTa_mk, zTa_r, k0])
      exact e_up hT ht hD hR hp (h32 p hp) hQ
    · (try simp (disch := omega) only [zh, zh_st, ↓reduceIte, Nat.add_left_cancel_iff, Nat.reduceEqDiff, Nat.add_sub_cancel, Nat.reduceAdd, Nat.reduceSub, Nat.reduceMul, ← nI_0, zu_same, zu_ne, zoi, zoi_m1, nI_add, pk_mul, pk_sub, zcl, nI_leI, nI_ltI, nI_eq, ite_not, reduceCtorEq, zqi_s, zql_s, zqv_s, true_and, and_true, vp_in_nI, not_true_eq_false, not_false_eq_true, or_true, true_or, or_false, false_or, and_self, zTa_k, zTa_ly, zTa_hd, zTa_sz, zTa_mk, zTa_r, k0])
      exact e_wh hT ht hD hmk hR hp (h32 p hp) hQ
  · rw [zsr8 (by omega), zsr4 (by omega), zand3, zand15, show (k * 256 + p * 16 + i) / 256 = k by omega, show (k * 256 + p * 16 + i) / 16 % 4 = p by omega, show (k * 256 + p * 16 + i) % 16 = i by omega]
    unfold zval at hQ
    rw [show (k * 256 + p * 16 + i) / 256 = k by omega, show (k * 256 + p * 16 + i) / 16 % 4 = p by omega, show (k * 256 + p * 16 + i) % 16 = i by omega, if_neg (by omega), if_neg (by omega), if_neg (by omega), if_neg (by omega)] at hQ
    obtain ⟨j, rfl⟩ : ∃ j, i = j + 1 := ⟨i - 1, by omega⟩
    rw [Nat.add_sub_cancel] at hQ
    rcases (show k = 30 ∨ k = 31 ∨ k = 32 ∨ k = 33 ∨ k = 34 by omega) with rfl | rfl | rfl | rfl | rfl <;> ((try simp (disch := omega) only [zh, zh_st, ↓reduceIte, Nat.add_left_cancel_iff, Nat.reduceEqDiff, Nat.add_sub_cancel, Nat.reduceAdd, Nat.reduceSub, Nat.reduceMul, ← nI_0, zu_same, zu_ne, zoi, zoi_m1, nI_add, pk_mul, pk_sub, zcl, nI_leI, nI_ltI, nI_eq, ite_not, reduceCtorEq, zqi_s, zql_s, zqv_s, true_and, and_true, vp_in_nI, not_true_eq_false, not_false_eq_true, or_true, true_or, or_false, false_or, and_self, zTa_k, zTa_ly, zTa_hd, zTa_sz, zTa_mk, zTa_r, k0, q0])) <;> exact e_cp (F := fun x σ1 => Q (some (.int x)) σ1) hT ht hD hR hp (h32 p hp) (by omega) (by omega) (by omega) hQ
theorem zval_lt {D : zDT} (hb : zDb D) {mk : Nat} {P : Nat → List Nat} (hl : ∀ p < 4, (P p).length ≤ 9) {a : Nat} (ha : zvn a) : zval D mk P a < 2 ^ 30 := by
  have hu : ∀ l : List Nat, zup l ≤ l.length := by
    intro l
    induction l with
    | nil => simp [zup]
    | cons c l ih => simp only [zup, List.length_cons]; split <;> omega
  have hw : ∀ (l : List Nat) (i : Nat), zwh mk l i ≤ i + l.length := by
    intro l
    induction l with
    | nil => intro i; simp [zwh]
    | cons c l ih =>
      intro i
      simp only [zwh, List.length_cons]
      split
      · omega
      · have := ih (i + 1); omega
  have hpr : ∀ k c, zpr D k c ≤ 20 := by
    intro k c
    unfold zpr
    have h := hb.1 (c % 16)
    have := Nat.mod_lt c (show 0 < 16 by decide)
    repeat (first | omega | split)
  have h9 := hl (a / 16 % 4) (by omega)
  unfold zval
  split
  · omega
  · split
    · omega
    · split
      · have := hu (P (a / 16 % 4)); omega
      · split
        · have := hw (P (a / 16 % 4)) 0; omega
        · have := hpr (a / 256) ((P (a / 16 % 4)).getD (a % 16 - 1) 0); omega
def zcmp (s a b : Nat) : Bool := if s = 42 then a == b else if s = 43 then a != b else if s = 44 then decide (a < b) else if s = 45 then decide (a ≤ b) else if s = 46 then decide (b < a) else decide (b ≤ a)
set_option maxHeartbeats 1000000 in
theorem e_cmp {d s a b : Nat} {σ : zH} (h1 : 42 ≤ s) (h2 : s ≤ 47) (ha : a < 2 ^ 30) (hb : b < 2 ^ 30) {Q : Option Value → zH → Prop} (hQ : Q (some (.int (nI (zbn1 (zcmp s a b))))) σ) : zM d 7 [.int (nI s), .int (nI a), .int (nI b)] σ Q := by
  refine b7 ?_
  rcases (show s = 42 ∨ s = 43 ∨ s = 44 ∨ s = 45 ∨ s = 46 ∨ s = 47 by omega) with rfl | rfl | rfl | rfl | rfl | rfl <;> ((try simp (disch := omega) only [zh, zh_st, ↓reduceIte, Nat.add_left_cancel_iff, Nat.reduceEqDiff, Nat.add_sub_cancel, Nat.reduceAdd, Nat.reduceSub, Nat.reduceMul, ← nI_0, zu_same, zu_ne, zoi, zoi_m1, nI_add, pk_mul, pk_sub, zcl, nI_leI, nI_ltI, nI_eq, ite_not, reduceCtorEq, zqi_s, zql_s, zqv_s, true_and, and_true, vp_in_nI, not_true_eq_false, not_false_eq_true, or_true, true_or, or_false, false_or, and_self, ])) <;> unfold zcmp zbn1 at hQ <;> simp only [Nat.reduceEqDiff, if_false, if_true, ↓reduceIte] at hQ
  · by_cases h : a = b <;> simp [h] at hQ ⊢ <;> exact hQ
  · by_cases h : a = b <;> simp [h] at hQ ⊢ <;> exact hQ
  · by_cases h : a < b
    · rw [if_neg (by omega)]; simpa [h] using hQ
    · rw [if_pos (by omega)]; simpa [h] using hQ
  · by_cases h : a ≤ b
    · rw [if_neg (by omega)]; simpa [h] using hQ
    · rw [if_pos (by omega)]; simpa [h] using hQ
  · by_cases h : b < a
    · rw [if_neg (by omega)]; simpa [h] using hQ
    · rw [if_pos (by omega)]; simpa [h] using hQ
  · by_cases h : b ≤ a
    · rw [if_neg (by omega)]; simpa [h] using hQ
    · rw [if_pos (by omega)]; simpa [h] using hQ
/-- codes -/
abbrev zCd : Type := Nat × Nat × Nat
def zvc (c : zCd) : Prop := (c.1 = 21 ∨ c.1 = 22 ∨ c.1 = 23) ∨ (c.1 = 24 ∧ 31 ≤ c.2.1 ∧ c.2.1 ≤ 33 ∧ ∃ p, p < 4 ∧ c.2.2 = p * 16) ∨ (c.1 = 25 ∧ 31 ≤ c.2.1 ∧ c.2.1 ≤ 33 ∧ ∃ p g, p < 4 ∧ 2 ≤ g ∧ g ≤ 9 ∧ c.2.2 = p * 16 + g) ∨ (c.1 = 26 ∧ c.2.1 = 31 ∧ ∃ p, p < 4 ∧ c.2.2 = p * 16) ∨ (42 ≤ c.1 ∧ c.1 ≤ 47 ∧ zvn c.2.1 ∧ zvn c.2.2)
def zct (D : zDT) (mk : Nat) (P : Nat → List Nat) (c : zCd) : Bool := if c.1 = 24 then zal (zpr D c.2.1) (zpr D c.2.1 ((P (c.2.2 / 16 % 4)).getD 0 0)) ((P (c.2.2 / 16 % 4)).drop 1) else if c.1 = 25 then zea (zpr D c.2.1) (c.2.2 % 16) [] (P (c.2.2 / 16 % 4)) else if c.1 = 26 then zris (zpr D 31) ((P (c.2.2 / 16 % 4)).getD 0 0) ((P (c.2.2 / 16 % 4)).drop 1) else zcmp c.1 (zval D mk P c.2.1) (zval D mk P c.2.2)
/-- the Conditions object at o holds these codes from place i on -/
def zCo (σ : zH) (o : Nat) : Prop := zK σ o = 1 ∧ zQ σ o 0 = o + 1 ∧ zQ σ o 1 = o + 2 ∧ zQ σ o 2 = o + 3 ∧ zK σ (o + 1) = 20 ∧ zK σ (o + 2) = 20 ∧ zK σ (o + 3) = 20 ∧ zN σ (o + 1) = 450 ∧ zN σ (o + 2) = 450 ∧ zN σ (o + 3) = 450
def zCc (σ : zH) (o i : Nat) (c : zCd) : Prop := zA σ (o + 1) i = nI c.1 ∧ zA σ (o + 2) i = nI c.2.1 ∧ zA σ (o + 3) i = nI c.2.2
theorem zCo_Ta {σ : zH} {o t : Nat} (h : zCo σ o) (ly hd sz : Nat → Int32) (mk : Int32) : zCo (zTa σ t ly hd sz mk) o := by
  unfold zCo at *
  simp only [zTa_k]
  exact h
theorem zCc_Ta {σ : zH} {o t i : Nat} {c : zCd} (h : zCc σ o i c) (ho : o + 3 < t + 1 ∨ t + 3 < o + 1) (ly hd sz : Nat → Int32) (mk : Int32) : zCc (zTa σ t ly hd sz mk) o i c := by
  unfold zCc at *
  rw [zTa_oA ly hd sz mk (show o + 1 ≠ t + 1 by omega) (show o + 1 ≠ t + 2 by omega) (show o + 1 ≠ t + 3 by omega), zTa_oA ly hd sz mk (show o + 2 ≠ t + 1 by omega) (show o + 2 ≠ t + 2 by omega) (show o + 2 ≠ t + 3 by omega), zTa_oA ly hd sz mk (show o + 3 ≠ t + 1 by omega) (show o + 3 ≠ t + 2 by omega) (show o + 3 ≠ t + 3 by omega)]
  exact h
theorem zb01' (b : Bool) : nI (zbn1 b) = 0 ∨ nI (zbn1 b) = 1 := by cases b <;> decide
theorem zvc_pq {p g : Nat} (hp : p < 4) (hg : g ≤ 9) : (p * 16 + g) / 16 % 4 = p ∧ (p * 16 + g) % 16 = g ∧ (p * 16) / 16 % 4 = p := by omega
set_option maxHeartbeats 2000000 in
theorem e_isTrue {d t n mk : Nat} {σ : zH} {D : zDT} (hT : zTb σ t) (ht : 8 < t) (hD : zDk σ D n) {ly hd sz : Nat → Int32} {P : Nat → List Nat} (hR : zTR ly sz P) (h32 : ∀ p < 4, ∀ c ∈ P p, zco c) (hmk : mk < 16) (hb : zDb D) {Q : Option Value → zH → Prop} {o i : Nat} {c : zCd} (hl : ∀ p < 4, (P p).length ≤ 9) (hc : zvc c) (h23 : ¬ (c.1 = 21 ∨ c.1 = 22 ∨ c.1 = 23)) (hO : zCo σ o) (hC : zCc σ o i c) (ho : o + 3 < t + 1 ∨ t + 3 < o + 1) (hi : i < 450) (hQ : Q (some (.int (nI (zbn1 (zct D mk P c))))) (zTa σ t ly hd sz (nI mk))) : zM (d + 3) 6 [.ref o, .ref t, .int (nI i)] (zTa σ t ly hd sz (nI mk)) Q := by
  have ⟨k0, k1, k2, k3, n1, n2, n3, q0, q1, q2, q3⟩ := hT
  obtain ⟨ck, a, b⟩ := c
  have ⟨o1, o2, o3, o4, o5, o6, o7, o8, o9, o10⟩ := hO
  have ⟨c1, c2, c3⟩ := zCc_Ta hC ho ly hd sz (nI mk)
  simp only at c1 c2 c3 h23
  unfold zvc at hc
  unfold zct at hQ
  simp only at hc hQ
  refine b6 ?_
  rcases hc with h | ⟨rfl, h1, h2, p, hp, rfl⟩ | ⟨rfl, h1, h2, p, g, hp, hg1, hg2, rfl⟩ | ⟨rfl, rfl, p, hp, rfl⟩ | ⟨h1, h2, va, vb⟩
  · exact absurd h h23
  · rw [(zvc_pq (g := 0) hp (by omega)).2.2] at hQ
    (try simp (disch := omega) only [zh, zh_st, ↓reduceIte, Nat.add_left_cancel_iff, Nat.reduceEqDiff, Nat.add_sub_cancel, Nat.reduceAdd, Nat.reduceSub, Nat.reduceMul, ← nI_0, zu_same, zu_ne, zoi, zoi_m1, nI_add, pk_mul, pk_sub, zcl, nI_leI, nI_ltI, nI_eq, ite_not, reduceCtorEq, zqi_s, zql_s, zqv_s, true_and, and_true, vp_in_nI, not_true_eq_false, not_false_eq_true, or_true, true_or, or_false, false_or, and_self, zTa_k, zTa_ly, zTa_hd, zTa_sz, zTa_mk, zTa_r, k0, o1, o2, o3, o4, o5, o6, o7, o8, o9, o10, c1, c2, c3, zsr4, zand3, (zvc_pq (g := 0) hp (by omega)).2.2])
    refine e_al hT ht hD hR hp (h32 p hp) hb h1 h2 ?_
    exact ⟨zb01' _, hQ⟩
  · rw [(zvc_pq hp hg2).1, (zvc_pq hp hg2).2.1] at hQ
    (try simp (disch := omega) only [zh, zh_st, ↓reduceIte, Nat.add_left_cancel_iff, Nat.reduceEqDiff, Nat.add_sub_cancel, Nat.reduceAdd, Nat.reduceSub, Nat.reduceMul, ← nI_0, zu_same, zu_ne, zoi, zoi_m1, nI_add, pk_mul, pk_sub, zcl, nI_leI, nI_ltI, nI_eq, ite_not, reduceCtorEq, zqi_s, zql_s, zqv_s, true_and, and_true, vp_in_nI, not_true_eq_false, not_false_eq_true, or_true, true_or, or_false, false_or, and_self, zTa_k, zTa_ly, zTa_hd, zTa_sz, zTa_mk, zTa_r, k0, o1, o2, o3, o4, o5, o6, o7, o8, o9, o10, c1, c2, c3, zsr4, zand3, zand15, (zvc_pq hp hg2).1, (zvc_pq hp hg2).2.1])
    refine e_ea hT ht hD hR hp (h32 p hp) hb h1 h2 hg2 (by omega) ?_
    exact ⟨zb01' _, hQ⟩
  · rw [(zvc_pq (g := 0) hp (by omega)).2.2] at hQ
    (try simp (disch := omega) only [zh, zh_st, ↓reduceIte, Nat.add_left_cancel_iff, Nat.reduceEqDiff, Nat.add_sub_cancel, Nat.reduceAdd, Nat.reduceSub, Nat.reduceMul, ← nI_0, zu_same, zu_ne, zoi, zoi_m1, nI_add, pk_mul, pk_sub, zcl, nI_leI, nI_ltI, nI_eq, ite_not, reduceCtorEq, zqi_s, zql_s, zqv_s, true_and, and_true, vp_in_nI, not_true_eq_false, not_false_eq_true, or_true, true_or, or_false, false_or, and_self, zTa_k, zTa_ly, zTa_hd, zTa_sz, zTa_mk, zTa_r, k0, o1, o2, o3, o4, o5, o6, o7, o8, o9, o10, c1, c2, c3, zsr4, zand3, (zvc_pq (g := 0) hp (by omega)).2.2])
    refine e_ri hT ht hD hR hp (h32 p hp) hb ?_
    exact ⟨zb01' _, hQ⟩
  · rw [if_neg (by omega), if_neg (by omega), if_neg (by omega)] at hQ
    (try simp (disch := omega) only [zh, zh_st, ↓reduceIte, Nat.add_left_cancel_iff, Nat.reduceEqDiff, Nat.add_sub_cancel, Nat.reduceAdd, Nat.reduceSub, Nat.reduceMul, ← nI_0, zu_same, zu_ne, zoi, zoi_m1, nI_add, pk_mul, pk_sub, zcl, nI_leI, nI_ltI, nI_eq, ite_not, reduceCtorEq, zqi_s, zql_s, zqv_s, true_and, and_true, vp_in_nI, if_pos, if_neg, not_true_eq_false, not_false_eq_true, or_true, true_or, or_false, false_or, and_self, zTa_k, zTa_ly, zTa_hd, zTa_sz, zTa_mk, zTa_r, k0, o1, o2, o3, o4, o5, o6, o7, o8, o9, o10, c1, c2, c3])
    refine e_val hT ht hD hR h32 hmk hb va ?_
    (try simp (disch := omega) only [zh, zh_st, ↓reduceIte, Nat.add_left_cancel_iff, Nat.reduceEqDiff, Nat.add_sub_cancel, Nat.reduceAdd, Nat.reduceSub, Nat.reduceMul, ← nI_0, zu_same, zu_ne, zoi, zoi_m1, nI_add, pk_mul, pk_sub, zcl, nI_leI, nI_ltI, nI_eq, ite_not, reduceCtorEq, zqi_s, zql_s, zqv_s, true_and, and_true, vp_in_nI, if_pos, if_neg, not_true_eq_false, not_false_eq_true, or_true, true_or, or_false, false_or, and_self, zTa_k, zTa_ly, zTa_hd, zTa_sz, zTa_mk, zTa_r, k0, o1, o2, o3, o4, o5, o6, o7, o8, o9, o10, c1, c2, c3])
    refine e_val hT ht hD hR h32 hmk hb vb ?_
    (try simp (disch := omega) only [zh, zh_st, ↓reduceIte, Nat.add_left_cancel_iff, Nat.reduceEqDiff, Nat.add_sub_cancel, Nat.reduceAdd, Nat.reduceSub, Nat.reduceMul, ← nI_0, zu_same, zu_ne, zoi, zoi_m1, nI_add, pk_mul, pk_sub, zcl, nI_leI, nI_ltI, nI_eq, ite_not, reduceCtorEq, zqi_s, zql_s, zqv_s, true_and, and_true, vp_in_nI, if_pos, if_neg, not_true_eq_false, not_false_eq_true, or_true, true_or, or_false, false_or, and_self, ])
    refine e_cmp h1 h2 (zval_lt hb hl va) (zval_lt hb hl vb) ?_
    exact ⟨zb01' _, hQ⟩
/-! running codes over a stack of truths -/
def zop (f : zCd → Bool) (c : zCd) (st : List Bool) : List Bool := if c.1 = 21 then (match st with | b :: a :: s => (a || b) :: s | s => s) else if c.1 = 22 then (match st with | b :: a :: s => (a && b) :: s | s => s) else if c.1 = 23 then (match st with | b :: s => (!b) :: s | s => s) else f c :: st
def zev (f : zCd → Bool) : List zCd → List Bool → List Bool
  | [], st => st
  | c :: cs, st => zev f cs (zop f c st)
/-- how high the stack stands: never over 29, and high enough -/
def zsafe : List zCd → Nat → Prop
  | [], _ => True
  | c :: cs, n => if c.1 = 21 ∨ c.1 = 22 then 2 ≤ n ∧ zsafe cs (n - 1) else if c.1 = 23 then 1 ≤ n ∧ zsafe cs n else n ≤ 28 ∧ zsafe cs (n + 1)
def zbits : List Bool → Nat
  | [] => 0
  | b :: s => 2 * zbits s + zbn1 b
theorem zbits_lt (st : List Bool) : zbits st < 2 ^ st.length := by
  induction st with
  | nil => decide
  | cons b s ih =>
    simp only [zbits, List.length_cons, Nat.pow_succ]
    cases b <;> simp only [zbn1] <;> split <;> omega
theorem zIxor1 (a : Nat) (h : a < 2 ^ 31) : nI a ^^^ nI 1 = nI (a ^^^ 1) := by
  apply Int32.toBitVec_inj.mp
  apply BitVec.eq_of_toNat_eq
  rw [Int32.toBitVec_xor, BitVec.toNat_xor, pk_tn (by omega), pk_tn (by decide), pk_tn (Nat.lt_trans (Nat.xor_lt_two_pow h (by decide)) (by decide))]
theorem zxor1 (a : Nat) (b : Bool) : (2 * a + zbn1 b) ^^^ 1 = 2 * a + zbn1 (!b) := by
  apply Nat.eq_of_testBit_eq
  intro i
  cases i with
  | zero => cases b <;> simp [zbn1]
  | succ i =>
    rw [Nat.testBit_xor, Nat.testBit_succ, Nat.testBit_succ, Nat.testBit_succ]
    cases b <;> simp [zbn1] <;> congr 1 <;> omega
theorem zor1 (a : Nat) (c b : Bool) : (2 * a + zbn1 c) ||| zbn1 b = 2 * a + zbn1 (c || b) := by
  cases b with
  | false => simp [zbn1]
  | true =>
    apply Nat.eq_of_testBit_eq
    intro i
    cases i with
    | zero => cases c <;> simp [zbn1]
    | succ i =>
      rw [Nat.testBit_or, Nat.testBit_succ, Nat.testBit_succ, Nat.testBit_succ]
      cases c <;> simp [zbn1] <;> congr 1 <;> omega
theorem zandm2 (a : Nat) (c : Bool) (h : 2 * a + zbn1 c < 2 ^ 31) : nI (2 * a + zbn1 c) &&& (-2) = nI (2 * a) := by
  have e : (-2 : Int32) = nI 4294967294 := by decide
  rw [e, zIand (by omega) (by decide)]
  congr 1
  apply Nat.eq_of_testBit_eq
  intro i
  rw [Nat.testBit_and]
  cases i with
  | zero => cases c <;> simp [zbn1]
  | succ i =>
    rw [Nat.testBit_succ, Nat.testBit_succ, Nat.testBit_succ]
    have e1 : (2 * a + zbn1 c) / 2 = a := by cases c <;> simp [zbn1] <;> omega
    have e2 : 2 * a / 2 = a := by omega
    have e3 : (4294967294 : Nat) / 2 = 2 ^ 31 - 1 := by decide
    rw [e1, e2, e3, Nat.testBit_two_pow_sub_one]
    by_cases hi : i < 31
    · simp [hi]
    · have : a < 2 ^ i := Nat.lt_of_lt_of_le (show a < 2 ^ 31 by omega) (Nat.pow_le_pow_right (by decide) (by omega))
      rw [Nat.testBit_lt_two_pow this]
      simp
