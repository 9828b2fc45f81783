/-! what is printed on the cards; the tests of a pile -/
abbrev zDT : Type := (Nat → Nat) × (Nat → Nat) × (Nat → Nat)
/-- the class's Deck holds D and n cards -/
def zDk (σ : zH) (D : zDT) (n : Nat) : Prop := zK σ 4 = 2 ∧ zQ σ 4 0 = 5 ∧ zQ σ 4 1 = 6 ∧ zQ σ 4 2 = 7 ∧ zQ σ 4 3 = 8 ∧ zK σ 5 = 20 ∧ zK σ 6 = 20 ∧ zK σ 7 = 20 ∧ zK σ 8 = 20 ∧ zN σ 5 = 16 ∧ zN σ 6 = 16 ∧ zN σ 7 = 16 ∧ zN σ 8 = 9 ∧ zI σ 4 4 = nI n ∧ (∀ c, c < 16 → zA σ 5 c = nI (D.1 c)) ∧ (∀ c, c < 16 → zA σ 6 c = nI (D.2.1 c)) ∧ (∀ c, c < 16 → zA σ 7 c = nI (D.2.2 c))
def zDb (D : zDT) : Prop := (∀ c, D.1 c ≤ 13 ∧ D.2.1 c ≤ 13 ∧ D.2.2 c ≤ 13) ∧ D.1 0 = 0 ∧ D.2.1 0 = 0 ∧ D.2.2 0 = 0
theorem zDk_Ta {σ : zH} {D : zDT} {n t : Nat} (h : zDk σ D n) (ht : 8 < t) (ly hd sz : Nat → Int32) (mk : Int32) : zDk (zTa σ t ly hd sz mk) D n := by
  unfold zDk at *
  simp only [zTa_k, zTa_oI ly hd sz mk (show 4 ≠ t by omega), zTa_oA ly hd sz mk (show 5 ≠ t + 1 by omega) (show 5 ≠ t + 2 by omega) (show 5 ≠ t + 3 by omega), zTa_oA ly hd sz mk (show 6 ≠ t + 1 by omega) (show 6 ≠ t + 2 by omega) (show 6 ≠ t + 3 by omega), zTa_oA ly hd sz mk (show 7 ≠ t + 1 by omega) (show 7 ≠ t + 2 by omega) (show 7 ≠ t + 3 by omega)]
  exact h
/-- kinds: 30 card, 31 value, 32 suit, 33 colour, 34 face -/
def zpr (D : zDT) (k c : Nat) : Nat := if k = 30 then c % 16 else if k = 31 then D.1 (c % 16) else if k = 32 then D.2.1 (c % 16) else if k = 33 then D.2.2 (c % 16) else if 16 ≤ c then 1 else 0
set_option maxHeartbeats 1000000 in
theorem e_prop {d k c n : Nat} {σ : zH} {D : zDT} (hD : zDk σ D n) (h1 : 30 ≤ k) (h2 : k ≤ 34) (hc : c < 32) {Q : Option Value → zH → Prop} (hQ : Q (some (.int (nI (zpr D k c)))) σ) : zM d 13 [.ref 4, .int (nI k), .int (nI c)] σ Q := by
  obtain ⟨a1, a2, a3, a4, a5, a6, a7, a8, a9, a10, a11, a12, a13, a14, a15, a16, a17⟩ := hD
  have hm : c % 16 < 16 := Nat.mod_lt _ (by decide)
  refine b13 ?_
  rcases (show k = 30 ∨ k = 31 ∨ k = 32 ∨ k = 33 ∨ k = 34 by omega) with rfl | rfl | rfl | rfl | rfl
  · (try simp (disch := omega) only [zh, zh_st, ↓reduceIte, Nat.add_left_cancel_iff, Nat.reduceEqDiff, Nat.add_sub_cancel, Nat.reduceAdd, Nat.reduceSub, Nat.reduceMul, ← nI_0, zu_same, zu_ne, zoi, zoi_m1, nI_add, pk_mul, pk_sub, zcl, nI_leI, nI_ltI, nI_eq, ite_not, reduceCtorEq, zqi_s, zql_s, zqv_s, true_and, and_true, vp_in_nI, not_true_eq_false, not_false_eq_true, or_true, true_or, or_false, false_or, and_self, zand15])
    exact hQ
  · (try simp (disch := omega) only [zh, zh_st, ↓reduceIte, Nat.add_left_cancel_iff, Nat.reduceEqDiff, Nat.add_sub_cancel, Nat.reduceAdd, Nat.reduceSub, Nat.reduceMul, ← nI_0, zu_same, zu_ne, zoi, zoi_m1, nI_add, pk_mul, pk_sub, zcl, nI_leI, nI_ltI, nI_eq, ite_not, reduceCtorEq, zqi_s, zql_s, zqv_s, true_and, and_true, vp_in_nI, not_true_eq_false, not_false_eq_true, or_true, true_or, or_false, false_or, and_self, zand15, a1, a2, a6, a10, a15 _ hm])
    exact hQ
  · (try simp (disch := omega) only [zh, zh_st, ↓reduceIte, Nat.add_left_cancel_iff, Nat.reduceEqDiff, Nat.add_sub_cancel, Nat.reduceAdd, Nat.reduceSub, Nat.reduceMul, ← nI_0, zu_same, zu_ne, zoi, zoi_m1, nI_add, pk_mul, pk_sub, zcl, nI_leI, nI_ltI, nI_eq, ite_not, reduceCtorEq, zqi_s, zql_s, zqv_s, true_and, and_true, vp_in_nI, not_true_eq_false, not_false_eq_true, or_true, true_or, or_false, false_or, and_self, zand15, a1, a3, a7, a11, a16 _ hm])
    exact hQ
  · (try simp (disch := omega) only [zh, zh_st, ↓reduceIte, Nat.add_left_cancel_iff, Nat.reduceEqDiff, Nat.add_sub_cancel, Nat.reduceAdd, Nat.reduceSub, Nat.reduceMul, ← nI_0, zu_same, zu_ne, zoi, zoi_m1, nI_add, pk_mul, pk_sub, zcl, nI_leI, nI_ltI, nI_eq, ite_not, reduceCtorEq, zqi_s, zql_s, zqv_s, true_and, and_true, vp_in_nI, not_true_eq_false, not_false_eq_true, or_true, true_or, or_false, false_or, and_self, zand15, a1, a4, a8, a12, a17 _ hm])
    exact hQ
  · (try simp (disch := omega) only [zh, zh_st, ↓reduceIte, Nat.add_left_cancel_iff, Nat.reduceEqDiff, Nat.add_sub_cancel, Nat.reduceAdd, Nat.reduceSub, Nat.reduceMul, ← nI_0, zu_same, zu_ne, zoi, zoi_m1, nI_add, pk_mul, pk_sub, zcl, nI_leI, nI_ltI, nI_eq, ite_not, reduceCtorEq, zqi_s, zql_s, zqv_s, true_and, and_true, vp_in_nI, not_true_eq_false, not_false_eq_true, or_true, true_or, or_false, false_or, and_self, ])
    unfold zpr at hQ
    simp only [Nat.reduceEqDiff, if_false] at hQ
    by_cases h : c < 16
    · rw [if_pos h]
      rw [if_neg (by omega)] at hQ
      exact hQ
    · rw [if_neg h]
      rw [if_pos (by omega)] at hQ
      exact hQ
/-- the card at a place and what it has -/
theorem e_cp {d t p i n k : Nat} {σ : zH} {D : zDT} (hT : zTb σ t) (ht : 8 < t) (hD : zDk σ D n) {ly hd sz : Nat → Int32} {mk : Int32} {P : Nat → List Nat} (hR : zTR ly sz P) (hp : p < 4) (h32 : ∀ c ∈ P p, zco c) (h1 : 30 ≤ k) (h2 : k ≤ 34) (hi : i ≤ 20) {F : Int32 → zH → Prop} (hQ : F (nI (zpr D k ((P p).getD i 0))) (zTa σ t ly hd sz mk)) : zM d 61 [.ref t, .int (nI p), .int (nI (i + 1))] (zTa σ t ly hd sz mk) (fun r σ1 => zqi r (fun x1 => (zK σ1 4 = 2) ∧ zM d 13 [.ref 4, .int (nI k), .int x1] σ1 (fun r σ2 => zqi r (fun x2 => F x2 σ2)))) := by
  refine s_cardAt hT hR hp (by omega) ?_
  have hD' := zDk_Ta hD ht ly hd sz mk
  rw [if_pos (by omega), Nat.add_sub_cancel, zqi_s]
  refine ⟨hD'.1, e_prop hD' h1 h2 ?_ ?_⟩
  · by_cases hl : i < (P p).length
    · exact (zco_0 (h32 _ (zgd_mem hl))).2
    · rw [List.getD_eq_getElem?_getD, List.getElem?_eq_none (by omega)]
      decide
  · exact hQ
theorem zgd_drop {l : List Nat} {i : Nat} (h : i < l.length) : l.drop i = l.getD i 0 :: l.drop (i + 1) := by
  rw [List.drop_eq_getElem_cons h, List.getD_eq_getElem?_getD, List.getElem?_eq_getElem h]
  rfl
def zup : List Nat → Nat
  | [] => 0
  | c :: l => (if 16 ≤ c then 1 else 0) + zup l
def zwh (mk : Nat) : List Nat → Nat → Nat
  | [], _ => 0
  | c :: l, i => if c % 16 = mk then i + 1 else zwh mk l (i + 1)
def zal (f : Nat → Nat) (v : Nat) : List Nat → Bool
  | [] => true
  | c :: l => if f c = v then zal f v l else false
def zdupf : List Nat → Bool
  | [] => false
  | a :: l => l.contains a || zdupf l
def zea (f : Nat → Nat) (k : Nat) : List Nat → List Nat → Bool
  | _, [] => true
  | pre, c :: l => if pre.length + 1 = k then (if zdupf (f c :: pre) then false else zea f k [] l) else zea f k (f c :: pre) l
def zris (f : Nat → Nat) : Nat → List Nat → Bool
  | _, [] => true
  | a, c :: l => if f a < f c then zris f c l else false
def zbn1 (b : Bool) : Nat := if b then 1 else 0
set_option maxHeartbeats 1000000 in
theorem l_up {d t p n : Nat} {σ : zH} {D : zDT} (hT : zTb σ t) (ht : 8 < t) (hD : zDk σ D n) {ly hd sz : Nat → Int32} {mk : Int32} {P : Nat → List Nat} (hR : zTR ly sz P) (hp : p < 4) (h32 : ∀ c ∈ P p, zco c) {Q : Option Value → zH → Prop} : ∀ (m i u : Nat), i + m = (P p).length → u ≤ i → Q (some (.int (nI (u + zup ((P p).drop i))))) (zTa σ t ly hd sz mk) → zW (d + 1) 62 4 [(0, .ref t), (1, .int (nI p)), (2, .int (nI u)), (3, .int (nI (i + 1)))] [] (zTa σ t ly hd sz mk) Q := by
  have ⟨k0, k1, k2, k3, n1, n2, n3, q0, q1, q2, q3⟩ := hT
  have sp := (hR p hp).1
  have lp := (hR p hp).2.1
  intro m
  induction m with
  | zero =>
    intro i u hi hu hQ
    rw [List.drop_eq_nil_of_le (by omega)] at hQ
    refine b62_4 ?_
    (try simp (disch := omega) only [zh, zh_st, ↓reduceIte, Nat.add_left_cancel_iff, Nat.reduceEqDiff, Nat.add_sub_cancel, Nat.reduceAdd, Nat.reduceSub, Nat.reduceMul, ← nI_0, zu_same, zu_ne, zoi, zoi_m1, nI_add, pk_mul, pk_sub, zcl, nI_leI, nI_ltI, nI_eq, ite_not, reduceCtorEq, zqi_s, zql_s, zqv_s, true_and, and_true, vp_in_nI, if_pos, if_neg, not_true_eq_false, not_false_eq_true, or_true, true_or, or_false, false_or, and_self, zTa_k, zTa_ly, zTa_hd, zTa_sz, zTa_mk, zTa_r, k0, k3, n3, q3, sp])
    exact hQ
  | succ m ih =>
    intro i u hi hu hQ
    refine b62_4 ?_
    (try simp (disch := omega) only [zh, zh_st, ↓reduceIte, Nat.add_left_cancel_iff, Nat.reduceEqDiff, Nat.add_sub_cancel, Nat.reduceAdd, Nat.reduceSub, Nat.reduceMul, ← nI_0, zu_same, zu_ne, zoi, zoi_m1, nI_add, pk_mul, pk_sub, zcl, nI_leI, nI_ltI, nI_eq, ite_not, reduceCtorEq, zqi_s, zql_s, zqv_s, true_and, and_true, vp_in_nI, if_pos, if_neg, not_true_eq_false, not_false_eq_true, or_true, true_or, or_false, false_or, and_self, zTa_k, zTa_ly, zTa_hd, zTa_sz, zTa_mk, zTa_r, k0, k3, n3, q3, q0, sp])
    refine e_cp hT ht hD hR hp h32 (by decide) (by decide) (by omega) ?_
    rw [zgd_drop (by omega)] at hQ
    simp only [zup] at hQ
    try rw [nI_add]
    have e : zpr D 34 ((P p).getD i 0) = if 16 ≤ (P p).getD i 0 then 1 else 0 := by simp [zpr]
    rw [e]
    refine ih (i + 1) _ (by omega) (by split <;> omega) ?_
    rw [Nat.add_assoc]
    exact hQ
theorem e_up {d t p n : Nat} {σ : zH} {D : zDT} (hT : zTb σ t) (ht : 8 < t) (hD : zDk σ D n) {ly hd sz : Nat → Int32} {mk : Int32} {P : Nat → List Nat} (hR : zTR ly sz P) (hp : p < 4) (h32 : ∀ c ∈ P p, zco c) {Q : Option Value → zH → Prop} (hQ : Q (some (.int (nI (zup (P p))))) (zTa σ t ly hd sz mk)) : zM (d + 1) 62 [.ref t, .int (nI p)] (zTa σ t ly hd sz mk) Q := by
  refine b62 ?_
  refine l_up hT ht hD hR hp h32 (P p).length 0 0 (by omega) (by omega) ?_
  rw [Nat.zero_add]
  exact hQ
set_option maxHeartbeats 1000000 in
theorem l_wh {d t p n : Nat} {σ : zH} {D : zDT} (hT : zTb σ t) (ht : 8 < t) (hD : zDk σ D n) {ly hd sz : Nat → Int32} {mk : Nat} (hmk : mk < 16) {P : Nat → List Nat} (hR : zTR ly sz P) (hp : p < 4) (h32 : ∀ c ∈ P p, zco c) {Q : Option Value → zH → Prop} : ∀ (m i : Nat), i + m = (P p).length → Q (some (.int (nI (zwh mk ((P p).drop i) i)))) (zTa σ t ly hd sz (nI mk)) → zW (d + 1) 63 2 [(0, .ref t), (1, .int (nI p)), (2, .int (nI (i + 1)))] [] (zTa σ t ly hd sz (nI mk)) Q := by
  have ⟨k0, k1, k2, k3, n1, n2, n3, q0, q1, q2, q3⟩ := hT
  have sp := (hR p hp).1
  have lp := (hR p hp).2.1
  intro m
  induction m with
  | zero =>
    intro i hi hQ
    rw [List.drop_eq_nil_of_le (by omega)] at hQ
    refine b63_2 ?_
    (try simp (disch := omega) only [zh, zh_st, ↓reduceIte, Nat.add_left_cancel_iff, Nat.reduceEqDiff, Nat.add_sub_cancel, Nat.reduceAdd, Nat.reduceSub, Nat.reduceMul, ← nI_0, zu_same, zu_ne, zoi, zoi_m1, nI_add, pk_mul, pk_sub, zcl, nI_leI, nI_ltI, nI_eq, ite_not, reduceCtorEq, zqi_s, zql_s, zqv_s, true_and, and_true, vp_in_nI, if_pos, if_neg, not_true_eq_false, not_false_eq_true, or_true, true_or, or_false, false_or, and_self, zTa_k, zTa_ly, zTa_hd, zTa_sz, zTa_mk, zTa_r, k0, k3, n3, q3, sp])
    exact hQ
  | succ m ih =>
    intro i hi hQ
    refine b63_2 ?_
    (try simp (disch := omega) only [zh, zh_st, ↓reduceIte, Nat.add_left_cancel_iff, Nat.reduceEqDiff, Nat.add_sub_cancel, Nat.reduceAdd, Nat.reduceSub, Nat.reduceMul, ← nI_0, zu_same, zu_ne, zoi, zoi_m1, nI_add, pk_mul, pk_sub, zcl, nI_leI, nI_ltI, nI_eq, ite_not, reduceCtorEq, zqi_s, zql_s, zqv_s, true_and, and_true, vp_in_nI, if_pos, if_neg, not_true_eq_false, not_false_eq_true, or_true, true_or, or_false, false_or, and_self, zTa_k, zTa_ly, zTa_hd, zTa_sz, zTa_mk, zTa_r, k0, k3, n3, q3, q0, sp])
    refine e_cp (F := fun x σ1 => (zK σ1 t = 7) ∧ (if x = (zI σ1 t 4) then Q (some (.int (nI (i + 1)))) σ1 else zW (d + 1) 63 2 [(0, .ref t), (1, .int (nI p)), (2, .int (nI (i + 1 + 1)))] [] σ1 Q)) hT ht hD hR hp h32 (by decide) (by decide) (by omega) ?_
    rw [zgd_drop (by omega)] at hQ
    simp only [zwh] at hQ
    have e : zpr D 30 ((P p).getD i 0) = (P p).getD i 0 % 16 := by simp [zpr]
    have hm : (P p).getD i 0 % 16 < 16 := Nat.mod_lt _ (by decide)
    (try simp (disch := omega) only [zh, zh_st, ↓reduceIte, Nat.add_left_cancel_iff, Nat.reduceEqDiff, Nat.add_sub_cancel, Nat.reduceAdd, Nat.reduceSub, Nat.reduceMul, ← nI_0, zu_same, zu_ne, zoi, zoi_m1, nI_add, pk_mul, pk_sub, zcl, nI_leI, nI_ltI, nI_eq, ite_not, reduceCtorEq, zqi_s, zql_s, zqv_s, true_and, and_true, vp_in_nI, not_true_eq_false, not_false_eq_true, or_true, true_or, or_false, false_or, and_self, zTa_k, zTa_ly, zTa_hd, zTa_sz, zTa_mk, zTa_r, k0, e])
    by_cases h : (P p).getD i 0 % 16 = mk
    · rw [if_pos h] at hQ ⊢
      exact hQ
    · rw [if_neg h] at hQ ⊢
      exact ih (i + 1) (by omega) hQ
theorem e_wh {d t p n : Nat} {σ : zH} {D : zDT} (hT : zTb σ t) (ht : 8 < t) (hD : zDk σ D n) {ly hd sz : Nat → Int32} {mk : Nat} (hmk : mk < 16) {P : Nat → List Nat} (hR : zTR ly sz P) (hp : p < 4) (h32 : ∀ c ∈ P p, zco c) {Q : Option Value → zH → Prop} (hQ : Q (some (.int (nI (zwh mk (P p) 0)))) (zTa σ t ly hd sz (nI mk))) : zM (d + 1) 63 [.ref t, .int (nI p)] (zTa σ t ly hd sz (nI mk)) Q := by
  refine b63 ?_
  exact l_wh hT ht hD hmk hR hp h32 (P p).length 0 (by omega) hQ
