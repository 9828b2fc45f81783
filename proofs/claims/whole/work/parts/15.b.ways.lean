/-! the class's Ways -/
def zWb (σ : zH) (w : Nat) : Prop := zK σ w = 11 ∧ zQ σ w 0 = w + 1 ∧ zQ σ w 1 = w + 2 ∧ zQ σ w 2 = w + 3 ∧ zQ σ w 3 = w + 4 ∧ zK σ (w + 1) = 21 ∧ zK σ (w + 2) = 21 ∧ zK σ (w + 3) = 20 ∧ zK σ (w + 4) = 20 ∧ zN σ (w + 1) = 3000 ∧ zN σ (w + 2) = 3000 ∧ zN σ (w + 3) = 3000 ∧ zN σ (w + 4) = 4096
def zWa (σ : zH) (w : Nat) (li ro : Nat → Int64) (tk sl : Nat → Int32) (sz : Int32) : zH := zsI (zwA (zwA (zwB (zwB σ (w + 1) li) (w + 2) ro) (w + 3) tk) (w + 4) sl) w 4 sz
theorem zWa_k (σ : zH) (w : Nat) (li ro : Nat → Int64) (tk sl : Nat → Int32) (sz : Int32) : zK (zWa σ w li ro tk sl sz) = zK σ ∧ zN (zWa σ w li ro tk sl sz) = zN σ ∧ zQ (zWa σ w li ro tk sl sz) = zQ σ ∧ zJ (zWa σ w li ro tk sl sz) = zJ σ ∧ zS (zWa σ w li ro tk sl sz) = zS σ ∧ zX (zWa σ w li ro tk sl sz) = zX σ ∧ zL (zWa σ w li ro tk sl sz) = zL σ := by
  refine ⟨?_, ?_, ?_, ?_, ?_, ?_, ?_⟩ <;> simp only [zWa, zh]
theorem zWa_r (σ : zH) (w : Nat) (li ro : Nat → Int64) (tk sl : Nat → Int32) (sz : Int32) : zB (zWa σ w li ro tk sl sz) (w + 1) = li ∧ zB (zWa σ w li ro tk sl sz) (w + 2) = ro ∧ zA (zWa σ w li ro tk sl sz) (w + 3) = tk ∧ zA (zWa σ w li ro tk sl sz) (w + 4) = sl ∧ zI (zWa σ w li ro tk sl sz) w 4 = sz := by
  refine ⟨?_, ?_, ?_, ?_, ?_⟩ <;> simp [zWa, zh]
theorem zWa_li (σ : zH) (w : Nat) (li ro f : Nat → Int64) (tk sl : Nat → Int32) (sz : Int32) : zwB (zWa σ w li ro tk sl sz) (w + 1) f = zWa σ w f ro tk sl sz := by
  apply zH_ext <;> first | (simp only [zWa, zh]; done) | (funext b i; simp only [zWa, zh]; done) | (funext b; simp only [zWa, zh]; by_cases h1 : b = w + 2 <;> by_cases h2 : b = w + 1 <;> simp [*])
theorem zWa_ro (σ : zH) (w : Nat) (li ro f : Nat → Int64) (tk sl : Nat → Int32) (sz : Int32) : zwB (zWa σ w li ro tk sl sz) (w + 2) f = zWa σ w li f tk sl sz := by
  apply zH_ext <;> first | (simp only [zWa, zh]; done) | (funext b i; simp only [zWa, zh]; done) | (funext b; simp only [zWa, zh]; by_cases h1 : b = w + 2 <;> by_cases h2 : b = w + 1 <;> simp [*])
theorem zWa_tk (σ : zH) (w : Nat) (li ro : Nat → Int64) (tk sl f : Nat → Int32) (sz : Int32) : zwA (zWa σ w li ro tk sl sz) (w + 3) f = zWa σ w li ro f sl sz := by
  apply zH_ext <;> first | (simp only [zWa, zh]; done) | (funext b i; simp only [zWa, zh]; done) | (funext b; simp only [zWa, zh]; by_cases h1 : b = w + 4 <;> by_cases h2 : b = w + 3 <;> simp [*])
theorem zWa_sl (σ : zH) (w : Nat) (li ro : Nat → Int64) (tk sl f : Nat → Int32) (sz : Int32) : zwA (zWa σ w li ro tk sl sz) (w + 4) f = zWa σ w li ro tk f sz := by
  apply zH_ext <;> first | (simp only [zWa, zh]; done) | (funext b i; simp only [zWa, zh]; done) | (funext b; simp only [zWa, zh]; by_cases h1 : b = w + 4 <;> by_cases h2 : b = w + 3 <;> simp [*])
theorem zWa_sz (σ : zH) (w : Nat) (li ro : Nat → Int64) (tk sl : Nat → Int32) (sz v : Int32) : zsI (zWa σ w li ro tk sl sz) w 4 v = zWa σ w li ro tk sl v := by unfold zWa; rw [zsI_sI]
theorem zWa_self (σ : zH) (w : Nat) : zWa σ w (zB σ (w + 1)) (zB σ (w + 2)) (zA σ (w + 3)) (zA σ (w + 4)) (zI σ w 4) = σ := by
  apply zH_ext <;> first | (simp only [zWa, zh]; done) | (funext b; simp only [zWa, zh]; by_cases h1 : b = w + 4 <;> by_cases h2 : b = w + 3 <;> simp [*]; done) | (funext b; simp only [zWa, zh]; by_cases h1 : b = w + 2 <;> by_cases h2 : b = w + 1 <;> simp [*]; done) | (funext b i; simp only [zWa, zh]; by_cases h : b = w ∧ i = 4 <;> simp [h])
def zM1 : Int64 := Int64.ofInt (-7046029254386353131)
def zhC (k : Nat) : Nat := (lN k * zM1).toBitVec.toNat / 2 ^ 52
theorem zhC_lt (k : Nat) : zhC k < 4096 := by
  unfold zhC
  have := (lN k * zM1).toBitVec.isLt
  omega
theorem zhC_eq (k : Nat) : (zlus (lN k * zM1) (nI 52)).toInt32 = nI (zhC k) := by
  obtain ⟨n, hn, e⟩ := wb_of (lN k * zM1)
  unfold zhC
  rw [e, zlus_N hn (by decide), lN_i, wb_tn hn]
/-- what a Ways holds: keys and rows -/
def zWR (li ro : Nat → Int64) (tk sl : Nat → Int32) (sz : Int32) (L : List (Nat × Nat)) : Prop := sz = nI L.length ∧ L.length ≤ 3000 ∧ (zkeys L).Nodup ∧ (∀ x ∈ L, x.1 < 2 ^ 63 ∧ x.2 < 2 ^ 63) ∧ (∀ i, i < L.length → li i = lN (L.getD i (0, 0)).1 ∧ ro i = lN (L.getD i (0, 0)).2) ∧ ∃ S T : Nat → Nat, (∀ s, s < 4096 → sl s = nI (S s)) ∧ (∀ i, i < L.length → tk i = nI (T i) ∧ T i < 4096) ∧ (∀ s, s < 4096 → S s ≠ 0 → T (S s - 1) = s) ∧ zHI 4096 zhC S (zkeys L)
set_option maxHeartbeats 1000000 in
theorem l_wclear {d w n : Nat} {σ : zH} (hW : zWb σ w) {li ro : Nat → Int64} {tk : Nat → Int32} {T : Nat → Nat} (hn : n ≤ 3000) (hT : ∀ i, i < n → tk i = nI (T i) ∧ T i < 4096) {Q : Option Value → zH → Prop} (hQ : ∀ sl', (∀ s, s < 4096 → sl' s = nI 0) → Q none (zWa σ w li ro tk sl' (nI 0))) : ∀ (m i : Nat), i + m = n → ∀ (sl : Nat → Int32), (∀ s, s < 4096 → sl s = nI 0 ∨ ∃ i', i ≤ i' ∧ i' < n ∧ T i' = s) → zW d 99 2 [(0, .ref w), (1, .int (nI i))] [] (zWa σ w li ro tk sl (nI n)) Q := by
  have ⟨k0, q0, q1, q2, q3, k1, k2, k3, k4, n1, n2, n3, n4⟩ := hW
  intro m
  induction m with
  | zero =>
    intro i hi sl hs
    refine b99_2 ?_
    (try simp (disch := omega) only [zh, zh_st, ↓reduceIte, Nat.add_left_cancel_iff, Nat.reduceEqDiff, Nat.add_sub_cancel, Nat.reduceAdd, Nat.reduceSub, Nat.reduceMul, ← nI_0, zu_same, zu_ne, zoi, zoi_m1, nI_add, pk_mul, pk_sub, zcl, nI_leI, nI_ltI, nI_eq, ite_not, reduceCtorEq, zqi_s, zql_s, zqv_s, true_and, and_true, vp_in_nI, if_pos, if_neg, not_true_eq_false, not_false_eq_true, or_true, true_or, or_false, false_or, and_self, zWa_k, zWa_r, zWa_li, zWa_ro, zWa_tk, zWa_sl, zWa_sz, k0, q0, q1, q2, q3, k1, k2, k3, k4, n1, n2, n3, n4])
    refine hQ sl (fun s h => ?_)
    rcases hs s h with h1 | ⟨i', h1, h2, -⟩
    · exact h1
    · omega
  | succ m ih =>
    intro i hi sl hs
    obtain ⟨t1, t2⟩ := hT i (by omega)
    refine b99_2 ?_
    (try simp (disch := omega) only [zh, zh_st, ↓reduceIte, Nat.add_left_cancel_iff, Nat.reduceEqDiff, Nat.add_sub_cancel, Nat.reduceAdd, Nat.reduceSub, Nat.reduceMul, ← nI_0, zu_same, zu_ne, zoi, zoi_m1, nI_add, pk_mul, pk_sub, zcl, nI_leI, nI_ltI, nI_eq, ite_not, reduceCtorEq, zqi_s, zql_s, zqv_s, true_and, and_true, vp_in_nI, if_pos, if_neg, not_true_eq_false, not_false_eq_true, or_true, true_or, or_false, false_or, and_self, zWa_k, zWa_r, zWa_li, zWa_ro, zWa_tk, zWa_sl, zWa_sz, k0, q0, q1, q2, q3, k1, k2, k3, k4, n1, n2, n3, n4, t1])
    refine ih (i + 1) (by omega) _ (fun s h => ?_)
    by_cases e : s = T i
    · rw [e, zu_same]; exact Or.inl rfl
    · rw [zu_ne _ _ e]
      rcases hs s h with h1 | ⟨i', h1, h2, h3⟩
      · exact Or.inl h1
      · refine Or.inr ⟨i', ?_, h2, h3⟩
        rcases Nat.lt_or_ge i i' with h4 | h4
        · omega
        · exfalso
          have : i' = i := by omega
          subst this
          exact e h3.symm
theorem zWR_nil (li ro : Nat → Int64) (tk : Nat → Int32) {sl : Nat → Int32} (h : ∀ s, s < 4096 → sl s = nI 0) : zWR li ro tk sl (nI 0) [] :=
  ⟨rfl, by simp, by simp [zkeys], by simp, by simp, fun _ => 0, fun _ => 0, h, by simp, fun s hs hne => absurd rfl hne, zHI_nil 4096 zhC (fun s hs => rfl)⟩
theorem e_wclear {d w : Nat} {σ : zH} (hW : zWb σ w) {li ro : Nat → Int64} {tk sl : Nat → Int32} {sz : Int32} {L : List (Nat × Nat)} (hR : zWR li ro tk sl sz L) {Q : Option Value → zH → Prop} (hQ : ∀ sl', zWR li ro tk sl' (nI 0) [] → Q none (zWa σ w li ro tk sl' (nI 0))) : zM d 99 [.ref w] (zWa σ w li ro tk sl sz) Q := by
  obtain ⟨h1, h2, h3, h4, h5, S, T, hS, hT, hST, hI⟩ := hR
  subst h1
  refine b99 ?_
  refine l_wclear hW h2 hT (fun sl' h => hQ sl' (zWR_nil _ _ _ h)) L.length 0 (by omega) sl (fun s hs => ?_)
  by_cases e : S s = 0
  · left; rw [hS s hs, e]
  · right
    have := hI.1 s hs
    rw [zkeys_len] at this
    exact ⟨S s - 1, by omega, by omega, hST s hs e⟩
theorem zgd_set {L : List (Nat × Nat)} {i j : Nat} {x : Nat × Nat} (h : i < L.length) : (L.set i x).getD j (0, 0) = if j = i then x else L.getD j (0, 0) := by
  rw [List.getD_eq_getElem?_getD, List.getD_eq_getElem?_getD, List.getElem?_set]
  by_cases e : i = j
  · subst e; simp [h]
  · rw [if_neg e, if_neg (fun q => e q.symm)]
theorem zgd_app {L : List (Nat × Nat)} {j : Nat} {x : Nat × Nat} (h : j < L.length + 1) : (L ++ [x]).getD j (0, 0) = if j = L.length then x else L.getD j (0, 0) := by
  rw [List.getD_eq_getElem?_getD, List.getD_eq_getElem?_getD]
  by_cases e : j = L.length
  · subst e; simp
  · rw [if_neg e, List.getElem?_append_left (by omega)]
theorem zgd_memP {L : List (Nat × Nat)} {i : Nat} (h : i < L.length) : L.getD i (0, 0) ∈ L := by
  rw [List.getD_eq_getElem?_getD, List.getElem?_eq_getElem h]
  exact List.getElem_mem _
/-- the row of an old key -/
theorem zWR_old {li ro : Nat → Int64} {tk sl : Nat → Int32} {sz : Int32} {L : List (Nat × Nat)} (hR : zWR li ro tk sl sz L) {i k r : Nat} (hi : i < L.length) (he : (L.getD i (0, 0)).1 = k) (hr : r < 2 ^ 63) : zWR li (zu ro i (if lN r < ro i then lN r else ro i)) tk sl sz (zins L k r) := by
  obtain ⟨h1, h2, h3, h4, h5, S, T, hS, hT, hST, hI⟩ := hR
  have hb := h4 _ (zgd_memP hi)
  rw [zins_old h3 hi he]
  have hk := zkeys_set L i k (min (L.getD i (0, 0)).2 r) hi he
  refine ⟨by rw [List.length_set]; exact h1, by rw [List.length_set]; exact h2, by rw [hk]; exact h3, fun x hx => ?_, fun j hj => ?_, S, T, hS, by rw [List.length_set]; exact hT, hST, by rw [hk]; exact hI⟩
  · rcases List.mem_or_eq_of_mem_set hx with hx | hx
    · exact h4 x hx
    · rw [hx]
      exact ⟨by rw [← he]; exact hb.1, by show min _ r < _; omega⟩
  · rw [List.length_set] at hj
    rw [zgd_set hi]
    obtain ⟨a1, a2⟩ := h5 j hj
    by_cases e : j = i
    · subst e
      rw [if_pos rfl, zu_same, a2]
      refine ⟨by rw [a1, he], ?_⟩
      by_cases hlt : r < (L.getD j (0, 0)).2
      · rw [if_pos ((pk_lLT hr hb.2).mpr hlt)]
        show lN r = lN (min _ r)
        rw [Nat.min_eq_right (by omega)]
      · rw [if_neg (fun q => hlt ((pk_lLT hr hb.2).mp q))]
        show _ = lN (min _ r)
        rw [Nat.min_eq_left (by omega)]
    · rw [if_neg e, zu_ne _ _ e]
      exact ⟨a1, a2⟩
