/-! the reference's sets -/
def zGa (σ : zH) (wy rw : Nat → Int64) (ns sl : Nat → Int32) (lg fr : Int32) : zH := zsI (zsI (zwA (zwA (zwB (zwB σ 182 wy) 183 rw) 184 ns) 185 sl) 160 46 lg) 160 47 fr
theorem zGa_k (σ : zH) (wy rw : Nat → Int64) (ns sl : Nat → Int32) (lg fr : Int32) : zK (zGa σ wy rw ns sl lg fr) = zK σ ∧ zN (zGa σ wy rw ns sl lg fr) = zN σ ∧ zQ (zGa σ wy rw ns sl lg fr) = zQ σ ∧ zJ (zGa σ wy rw ns sl lg fr) = zJ σ ∧ zS (zGa σ wy rw ns sl lg fr) = zS σ ∧ zX (zGa σ wy rw ns sl lg fr) = zX σ ∧ zL (zGa σ wy rw ns sl lg fr) = zL σ := by
  refine ⟨?_, ?_, ?_, ?_, ?_, ?_, ?_⟩ <;> simp only [zGa, zh]
theorem zGa_r (σ : zH) (wy rw : Nat → Int64) (ns sl : Nat → Int32) (lg fr : Int32) : zB (zGa σ wy rw ns sl lg fr) 182 = wy ∧ zB (zGa σ wy rw ns sl lg fr) 183 = rw ∧ zA (zGa σ wy rw ns sl lg fr) 184 = ns ∧ zA (zGa σ wy rw ns sl lg fr) 185 = sl ∧ zI (zGa σ wy rw ns sl lg fr) 160 46 = lg ∧ zI (zGa σ wy rw ns sl lg fr) 160 47 = fr := by
  refine ⟨?_, ?_, ?_, ?_, ?_, ?_⟩ <;> simp [zGa, zh]
theorem zGa_wy (σ : zH) (wy rw : Nat → Int64) (ns sl : Nat → Int32) (lg fr : Int32) (f : Nat → Int64) : zwB (zGa σ wy rw ns sl lg fr) 182 f = zGa σ f rw ns sl lg fr := by
  apply zH_ext <;> first | (simp only [zGa, zh]; done) | (funext b i; simp only [zGa, zh]; done) | (funext b; simp only [zGa, zh]; by_cases h1 : b = 182 <;> by_cases h2 : b = 183 <;> simp [*])
theorem zGa_rw (σ : zH) (wy rw : Nat → Int64) (ns sl : Nat → Int32) (lg fr : Int32) (f : Nat → Int64) : zwB (zGa σ wy rw ns sl lg fr) 183 f = zGa σ wy f ns sl lg fr := by
  apply zH_ext <;> first | (simp only [zGa, zh]; done) | (funext b i; simp only [zGa, zh]; done) | (funext b; simp only [zGa, zh]; by_cases h1 : b = 182 <;> by_cases h2 : b = 183 <;> simp [*])
theorem zGa_ns (σ : zH) (wy rw : Nat → Int64) (ns sl : Nat → Int32) (lg fr : Int32) (f : Nat → Int32) : zwA (zGa σ wy rw ns sl lg fr) 184 f = zGa σ wy rw f sl lg fr := by
  apply zH_ext <;> first | (simp only [zGa, zh]; done) | (funext b i; simp only [zGa, zh]; done) | (funext b; simp only [zGa, zh]; by_cases h1 : b = 184 <;> by_cases h2 : b = 185 <;> simp [*])
theorem zGa_sl (σ : zH) (wy rw : Nat → Int64) (ns sl : Nat → Int32) (lg fr : Int32) (f : Nat → Int32) : zwA (zGa σ wy rw ns sl lg fr) 185 f = zGa σ wy rw ns f lg fr := by
  apply zH_ext <;> first | (simp only [zGa, zh]; done) | (funext b i; simp only [zGa, zh]; done) | (funext b; simp only [zGa, zh]; by_cases h1 : b = 184 <;> by_cases h2 : b = 185 <;> simp [*])
theorem zGa_fr (σ : zH) (wy rw : Nat → Int64) (ns sl : Nat → Int32) (lg fr : Int32) (v : Int32) : zsI (zGa σ wy rw ns sl lg fr) 160 47 v = zGa σ wy rw ns sl lg v := by unfold zGa; rw [zsI_sI]
theorem zGa_lg (σ : zH) (wy rw : Nat → Int64) (ns sl : Nat → Int32) (lg fr : Int32) (v : Int32) : zsI (zGa σ wy rw ns sl lg fr) 160 46 v = zGa σ wy rw ns sl v fr := by
  apply zH_ext <;> first | (simp only [zGa, zh]; done) | (funext b i; simp only [zGa, zh]; by_cases h1 : b = 160 <;> by_cases h2 : i = 46 <;> by_cases h3 : i = 47 <;> simp [*]; done) | (funext b; simp only [zGa, zh]; done)
theorem zGa_self (σ : zH) : zGa σ (zB σ 182) (zB σ 183) (zA σ 184) (zA σ 185) (zI σ 160 46) (zI σ 160 47) = σ := by
  apply zH_ext <;> first | (simp only [zGa, zh]; done) | (funext b; simp only [zGa, zh]; by_cases h1 : b = 184 <;> by_cases h2 : b = 185 <;> simp [*]; done) | (funext b; simp only [zGa, zh]; by_cases h1 : b = 182 <;> by_cases h2 : b = 183 <;> simp [*]; done) | (funext b i; simp only [zGa, zh]; by_cases h : b = 160 <;> by_cases h2 : i = 46 <;> by_cases h3 : i = 47 <;> simp [*])
theorem zFq_Ga (σ : zH) (wy rw : Nat → Int64) (ns sl : Nat → Int32) (lg fr : Int32) : zFq σ (zGa σ wy rw ns sl lg fr) := by
  obtain ⟨k1, k2, k3, k4, k5, k6, k7⟩ := zGa_k σ wy rw ns sl lg fr
  refine ⟨k1, k2, k3, k6, k7, k4, k5, fun a i h => ?_, fun a h => ?_, fun a h => ?_⟩
  · unfold zGa
    simp only [zh]
    rw [if_neg (by omega), if_neg (by omega)]
  · unfold zGa
    simp only [zh]
    rw [if_neg (by omega), if_neg (by omega)]
  · unfold zGa
    simp only [zh]
    rw [if_neg (by omega), if_neg (by omega)]
/-- set s holds L -/
def zGS (wy rw : Nat → Int64) (ns : Nat → Int32) (s : Nat) (L : List (Nat × Nat)) : Prop := ns s = nI L.length ∧ L.length ≤ 3000 ∧ (∀ x ∈ L, x.1 < 2 ^ 63 ∧ x.2 < 2 ^ 63) ∧ ∀ i, i < L.length → wy (3001 * s + i) = lN (L.getD i (0, 0)).1 ∧ rw (3001 * s + i) = lN (L.getD i (0, 0)).2
def zhR (k : Nat) : Nat := (lN k * zM1).toBitVec.toNat / 2 ^ 51
theorem zhR_lt (k : Nat) : zhR k < 8192 := by
  unfold zhR
  have := (lN k * zM1).toBitVec.isLt
  omega
theorem zhR_eq (k : Nat) : (zlus (lN k * zM1) (nI 51)).toInt32 = nI (zhR k) := by
  obtain ⟨n, hn, e⟩ := wb_of (lN k * zM1)
  unfold zhR
  rw [e, zlus_N hn (by decide), lN_i, wb_tn hn]
def zGH (sl : Nat → Int32) (L : List (Nat × Nat)) : Prop := (zkeys L).Nodup ∧ ∃ S : Nat → Nat, (∀ s, s < 8192 → sl s = nI (S s)) ∧ zHI 8192 zhR S (zkeys L)
theorem zGH_nil {sl : Nat → Int32} (h : ∀ s, s < 8192 → sl s = nI 0) : zGH sl [] := ⟨by simp [zkeys], fun _ => 0, h, zHI_nil 8192 zhR (fun s hs => rfl)⟩
set_option maxHeartbeats 1000000 in
theorem e_rbegin {d : Nat} {σ : zH} (hM : zMb σ) {wy rw : Nat → Int64} {ns sl : Nat → Int32} {lg fr : Int32} {Q : Option Value → zH → Prop} (hQ : ∀ sl', (∀ s, s < 8192 → sl' s = nI 0) → Q none (zGa σ wy rw (zu ns 11 (nI 0)) sl' lg (nI 11))) : zM (d + 1) 184 [.ref 160, .int (nI 11)] (zGa σ wy rw ns sl lg fr) Q := by
  have ⟨mK0, mQ1, mK1, mN1, mQ6, mK6, mN6, mQ7, mK7, mN7, mQ8, mK8, mN8, mQ9, mK9, mN9, mQ10, mK10, mN10, mQ11, mK11, mN11, mQ21, mK21, mN21, mQ22, mK22, mN22, mQ23, mK23, mN23, mQ24, mK24, mN24, mQ25, mK25, mN25, mQ26, mK26, mN26, mQ27, mK27, mN27, mQ28, mK28, mN28, mQ32, mK32, mN32, mQ33, mK33, mN33, mQ34, mK34, mN34, mQ35, mK35, mN35, mQ40, mK40, mN40, mQ41, mK41, mN41, mQ42, mK42, mN42, mQ43, mK43, mN43, mQ44, mK44, mN44, mQ45, mK45, mN45, mQ62, mK62, mN62⟩ := hM
  have loop : ∀ (m j : Nat), j + m = 8192 → ∀ (f : Nat → Int32), (∀ s, s < j → f s = nI 0) → zW d 183 17 [(0, .ref 160), (2, .int (nI j))] [] (zGa σ wy rw (zu ns 11 (nI 0)) f lg (nI 11)) (fun r σ102 => zqv r (Q none σ102)) := by
    intro m
    induction m with
    | zero =>
      intro j hj f hf
      refine b183_17 ?_
      (try simp (disch := omega) only [zh, zh_st, ↓reduceIte, Nat.add_left_cancel_iff, Nat.reduceEqDiff, Nat.add_sub_cancel, Nat.reduceAdd, Nat.reduceSub, Nat.reduceMul, ← nI_0, zu_same, zu_ne, zoi, zoi_m1, nI_add, pk_mul, pk_sub, zcl, nI_leI, nI_ltI, nI_eq, ite_not, reduceCtorEq, zqi_s, zql_s, zqv_s, true_and, and_true, vp_in_nI, if_pos, if_neg, not_true_eq_false, not_false_eq_true, or_true, true_or, or_false, false_or, and_self, ])
      exact hQ f (fun s hs => hf s (by omega))
    | succ m ih =>
      intro j hj f hf
      refine b183_17 ?_
      (try simp (disch := omega) only [zh, zh_st, ↓reduceIte, Nat.add_left_cancel_iff, Nat.reduceEqDiff, Nat.add_sub_cancel, Nat.reduceAdd, Nat.reduceSub, Nat.reduceMul, ← nI_0, zu_same, zu_ne, zoi, zoi_m1, nI_add, pk_mul, pk_sub, zcl, nI_leI, nI_ltI, nI_eq, ite_not, reduceCtorEq, zqi_s, zql_s, zqv_s, true_and, and_true, vp_in_nI, if_pos, if_neg, not_true_eq_false, not_false_eq_true, or_true, true_or, or_false, false_or, and_self, zGa_k, zGa_r, zGa_wy, zGa_rw, zGa_ns, zGa_sl, zGa_fr, zGa_lg, mK0, mQ1, mK1, mN1, mQ6, mK6, mN6, mQ7, mK7, mN7, mQ8, mK8, mN8, mQ9, mK9, mN9, mQ10, mK10, mN10, mQ11, mK11, mN11, mQ21, mK21, mN21, mQ22, mK22, mN22, mQ23, mK23, mN23, mQ24, mK24, mN24, mQ25, mK25, mN25, mQ26, mK26, mN26, mQ27, mK27, mN27, mQ28, mK28, mN28, mQ32, mK32, mN32, mQ33, mK33, mN33, mQ34, mK34, mN34, mQ35, mK35, mN35, mQ40, mK40, mN40, mQ41, mK41, mN41, mQ42, mK42, mN42, mQ43, mK43, mN43, mQ44, mK44, mN44, mQ45, mK45, mN45, mQ62, mK62, mN62])
      refine ih (j + 1) (by omega) _ (fun s hs => ?_)
      by_cases e : s = j
      · rw [e, zu_same]
      · rw [zu_ne _ _ e]; exact hf s (by omega)
  refine b184 ?_
  (try simp (disch := omega) only [zh, zh_st, ↓reduceIte, Nat.add_left_cancel_iff, Nat.reduceEqDiff, Nat.add_sub_cancel, Nat.reduceAdd, Nat.reduceSub, Nat.reduceMul, ← nI_0, zu_same, zu_ne, zoi, zoi_m1, nI_add, pk_mul, pk_sub, zcl, nI_leI, nI_ltI, nI_eq, ite_not, reduceCtorEq, zqi_s, zql_s, zqv_s, true_and, and_true, vp_in_nI, if_pos, if_neg, not_true_eq_false, not_false_eq_true, or_true, true_or, or_false, false_or, and_self, zGa_k, zGa_r, zGa_wy, zGa_rw, zGa_ns, zGa_sl, zGa_fr, zGa_lg, mK0, mQ1, mK1, mN1, mQ6, mK6, mN6, mQ7, mK7, mN7, mQ8, mK8, mN8, mQ9, mK9, mN9, mQ10, mK10, mN10, mQ11, mK11, mN11, mQ21, mK21, mN21, mQ22, mK22, mN22, mQ23, mK23, mN23, mQ24, mK24, mN24, mQ25, mK25, mN25, mQ26, mK26, mN26, mQ27, mK27, mN27, mQ28, mK28, mN28, mQ32, mK32, mN32, mQ33, mK33, mN33, mQ34, mK34, mN34, mQ35, mK35, mN35, mQ40, mK40, mN40, mQ41, mK41, mN41, mQ42, mK42, mN42, mQ43, mK43, mN43, mQ44, mK44, mN44, mQ45, mK45, mN45, mQ62, mK62, mN62])
  refine b183 ?_
  (try simp (disch := omega) only [zh, zh_st, ↓reduceIte, Nat.add_left_cancel_iff, Nat.reduceEqDiff, Nat.add_sub_cancel, Nat.reduceAdd, Nat.reduceSub, Nat.reduceMul, ← nI_0, zu_same, zu_ne, zoi, zoi_m1, nI_add, pk_mul, pk_sub, zcl, nI_leI, nI_ltI, nI_eq, ite_not, reduceCtorEq, zqi_s, zql_s, zqv_s, true_and, and_true, vp_in_nI, if_pos, if_neg, not_true_eq_false, not_false_eq_true, or_true, true_or, or_false, false_or, and_self, zGa_k, zGa_r, zGa_wy, zGa_rw, zGa_ns, zGa_sl, zGa_fr, zGa_lg, mK0, mQ1, mK1, mN1, mQ6, mK6, mN6, mQ7, mK7, mN7, mQ8, mK8, mN8, mQ9, mK9, mN9, mQ10, mK10, mN10, mQ11, mK11, mN11, mQ21, mK21, mN21, mQ22, mK22, mN22, mQ23, mK23, mN23, mQ24, mK24, mN24, mQ25, mK25, mN25, mQ26, mK26, mN26, mQ27, mK27, mN27, mQ28, mK28, mN28, mQ32, mK32, mN32, mQ33, mK33, mN33, mQ34, mK34, mN34, mQ35, mK35, mN35, mQ40, mK40, mN40, mQ41, mK41, mN41, mQ42, mK42, mN42, mQ43, mK43, mN43, mQ44, mK44, mN44, mQ45, mK45, mN45, mQ62, mK62, mN62])
  exact loop 8192 0 (by omega) sl (fun s hs => absurd hs (Nat.not_lt_zero s))
theorem zand8191 (a : Nat) : nI a &&& nI 8191 = nI (a % 8192) := znand a 13 (by decide)
theorem zmod_next8 (a j : Nat) : ((a + j) % 8192 + 1) % 8192 = (a + (j + 1)) % 8192 := by omega
set_option maxHeartbeats 4000000 in
theorem e_radd {d : Nat} {σ : zH} (hM : zMb σ) {wy rw : Nat → Int64} {ns sl : Nat → Int32} {lg : Int32} {L : List (Nat × Nat)} (hS : zGS wy rw ns 11 L) (hH : zGH sl L) {k r : Nat} (hk : k < 2 ^ 63) (hr : r < 2 ^ 63) {Q : Option Value → zH → Prop} (hQ1 : ∀ L', zput L k r = some L' → ∀ wy' rw' ns' sl', zGS wy' rw' ns' 11 L' → zGH sl' L' → (∀ j, j < 33011 → wy' j = wy j ∧ rw' j = rw j) → (∀ s, s ≠ 11 → ns' s = ns s) → Q none (zGa σ wy' rw' ns' sl' lg (nI 11))) (hQ0 : zput L k r = none → Q none (zGa σ wy rw ns sl (nI 1) (nI 11))) : zM d 185 [.ref 160, .long (lN k), .long (lN r)] (zGa σ wy rw ns sl lg (nI 11)) Q := by
  have ⟨mK0, mQ1, mK1, mN1, mQ6, mK6, mN6, mQ7, mK7, mN7, mQ8, mK8, mN8, mQ9, mK9, mN9, mQ10, mK10, mN10, mQ11, mK11, mN11, mQ21, mK21, mN21, mQ22, mK22, mN22, mQ23, mK23, mN23, mQ24, mK24, mN24, mQ25, mK25, mN25, mQ26, mK26, mN26, mQ27, mK27, mN27, mQ28, mK28, mN28, mQ32, mK32, mN32, mQ33, mK33, mN33, mQ34, mK34, mN34, mQ35, mK35, mN35, mQ40, mK40, mN40, mQ41, mK41, mN41, mQ42, mK42, mN42, mQ43, mK43, mN43, mQ44, mK44, mN44, mQ45, mK45, mN45, mQ62, mK62, mN62⟩ := hM
  obtain ⟨g1, g2, g4, g5⟩ := hS
  obtain ⟨hnd, S, hSl, hI⟩ := hH
  obtain ⟨jf, hjf, hf0⟩ := zHI_free hI (by rw [zkeys_len]; omega) (zhR k)
  -- a free slot
  have free : ∀ (j : Nat), j < 8192 → S ((zhR k + j) % 8192) = 0 → (∀ j', j' < j → S ((zhR k + j') % 8192) ≠ 0 ∧ (zkeys L).getD (S ((zhR k + j') % 8192) - 1) 0 ≠ k) → zW d 185 66 [(0, .ref 160), (1, .long (lN k)), (3, .long (lN r)), (5, .int (nI ((zhR k + j) % 8192))), (6, .int (nI 33011))] [] (zGa σ wy rw ns sl lg (nI 11)) Q := by
    intro j hj h0 hp
    have hs4 : (zhR k + j) % 8192 < 8192 := Nat.mod_lt _ (by decide)
    have hnew := zHI_none hI hp h0
    have e1 : sl ((zhR k + j) % 8192) = nI 0 := by rw [hSl _ hs4, h0]
    have hI2 := zHI_add hI (by decide) hj (fun j' hj' => (hp j' hj').1) h0
    rw [zkeys_len] at hI2
    refine b185_66 ?_
    obtain ⟨pos, hpos⟩ : ∃ p, p = (zhR k + j) % 8192 := ⟨_, rfl⟩
    rw [← hpos] at e1 hs4 hI2 ⊢
    (try simp (disch := omega) only [zh, zh_st, ↓reduceIte, Nat.add_left_cancel_iff, Nat.reduceEqDiff, Nat.add_sub_cancel, Nat.reduceAdd, Nat.reduceSub, Nat.reduceMul, ← nI_0, zu_same, zu_ne, zoi, zoi_m1, nI_add, pk_mul, pk_sub, zcl, nI_leI, nI_ltI, nI_eq, ite_not, reduceCtorEq, zqi_s, zql_s, zqv_s, true_and, and_true, vp_in_nI, not_true_eq_false, not_false_eq_true, or_true, true_or, or_false, false_or, and_self, zGa_k, zGa_r, zGa_wy, zGa_rw, zGa_ns, zGa_sl, zGa_fr, zGa_lg, mK0, mQ1, mK1, mN1, mQ6, mK6, mN6, mQ7, mK7, mN7, mQ8, mK8, mN8, mQ9, mK9, mN9, mQ10, mK10, mN10, mQ11, mK11, mN11, mQ21, mK21, mN21, mQ22, mK22, mN22, mQ23, mK23, mN23, mQ24, mK24, mN24, mQ25, mK25, mN25, mQ26, mK26, mN26, mQ27, mK27, mN27, mQ28, mK28, mN28, mQ32, mK32, mN32, mQ33, mK33, mN33, mQ34, mK34, mN34, mQ35, mK35, mN35, mQ40, mK40, mN40, mQ41, mK41, mN41, mQ42, mK42, mN42, mQ43, mK43, mN43, mQ44, mK44, mN44, mQ45, mK45, mN45, mQ62, mK62, mN62, e1, g1])
    rw [if_pos (by decide)]
    by_cases hl : L.length = 3000
    · rw [if_pos hl]
      refine hQ0 ?_
      unfold zput
      rw [if_neg (by rintro (h | h); exact hnew h; omega)]
    · rw [if_neg hl]
      have hput : zput L k r = some (L ++ [(k, r)]) := by unfold zput; rw [if_pos (Or.inr (by omega)), zins_new hnew]
      (try simp (disch := omega) only [zh, zh_st, ↓reduceIte, Nat.add_left_cancel_iff, Nat.reduceEqDiff, Nat.add_sub_cancel, Nat.reduceAdd, Nat.reduceSub, Nat.reduceMul, ← nI_0, zu_same, zu_ne, zoi, zoi_m1, nI_add, pk_mul, pk_sub, zcl, nI_leI, nI_ltI, nI_eq, ite_not, reduceCtorEq, zqi_s, zql_s, zqv_s, true_and, and_true, vp_in_nI, if_pos, if_neg, not_true_eq_false, not_false_eq_true, or_true, true_or, or_false, false_or, and_self, zGa_k, zGa_r, zGa_wy, zGa_rw, zGa_ns, zGa_sl, zGa_fr, zGa_lg, mK0, mQ1, mK1, mN1, mQ6, mK6, mN6, mQ7, mK7, mN7, mQ8, mK8, mN8, mQ9, mK9, mN9, mQ10, mK10, mN10, mQ11, mK11, mN11, mQ21, mK21, mN21, mQ22, mK22, mN22, mQ23, mK23, mN23, mQ24, mK24, mN24, mQ25, mK25, mN25, mQ26, mK26, mN26, mQ27, mK27, mN27, mQ28, mK28, mN28, mQ32, mK32, mN32, mQ33, mK33, mN33, mQ34, mK34, mN34, mQ35, mK35, mN35, mQ40, mK40, mN40, mQ41, mK41, mN41, mQ42, mK42, mN42, mQ43, mK43, mN43, mQ44, mK44, mN44, mQ45, mK45, mN45, mQ62, mK62, mN62, g1])
      refine hQ1 _ hput _ _ _ _ ⟨by rw [zu_same]; simp, by simp; omega, fun x hx => ?_, fun i hi => ?_⟩ ⟨?_, zu S pos (L.length + 1), fun s hs => ?_, by rw [zkeys_app]; exact hI2⟩ (fun j' hj' => ⟨zu_ne _ _ (by omega), zu_ne _ _ (by omega)⟩) (fun s hs => zu_ne _ _ hs)
      · rcases List.mem_append.mp hx with hx | hx
        · exact g4 x hx
        · simp only [List.mem_singleton] at hx
          rw [hx]
          exact ⟨hk, hr⟩
      · simp only [List.length_append, List.length_cons, List.length_nil] at hi
        rw [zgd_app hi]
        by_cases e : i = L.length
        · rw [if_pos e, e, zu_same, zu_same]
          exact ⟨rfl, rfl⟩
        · rw [if_neg e, zu_ne _ _ (by omega), zu_ne _ _ (by omega)]
          exact g5 i (by omega)
      · rw [zkeys_app, List.nodup_append]
        refine ⟨hnd, by simp, fun a ha b hb => ?_⟩
        simp only [List.mem_singleton] at hb
        rw [hb]
        exact fun q => hnew (by rw [← q]; exact ha)
      · by_cases e : s = pos
        · rw [e, zu_same, zu_same]
        · rw [zu_ne _ _ e, zu_ne _ _ e]
          exact hSl s hs
  have loop : ∀ (m j : Nat), j + m = jf → (∀ j', j' < j → S ((zhR k + j') % 8192) ≠ 0 ∧ (zkeys L).getD (S ((zhR k + j') % 8192) - 1) 0 ≠ k) → zW d 185 21 [(0, .ref 160), (1, .long (lN k)), (3, .long (lN r)), (5, .int (nI ((zhR k + j) % 8192))), (6, .int (nI 33011))] [] (zGa σ wy rw ns sl lg (nI 11)) Q := by
    intro m
    induction m with
    | zero =>
      intro j hj hp
      have hj' : j = jf := by omega
      subst hj'
      have hs4 : (zhR k + j) % 8192 < 8192 := Nat.mod_lt _ (by decide)
      have e1 : sl ((zhR k + j) % 8192) = nI 0 := by rw [hSl _ hs4, hf0]
      have hfr := free j hjf hf0 hp
      refine b185_21 ?_
      obtain ⟨pos, hpos⟩ : ∃ p, p = (zhR k + j) % 8192 := ⟨_, rfl⟩
      rw [← hpos] at e1 hs4 hfr ⊢
      (try simp (disch := omega) only [zh, zh_st, ↓reduceIte, Nat.add_left_cancel_iff, Nat.reduceEqDiff, Nat.add_sub_cancel, Nat.reduceAdd, Nat.reduceSub, Nat.reduceMul, ← nI_0, zu_same, zu_ne, zoi, zoi_m1, nI_add, pk_mul, pk_sub, zcl, nI_leI, nI_ltI, nI_eq, ite_not, reduceCtorEq, zqi_s, zql_s, zqv_s, true_and, and_true, vp_in_nI, not_true_eq_false, not_false_eq_true, or_true, true_or, or_false, false_or, and_self, zGa_k, zGa_r, zGa_wy, zGa_rw, zGa_ns, zGa_sl, zGa_fr, zGa_lg, mK0, mQ1, mK1, mN1, mQ6, mK6, mN6, mQ7, mK7, mN7, mQ8, mK8, mN8, mQ9, mK9, mN9, mQ10, mK10, mN10, mQ11, mK11, mN11, mQ21, mK21, mN21, mQ22, mK22, mN22, mQ23, mK23, mN23, mQ24, mK24, mN24, mQ25, mK25, mN25, mQ26, mK26, mN26, mQ27, mK27, mN27, mQ28, mK28, mN28, mQ32, mK32, mN32, mQ33, mK33, mN33, mQ34, mK34, mN34, mQ35, mK35, mN35, mQ40, mK40, mN40, mQ41, mK41, mN41, mQ42, mK42, mN42, mQ43, mK43, mN43, mQ44, mK44, mN44, mQ45, mK45, mN45, mQ62, mK62, mN62, e1])
      rw [if_pos (by decide)]
      exact hfr
    | succ m ih =>
      intro j hj hp
      have hs4 : (zhR k + j) % 8192 < 8192 := Nat.mod_lt _ (by decide)
      have hSle := hI.1 _ hs4
      rw [zkeys_len] at hSle
      by_cases hz : S ((zhR k + j) % 8192) = 0
      · have e1 : sl ((zhR k + j) % 8192) = nI 0 := by rw [hSl _ hs4, hz]
        have hfr := free j (by omega) hz hp
        refine b185_21 ?_
        obtain ⟨pos, hpos⟩ : ∃ p, p = (zhR k + j) % 8192 := ⟨_, rfl⟩
        rw [← hpos] at e1 hs4 hfr ⊢
        (try simp (disch := omega) only [zh, zh_st, ↓reduceIte, Nat.add_left_cancel_iff, Nat.reduceEqDiff, Nat.add_sub_cancel, Nat.reduceAdd, Nat.reduceSub, Nat.reduceMul, ← nI_0, zu_same, zu_ne, zoi, zoi_m1, nI_add, pk_mul, pk_sub, zcl, nI_leI, nI_ltI, nI_eq, ite_not, reduceCtorEq, zqi_s, zql_s, zqv_s, true_and, and_true, vp_in_nI, not_true_eq_false, not_false_eq_true, or_true, true_or, or_false, false_or, and_self, zGa_k, zGa_r, zGa_wy, zGa_rw, zGa_ns, zGa_sl, zGa_fr, zGa_lg, mK0, mQ1, mK1, mN1, mQ6, mK6, mN6, mQ7, mK7, mN7, mQ8, mK8, mN8, mQ9, mK9, mN9, mQ10, mK10, mN10, mQ11, mK11, mN11, mQ21, mK21, mN21, mQ22, mK22, mN22, mQ23, mK23, mN23, mQ24, mK24, mN24, mQ25, mK25, mN25, mQ26, mK26, mN26, mQ27, mK27, mN27, mQ28, mK28, mN28, mQ32, mK32, mN32, mQ33, mK33, mN33, mQ34, mK34, mN34, mQ35, mK35, mN35, mQ40, mK40, mN40, mQ41, mK41, mN41, mQ42, mK42, mN42, mQ43, mK43, mN43, mQ44, mK44, mN44, mQ45, mK45, mN45, mQ62, mK62, mN62, e1])
        rw [if_pos (by decide)]
        exact hfr
      · obtain ⟨i, hi⟩ : ∃ i, S ((zhR k + j) % 8192) = i + 1 := ⟨S ((zhR k + j) % 8192) - 1, by omega⟩
        have hil : i < L.length := by omega
        have e1 : sl ((zhR k + j) % 8192) = nI (i + 1) := by rw [hSl _ hs4, hi]
        obtain ⟨a1, a2⟩ := g5 i hil
        rw [show 3001 * 11 + i = 33011 + i by omega] at a1 a2
        have hbd := g4 _ (zgd_memP hil)
        have hnx := zmod_next8 (zhR k) j
        have hkey := zkeys_get L i
        have hcmp : (lg_cmp (lN (L.getD i (0, 0)).1) (lN k) = nI 0) ↔ (L.getD i (0, 0)).1 = k := by rw [nI_0, lg_cmp_eq, pk_lEQ hbd.1 hk]
        have hsub : nI (33011 + (i + 1)) - nI 1 = nI (33011 + i) := by rw [pk_sub (by omega)]; rfl
        have hnp : ¬ (nI (i + 1) ≤ nI 0) := by rw [nI_0]; exact nI_nle (by omega) (by omega)
        refine b185_21 ?_
        obtain ⟨pos, hpos⟩ : ∃ p, p = (zhR k + j) % 8192 := ⟨_, rfl⟩
        rw [← hpos] at e1 hs4 hi hnx ⊢
        (try simp (disch := omega) only [zh, zh_st, ↓reduceIte, Nat.add_left_cancel_iff, Nat.reduceEqDiff, Nat.add_sub_cancel, Nat.reduceAdd, Nat.reduceSub, Nat.reduceMul, ← nI_0, zu_same, zu_ne, zoi, zoi_m1, nI_add, pk_mul, pk_sub, zcl, nI_leI, nI_ltI, nI_eq, ite_not, reduceCtorEq, zqi_s, zql_s, zqv_s, true_and, and_true, vp_in_nI, not_true_eq_false, not_false_eq_true, or_true, true_or, or_false, false_or, and_self, zGa_k, zGa_r, zGa_wy, zGa_rw, zGa_ns, zGa_sl, zGa_fr, zGa_lg, mK0, mQ1, mK1, mN1, mQ6, mK6, mN6, mQ7, mK7, mN7, mQ8, mK8, mN8, mQ9, mK9, mN9, mQ10, mK10, mN10, mQ11, mK11, mN11, mQ21, mK21, mN21, mQ22, mK22, mN22, mQ23, mK23, mN23, mQ24, mK24, mN24, mQ25, mK25, mN25, mQ26, mK26, mN26, mQ27, mK27, mN27, mQ28, mK28, mN28, mQ32, mK32, mN32, mQ33, mK33, mN33, mQ34, mK34, mN34, mQ35, mK35, mN35, mQ40, mK40, mN40, mQ41, mK41, mN41, mQ42, mK42, mN42, mQ43, mK43, mN43, mQ44, mK44, mN44, mQ45, mK45, mN45, mQ62, mK62, mN62, e1, hsub, a1, hcmp])
        rw [if_neg (by omega)]
        by_cases hkk : (L.getD i (0, 0)).1 = k
        · rw [if_pos hkk]
          have hin : k ∈ zkeys L := by
            rw [← hkk]
            exact List.mem_map_of_mem (zgd_memP hil)
          have hput : zput L k r = some (zins L k r) := by unfold zput; rw [if_pos (Or.inl hin)]
          have hkey2 := zkeys_set L i k (min (L.getD i (0, 0)).2 r) hil hkk
          have fin : ∀ z, z = min (L.getD i (0, 0)).2 r → Q none (zGa σ wy (zu rw (33011 + i) (lN z)) ns sl lg (nI 11)) := by
            intro z hz'
            rw [zins_old hnd hil hkk] at hput
            refine hQ1 _ hput _ _ _ _ ⟨by rw [List.length_set]; exact g1, by rw [List.length_set]; exact g2, fun x hx => ?_, fun i' hi' => ?_⟩ ⟨by rw [hkey2]; exact hnd, S, hSl, by rw [hkey2]; exact hI⟩ (fun j' hj' => ⟨rfl, zu_ne _ _ (by omega)⟩) (fun _ _ => rfl)
            · rcases List.mem_or_eq_of_mem_set hx with hx | hx
              · exact g4 x hx
              · rw [hx]
                exact ⟨by rw [← hkk]; exact hbd.1, by show min _ r < _; omega⟩
            · rw [List.length_set] at hi'
              rw [zgd_set hil]
              by_cases e : i' = i
              · rw [if_pos e, e, show 3001 * 11 + i = 33011 + i by omega, zu_same, a1, hkk, hz']
                exact ⟨rfl, rfl⟩
              · rw [if_neg e, zu_ne _ _ (by omega)]
                exact g5 i' hi'
          refine b185_66 ?_
          (try simp (disch := omega) only [zh, zh_st, ↓reduceIte, Nat.add_left_cancel_iff, Nat.reduceEqDiff, Nat.add_sub_cancel, Nat.reduceAdd, Nat.reduceSub, Nat.reduceMul, ← nI_0, zu_same, zu_ne, zoi, zoi_m1, nI_add, pk_mul, pk_sub, zcl, nI_leI, nI_ltI, nI_eq, ite_not, reduceCtorEq, zqi_s, zql_s, zqv_s, true_and, and_true, vp_in_nI, not_true_eq_false, not_false_eq_true, or_true, true_or, or_false, false_or, and_self, zGa_k, zGa_r, zGa_wy, zGa_rw, zGa_ns, zGa_sl, zGa_fr, zGa_lg, mK0, mQ1, mK1, mN1, mQ6, mK6, mN6, mQ7, mK7, mN7, mQ8, mK8, mN8, mQ9, mK9, mN9, mQ10, mK10, mN10, mQ11, mK11, mN11, mQ21, mK21, mN21, mQ22, mK22, mN22, mQ23, mK23, mN23, mQ24, mK24, mN24, mQ25, mK25, mN25, mQ26, mK26, mN26, mQ27, mK27, mN27, mQ28, mK28, mN28, mQ32, mK32, mN32, mQ33, mK33, mN33, mQ34, mK34, mN34, mQ35, mK35, mN35, mQ40, mK40, mN40, mQ41, mK41, mN41, mQ42, mK42, mN42, mQ43, mK43, mN43, mQ44, mK44, mN44, mQ45, mK45, mN45, mQ62, mK62, mN62, e1, hsub, a2])
          rw [if_neg (by omega)]
          by_cases hlt : r < (L.getD i (0, 0)).2
          · have hc : ¬ (nI 0 ≤ lg_cmp (lN r) (lN (L.getD i (0, 0)).2)) := by
              rw [nI_0]
              intro q
              have := (pk_lLE hbd.2 hr).mp ((lg_cmp_ge _ _).mp q)
              omega
            rw [if_neg hc]
            exact fin r (by omega)
          · have hc : nI 0 ≤ lg_cmp (lN r) (lN (L.getD i (0, 0)).2) := by
              rw [nI_0]
              exact (lg_cmp_ge _ _).mpr ((pk_lLE hbd.2 hr).mpr (by omega))
            rw [if_pos hc]
            exact fin _ (by omega)
        · rw [if_neg hkk, zand8191, hnx]
          refine ih (j + 1) (by omega) (fun j' hj' => ?_)
          by_cases hjj : j' = j
          · subst hjj
            rw [← hpos, hi, Nat.add_sub_cancel, hkey]
            exact ⟨by omega, hkk⟩
          · exact hp j' (by omega)
  refine b185 ?_
  rw [show Int64.ofInt (-7046029254386353131) = zM1 from rfl, zhR_eq]
  (try simp (disch := omega) only [zh, zh_st, ↓reduceIte, Nat.add_left_cancel_iff, Nat.reduceEqDiff, Nat.add_sub_cancel, Nat.reduceAdd, Nat.reduceSub, Nat.reduceMul, ← nI_0, zu_same, zu_ne, zoi, zoi_m1, nI_add, pk_mul, pk_sub, zcl, nI_leI, nI_ltI, nI_eq, ite_not, reduceCtorEq, zqi_s, zql_s, zqv_s, true_and, and_true, vp_in_nI, not_true_eq_false, not_false_eq_true, or_true, true_or, or_false, false_or, and_self, zGa_k, zGa_r, zGa_wy, zGa_rw, zGa_ns, zGa_sl, zGa_fr, zGa_lg, mK0, mQ1, mK1, mN1, mQ6, mK6, mN6, mQ7, mK7, mN7, mQ8, mK8, mN8, mQ9, mK9, mN9, mQ10, mK10, mN10, mQ11, mK11, mN11, mQ21, mK21, mN21, mQ22, mK22, mN22, mQ23, mK23, mN23, mQ24, mK24, mN24, mQ25, mK25, mN25, mQ26, mK26, mN26, mQ27, mK27, mN27, mQ28, mK28, mN28, mQ32, mK32, mN32, mQ33, mK33, mN33, mQ34, mK34, mN34, mQ35, mK35, mN35, mQ40, mK40, mN40, mQ41, mK41, mN41, mQ42, mK42, mN42, mQ43, mK43, mN43, mQ44, mK44, mN44, mQ45, mK45, mN45, mQ62, mK62, mN62])
  have := loop jf 0 (by omega) (fun j' hj' => absurd hj' (by omega))
  have e : ∀ h, h < 8192 → (h + 0) % 8192 = h := by omega
  rw [e _ (zhR_lt k)] at this
  exact this
