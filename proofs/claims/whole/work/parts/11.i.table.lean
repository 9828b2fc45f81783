/-- the first i places from b on hold H -/
def zcq {α : Type} (f H : Nat → α) (b i : Nat) : Nat → α := fun j => if b ≤ j ∧ j < b + i then H (j - b) else f j
theorem zcq_u {α : Type} (f H : Nat → α) (b i : Nat) : zu (zcq f H b i) (b + i) (H i) = zcq f H b (i + 1) := by
  funext j
  unfold zu zcq
  by_cases h1 : j = b + i
  · rw [if_pos h1, if_pos (by omega), show j - b = i by omega]
  · rw [if_neg h1]
    by_cases h2 : b ≤ j ∧ j < b + i
    · rw [if_pos h2, if_pos (by omega)]
    · rw [if_neg h2, if_neg (by omega)]
theorem zcq_0 {α : Type} (f H : Nat → α) (b : Nat) : zcq f H b 0 = f := by
  funext j
  unfold zcq
  rw [if_neg (by omega)]
theorem zcq_in {α : Type} {f H : Nat → α} {b i j : Nat} (h : j < i) : zcq f H b i (b + j) = H j := by
  unfold zcq
  rw [if_pos (by omega), show b + j - b = j by omega]
theorem zcq_out {α : Type} {f H : Nat → α} {b i j : Nat} (h : j < b ∨ b + i ≤ j) : zcq f H b i j = f j := by
  unfold zcq
  rw [if_neg (by omega)]
abbrev zcl5 (t p mny n b : Nat) (x : Int32) : zC := [(0, .ref t), (1, .int (nI p)), (2, .int (nI mny)), (3, .int (nI n)), (4, .int (nI b)), (5, .int x)]
set_option maxHeartbeats 1000000 in
theorem l_cut3 {d t p mny n : Nat} {σ : zH} (hT : zTb σ t) {hd sz : Nat → Int32} {mk : Int32} (hp : p < 4) (hn : n ≤ 9) (hmn : mny ≤ n) {ly0 H : Nat → Int32} (hH : ∀ k, mny ≤ k → H k = hd (k - mny)) {Q : Option Value → zH → Prop} (hQ : Q none (zTa σ t (zcq ly0 H (16 * p) n) hd sz mk)) : ∀ (m i : Nat), i + m = n → mny ≤ i → ∀ (x : Int32), x = nI i → zW d 72 (if nI n ≤ x then 115 else 90) (zcl5 t p mny n (16 * p) x) [] (zTa σ t (zcq ly0 H (16 * p) i) hd sz mk) Q := by
  intro m
  induction m with
  | zero =>
    intro i hi hmi x hx
    subst hx
    rw [show i = n by omega]
    refine zW_if (fun _ => ?_) (fun h => ?_)
    · refine zW_r rfl trivial ?_
      exact hQ
    · exfalso
      simp (disch := omega) only [zh, zh_st, ↓reduceIte, Nat.add_left_cancel_iff, Nat.reduceEqDiff, Nat.add_sub_cancel, Nat.reduceAdd, Nat.reduceSub, Nat.reduceMul, ← nI_0, zu_same, zu_ne, zoi, zoi_m1, nI_add, pk_mul, pk_sub, zcl, nI_leI, nI_ltI, nI_eq, ] at h
      omega
  | succ m ih =>
    intro i hi hmi x hx
    subst hx
    refine zW_if (fun h => ?_) (fun _ => ?_)
    · exfalso
      simp (disch := omega) only [zh, zh_st, ↓reduceIte, Nat.add_left_cancel_iff, Nat.reduceEqDiff, Nat.add_sub_cancel, Nat.reduceAdd, Nat.reduceSub, Nat.reduceMul, ← nI_0, zu_same, zu_ne, zoi, zoi_m1, nI_add, pk_mul, pk_sub, zcl, nI_leI, nI_ltI, nI_eq, ] at h
      omega
    · have ⟨k0, k1, k2, k3, n1, n2, n3, q0, q1, q2, q3⟩ := hT
      iterate 12 (first | refine zW_s rfl ?_ | refine zW_p rfl (by simp (disch := omega) only [zh, zh_st, ↓reduceIte, Nat.add_left_cancel_iff, Nat.reduceEqDiff, Nat.add_sub_cancel, Nat.reduceAdd, Nat.reduceSub, Nat.reduceMul, ← nI_0, zu_same, zu_ne, zoi, zoi_m1, nI_add, pk_mul, pk_sub, zcl, nI_leI, nI_ltI, nI_eq, zTa_k, zTa_ly, zTa_hd, zTa_sz, zTa_mk, zTa_r, k0, k1, k2, q1, q2, n1, n2]; first | done | exact vp_in_nI (by omega) (by omega) | exact ⟨rfl, vp_in_nI (by omega) (by omega)⟩ | exact ⟨trivial, vp_in_nI (by omega) (by omega)⟩ | (simp only [true_and]; exact vp_in_nI (by omega) (by omega)) | assumption) ?_)
      refine zW_e (τ := zTa σ t (zcq ly0 H (16 * p) (i + 1)) hd sz mk) (by simp (disch := omega) only [zh, zh_st, ↓reduceIte, Nat.add_left_cancel_iff, Nat.reduceEqDiff, Nat.add_sub_cancel, Nat.reduceAdd, Nat.reduceSub, Nat.reduceMul, ← nI_0, zu_same, zu_ne, zoi, zoi_m1, nI_add, pk_mul, pk_sub, zcl, nI_leI, nI_ltI, nI_eq, zTa_k, zTa_ly, zTa_hd, zTa_sz, zTa_mk, zTa_r, q1, q2]; rw [← hH i hmi, zcq_u]) ?_
      iterate 5 (first | refine zW_s rfl ?_ | refine zW_p rfl (by simp (disch := omega) only [zh, zh_st, ↓reduceIte, Nat.add_left_cancel_iff, Nat.reduceEqDiff, Nat.add_sub_cancel, Nat.reduceAdd, Nat.reduceSub, Nat.reduceMul, ← nI_0, zu_same, zu_ne, zoi, zoi_m1, nI_add, pk_mul, pk_sub, zcl, nI_leI, nI_ltI, nI_eq, ]; first | done | exact vp_in_nI (by omega) (by omega) | exact ⟨rfl, vp_in_nI (by omega) (by omega)⟩ | exact ⟨trivial, vp_in_nI (by omega) (by omega)⟩ | (simp only [true_and]; exact vp_in_nI (by omega) (by omega)) | assumption) ?_)
      exact ih (i + 1) (by omega) (by omega) _ (by simp (disch := omega) only [zh, zh_st, ↓reduceIte, Nat.add_left_cancel_iff, Nat.reduceEqDiff, Nat.add_sub_cancel, Nat.reduceAdd, Nat.reduceSub, Nat.reduceMul, ← nI_0, zu_same, zu_ne, zoi, zoi_m1, nI_add, pk_mul, pk_sub, zcl, nI_leI, nI_ltI, nI_eq, ])
set_option maxHeartbeats 1000000 in
theorem l_cut2 {d t p mny n : Nat} {σ : zH} (hT : zTb σ t) {hd sz : Nat → Int32} {mk : Int32} (hp : p < 4) (hn : n ≤ 9) (hmn : mny ≤ n) {ly0 H : Nat → Int32} (hH : ∀ k, mny ≤ k → H k = hd (k - mny)) (hH2 : ∀ k, k < mny → H k = hd (n - mny + k)) {Q : Option Value → zH → Prop} (hQ : Q none (zTa σ t (zcq ly0 H (16 * p) n) hd sz mk)) : ∀ (m i : Nat), i + m = mny → ∀ (x : Int32), x = nI i → zW d 72 (if nI mny ≤ x then 81 else 54) (zcl5 t p mny n (16 * p) x) [] (zTa σ t (zcq ly0 H (16 * p) i) hd sz mk) Q := by
  intro m
  induction m with
  | zero =>
    intro i hi x hx
    subst hx
    refine zW_if (fun _ => ?_) (fun h => ?_)
    · iterate 5 (first | refine zW_s rfl ?_ | refine zW_p rfl (by simp (disch := omega) only [zh, zh_st, ↓reduceIte, Nat.add_left_cancel_iff, Nat.reduceEqDiff, Nat.add_sub_cancel, Nat.reduceAdd, Nat.reduceSub, Nat.reduceMul, ← nI_0, zu_same, zu_ne, zoi, zoi_m1, nI_add, pk_mul, pk_sub, zcl, nI_leI, nI_ltI, nI_eq, ]; first | done | exact vp_in_nI (by omega) (by omega) | exact ⟨rfl, vp_in_nI (by omega) (by omega)⟩ | exact ⟨trivial, vp_in_nI (by omega) (by omega)⟩ | (simp only [true_and]; exact vp_in_nI (by omega) (by omega)) | assumption) ?_)
      rw [show i = mny by omega]
      exact l_cut3 hT hp hn hmn hH hQ (n - mny) mny (by omega) (by omega) _ rfl
    · exfalso
      simp (disch := omega) only [zh, zh_st, ↓reduceIte, Nat.add_left_cancel_iff, Nat.reduceEqDiff, Nat.add_sub_cancel, Nat.reduceAdd, Nat.reduceSub, Nat.reduceMul, ← nI_0, zu_same, zu_ne, zoi, zoi_m1, nI_add, pk_mul, pk_sub, zcl, nI_leI, nI_ltI, nI_eq, ] at h
      omega
  | succ m ih =>
    intro i hi x hx
    subst hx
    refine zW_if (fun h => ?_) (fun _ => ?_)
    · exfalso
      simp (disch := omega) only [zh, zh_st, ↓reduceIte, Nat.add_left_cancel_iff, Nat.reduceEqDiff, Nat.add_sub_cancel, Nat.reduceAdd, Nat.reduceSub, Nat.reduceMul, ← nI_0, zu_same, zu_ne, zoi, zoi_m1, nI_add, pk_mul, pk_sub, zcl, nI_leI, nI_ltI, nI_eq, ] at h
      omega
    · have ⟨k0, k1, k2, k3, n1, n2, n3, q0, q1, q2, q3⟩ := hT
      iterate 14 (first | refine zW_s rfl ?_ | refine zW_p rfl (by simp (disch := omega) only [zh, zh_st, ↓reduceIte, Nat.add_left_cancel_iff, Nat.reduceEqDiff, Nat.add_sub_cancel, Nat.reduceAdd, Nat.reduceSub, Nat.reduceMul, ← nI_0, zu_same, zu_ne, zoi, zoi_m1, nI_add, pk_mul, pk_sub, zcl, nI_leI, nI_ltI, nI_eq, zTa_k, zTa_ly, zTa_hd, zTa_sz, zTa_mk, zTa_r, k0, k1, k2, q1, q2, n1, n2]; first | done | exact vp_in_nI (by omega) (by omega) | exact ⟨rfl, vp_in_nI (by omega) (by omega)⟩ | exact ⟨trivial, vp_in_nI (by omega) (by omega)⟩ | (simp only [true_and]; exact vp_in_nI (by omega) (by omega)) | assumption) ?_)
      refine zW_e (τ := zTa σ t (zcq ly0 H (16 * p) (i + 1)) hd sz mk) (by simp (disch := omega) only [zh, zh_st, ↓reduceIte, Nat.add_left_cancel_iff, Nat.reduceEqDiff, Nat.add_sub_cancel, Nat.reduceAdd, Nat.reduceSub, Nat.reduceMul, ← nI_0, zu_same, zu_ne, zoi, zoi_m1, nI_add, pk_mul, pk_sub, zcl, nI_leI, nI_ltI, nI_eq, zTa_k, zTa_ly, zTa_hd, zTa_sz, zTa_mk, zTa_r, q1, q2]; rw [← hH2 i (by omega), zcq_u]) ?_
      iterate 5 (first | refine zW_s rfl ?_ | refine zW_p rfl (by simp (disch := omega) only [zh, zh_st, ↓reduceIte, Nat.add_left_cancel_iff, Nat.reduceEqDiff, Nat.add_sub_cancel, Nat.reduceAdd, Nat.reduceSub, Nat.reduceMul, ← nI_0, zu_same, zu_ne, zoi, zoi_m1, nI_add, pk_mul, pk_sub, zcl, nI_leI, nI_ltI, nI_eq, ]; first | done | exact vp_in_nI (by omega) (by omega) | exact ⟨rfl, vp_in_nI (by omega) (by omega)⟩ | exact ⟨trivial, vp_in_nI (by omega) (by omega)⟩ | (simp only [true_and]; exact vp_in_nI (by omega) (by omega)) | assumption) ?_)
      exact ih (i + 1) (by omega) _ (by simp (disch := omega) only [zh, zh_st, ↓reduceIte, Nat.add_left_cancel_iff, Nat.reduceEqDiff, Nat.add_sub_cancel, Nat.reduceAdd, Nat.reduceSub, Nat.reduceMul, ← nI_0, zu_same, zu_ne, zoi, zoi_m1, nI_add, pk_mul, pk_sub, zcl, nI_leI, nI_ltI, nI_eq, ])
set_option maxHeartbeats 1000000 in
theorem l_cut1 {d t p mny n : Nat} {σ : zH} (hT : zTb σ t) {ly hd0 sz : Nat → Int32} {mk : Int32} (hp : p < 4) (hn : n ≤ 9) (hmn : mny ≤ n) {Q : Option Value → zH → Prop} (hQ : Q none (zTa σ t (zcq ly (fun k => if k < mny then ly (16 * p + (n - mny + k)) else ly (16 * p + (k - mny))) (16 * p) n) (zcq hd0 (fun k => ly (16 * p + k)) 0 n) sz mk)) : ∀ (m i : Nat), i + m = n → ∀ (x : Int32), x = nI i → zW d 72 (if nI n ≤ x then 45 else 22) (zcl5 t p mny n (16 * p) x) [] (zTa σ t ly (zcq hd0 (fun k => ly (16 * p + k)) 0 i) sz mk) Q := by
  intro m
  induction m with
  | zero =>
    intro i hi x hx
    subst hx
    refine zW_if (fun _ => ?_) (fun h => ?_)
    · iterate 5 (first | refine zW_s rfl ?_ | refine zW_p rfl (by simp (disch := omega) only [zh, zh_st, ↓reduceIte, Nat.add_left_cancel_iff, Nat.reduceEqDiff, Nat.add_sub_cancel, Nat.reduceAdd, Nat.reduceSub, Nat.reduceMul, ← nI_0, zu_same, zu_ne, zoi, zoi_m1, nI_add, pk_mul, pk_sub, zcl, nI_leI, nI_ltI, nI_eq, ]; first | done | exact vp_in_nI (by omega) (by omega) | exact ⟨rfl, vp_in_nI (by omega) (by omega)⟩ | exact ⟨trivial, vp_in_nI (by omega) (by omega)⟩ | (simp only [true_and]; exact vp_in_nI (by omega) (by omega)) | assumption) ?_)
      rw [show i = n by omega]
      refine zW_e (τ := zTa σ t (zcq ly (fun k => if k < mny then ly (16 * p + (n - mny + k)) else if k < n then ly (16 * p + (k - mny)) else zcq hd0 (fun k => ly (16 * p + k)) 0 n (k - mny)) (16 * p) 0) (zcq hd0 (fun k => ly (16 * p + k)) 0 n) sz mk) (by rw [zcq_0]) ?_
      refine l_cut2 hT hp hn hmn (fun k hk => ?_) (fun k hk => ?_) ?_ mny 0 (by omega) _ rfl
      · by_cases hkn : k < n
        · rw [if_neg (by omega), if_pos hkn]
          have := zcq_in (f := hd0) (H := fun k => ly (16 * p + k)) (b := 0) (i := n) (j := k - mny) (by omega)
          rw [Nat.zero_add] at this
          rw [this]
        · rw [if_neg (by omega), if_neg hkn]
      · rw [if_pos hk]
        have := zcq_in (f := hd0) (H := fun k => ly (16 * p + k)) (b := 0) (i := n) (j := n - mny + k) (by omega)
        rw [Nat.zero_add] at this
        rw [this]
      · have : zcq ly (fun k => if k < mny then ly (16 * p + (n - mny + k)) else if k < n then ly (16 * p + (k - mny)) else zcq hd0 (fun k => ly (16 * p + k)) 0 n (k - mny)) (16 * p) n = zcq ly (fun k => if k < mny then ly (16 * p + (n - mny + k)) else ly (16 * p + (k - mny))) (16 * p) n := by
          funext j
          unfold zcq
          by_cases hj : 16 * p ≤ j ∧ j < 16 * p + n
          · rw [if_pos hj, if_pos hj]
            dsimp only
            rw [if_pos (show j - 16 * p < n by omega)]
          · rw [if_neg hj, if_neg hj]
        rw [this]
        exact hQ
    · exfalso
      simp (disch := omega) only [zh, zh_st, ↓reduceIte, Nat.add_left_cancel_iff, Nat.reduceEqDiff, Nat.add_sub_cancel, Nat.reduceAdd, Nat.reduceSub, Nat.reduceMul, ← nI_0, zu_same, zu_ne, zoi, zoi_m1, nI_add, pk_mul, pk_sub, zcl, nI_leI, nI_ltI, nI_eq, ] at h
      omega
  | succ m ih =>
    intro i hi x hx
    subst hx
    refine zW_if (fun h => ?_) (fun _ => ?_)
    · exfalso
      simp (disch := omega) only [zh, zh_st, ↓reduceIte, Nat.add_left_cancel_iff, Nat.reduceEqDiff, Nat.add_sub_cancel, Nat.reduceAdd, Nat.reduceSub, Nat.reduceMul, ← nI_0, zu_same, zu_ne, zoi, zoi_m1, nI_add, pk_mul, pk_sub, zcl, nI_leI, nI_ltI, nI_eq, ] at h
      omega
    · have ⟨k0, k1, k2, k3, n1, n2, n3, q0, q1, q2, q3⟩ := hT
      iterate 10 (first | refine zW_s rfl ?_ | refine zW_p rfl (by simp (disch := omega) only [zh, zh_st, ↓reduceIte, Nat.add_left_cancel_iff, Nat.reduceEqDiff, Nat.add_sub_cancel, Nat.reduceAdd, Nat.reduceSub, Nat.reduceMul, ← nI_0, zu_same, zu_ne, zoi, zoi_m1, nI_add, pk_mul, pk_sub, zcl, nI_leI, nI_ltI, nI_eq, zTa_k, zTa_ly, zTa_hd, zTa_sz, zTa_mk, zTa_r, k0, k1, k2, q1, q2, n1, n2]; first | done | exact vp_in_nI (by omega) (by omega) | exact ⟨rfl, vp_in_nI (by omega) (by omega)⟩ | exact ⟨trivial, vp_in_nI (by omega) (by omega)⟩ | (simp only [true_and]; exact vp_in_nI (by omega) (by omega)) | assumption) ?_)
      refine zW_e (τ := zTa σ t ly (zcq hd0 (fun k => ly (16 * p + k)) 0 (i + 1)) sz mk) (by simp (disch := omega) only [zh, zh_st, ↓reduceIte, Nat.add_left_cancel_iff, Nat.reduceEqDiff, Nat.add_sub_cancel, Nat.reduceAdd, Nat.reduceSub, Nat.reduceMul, ← nI_0, zu_same, zu_ne, zoi, zoi_m1, nI_add, pk_mul, pk_sub, zcl, nI_leI, nI_ltI, nI_eq, zTa_k, zTa_ly, zTa_hd, zTa_sz, zTa_mk, zTa_r, q1, q2]; have h7 := zcq_u hd0 (fun k => ly (16 * p + k)) 0 i; rw [Nat.zero_add] at h7; rw [h7]) ?_
      iterate 5 (first | refine zW_s rfl ?_ | refine zW_p rfl (by simp (disch := omega) only [zh, zh_st, ↓reduceIte, Nat.add_left_cancel_iff, Nat.reduceEqDiff, Nat.add_sub_cancel, Nat.reduceAdd, Nat.reduceSub, Nat.reduceMul, ← nI_0, zu_same, zu_ne, zoi, zoi_m1, nI_add, pk_mul, pk_sub, zcl, nI_leI, nI_ltI, nI_eq, ]; first | done | exact vp_in_nI (by omega) (by omega) | exact ⟨rfl, vp_in_nI (by omega) (by omega)⟩ | exact ⟨trivial, vp_in_nI (by omega) (by omega)⟩ | (simp only [true_and]; exact vp_in_nI (by omega) (by omega)) | assumption) ?_)
      exact ih (i + 1) (by omega) _ (by simp (disch := omega) only [zh, zh_st, ↓reduceIte, Nat.add_left_cancel_iff, Nat.reduceEqDiff, Nat.add_sub_cancel, Nat.reduceAdd, Nat.reduceSub, Nat.reduceMul, ← nI_0, zu_same, zu_ne, zoi, zoi_m1, nI_add, pk_mul, pk_sub, zcl, nI_leI, nI_ltI, nI_eq, ])
theorem e_cut {d t p mny n : Nat} {σ : zH} (hT : zTb σ t) {ly hd sz : Nat → Int32} {mk : Int32} (hp : p < 4) (hs : sz p = nI n) (hn : n ≤ 9) (hmn : mny ≤ n) {Q : Option Value → zH → Prop} (hQ : ∀ hd', Q none (zTa σ t (zcq ly (fun k => if k < mny then ly (16 * p + (n - mny + k)) else ly (16 * p + (k - mny))) (16 * p) n) hd' sz mk)) : zM d 72 [.ref t, .int (nI p), .int (nI mny)] (zTa σ t ly hd sz mk) Q := by
  unfold zM
  have ⟨k0, k1, k2, k3, n1, n2, n3, q0, q1, q2, q3⟩ := hT
  iterate 14 (first | refine zW_s rfl ?_ | refine zW_p rfl (by simp (disch := omega) only [zh, zh_st, ↓reduceIte, Nat.add_left_cancel_iff, Nat.reduceEqDiff, Nat.add_sub_cancel, Nat.reduceAdd, Nat.reduceSub, Nat.reduceMul, ← nI_0, zu_same, zu_ne, zoi, zoi_m1, nI_add, pk_mul, pk_sub, zcl, nI_leI, nI_ltI, nI_eq, zTa_k, zTa_ly, zTa_hd, zTa_sz, zTa_mk, zTa_r, k0, k1, k2, k3, q1, q2, q3, n1, n2, n3]; first | done | exact vp_in_nI (by omega) (by omega) | exact ⟨rfl, vp_in_nI (by omega) (by omega)⟩ | exact ⟨trivial, vp_in_nI (by omega) (by omega)⟩ | (simp only [true_and]; exact vp_in_nI (by omega) (by omega)) | assumption) ?_)
  simp (disch := omega) only [zoi, pk_mul, zcl, zTa_k, zTa_ly, zTa_hd, zTa_sz, zTa_mk, zTa_r, q3, hs]
  rw [Nat.mul_comm p 16]
  refine zW_e (τ := zTa σ t ly (zcq hd (fun k => ly (16 * p + k)) 0 0) sz mk) (by rw [zcq_0]) ?_
  exact l_cut1 hT hp hn hmn (hQ _) n 0 (by omega) _ rfl
theorem s_cut {d t p mny : Nat} {σ : zH} (hT : zTb σ t) {ly hd sz : Nat → Int32} {mk : Int32} {P : Nat → List Nat} (hR : zTR ly sz P) (hp : p < 4) (hm : mny ≤ (P p).length) {Q : Option Value → zH → Prop} (hQ : ∀ ly' hd', zTR ly' sz (zu P p ((P p).drop mny ++ (P p).take mny)) → Q none (zTa σ t ly' hd' sz mk)) : zM d 72 [.ref t, .int (nI p), .int (nI mny)] (zTa σ t ly hd sz mk) Q := by
  obtain ⟨g1, g2, g3⟩ := hR p hp
  refine e_cut hT hp g1 g2 hm (fun hd' => hQ _ _ ?_)
  have hlen : ((P p).drop mny ++ (P p).take mny).length = (P p).length := by rw [List.length_append, List.length_drop, List.length_take]; omega
  intro q hq
  obtain ⟨h1, h2, h3⟩ := hR q hq
  by_cases hqp : q = p
  · subst hqp
    rw [zu_same, hlen]
    refine ⟨h1, h2, fun i hi => ?_⟩
    rw [zcq_in hi]
    by_cases him : i < mny
    · rw [if_pos him, h3 _ (by omega)]
      congr 1
      rw [List.getD_eq_getElem?_getD, List.getD_eq_getElem?_getD, List.getElem?_append_right (by rw [List.length_drop]; omega), List.length_drop, List.getElem?_take_of_lt (by omega)]
      congr 2
      omega
    · rw [if_neg him, h3 _ (by omega)]
      congr 1
      rw [List.getD_eq_getElem?_getD, List.getD_eq_getElem?_getD, List.getElem?_append_left (by rw [List.length_drop]; omega), List.getElem?_drop]
      congr 2
      omega
  · rw [zu_ne _ _ hqp]
    refine ⟨h1, h2, fun i hi => ?_⟩
    rw [zcq_out (by omega), h3 i hi]
