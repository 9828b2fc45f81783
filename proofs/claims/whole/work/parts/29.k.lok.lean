/-! look and at -/
def zlkv (x : zTS) (p k : Nat) : Nat := if k ≤ (zpl x p).length then ((zpl x p).getD (k - 1) 0) + (if (zpl x p).getD (k - 1) 0 % 16 = zmk x then 32 else 0) else 0
def zalk (m : zMS) (x y : Int32) : Int32 := match zmP m with
  | none => nI 0
  | some tb => if x < 0 then nI 0 else if nI 4 ≤ x then nI 0 else if y < nI 1 then nI 0 else nI (zlkv tb x.toNatClampNeg y.toNatClampNeg)
theorem zI_pos {y : Int32} (h : ¬ y < nI 1) : nI y.toNatClampNeg = y ∧ y.toNatClampNeg < 2 ^ 31 ∧ 1 ≤ y.toNatClampNeg := by
  have h0 : ¬ y < 0 := fun q => h (by
    rw [Int32.lt_iff_toInt_lt] at q ⊢
    have z : (0 : Int32).toInt = 0 := by decide
    have z1 : (nI 1).toInt = 1 := by decide
    rw [z] at q
    rw [z1]
    omega)
  obtain ⟨e1, e2⟩ := zI_nat h0
  refine ⟨e1, e2, ?_⟩
  by_cases q : 1 ≤ y.toNatClampNeg
  · exact q
  · exact absurd (by rw [← e1]; exact nI_lt (by omega) (by omega)) h
theorem zI_4 {x : Int32} (h0 : ¬ x < 0) (h4 : ¬ nI 4 ≤ x) : nI x.toNatClampNeg = x ∧ x.toNatClampNeg < 4 := by
  obtain ⟨e1, e2⟩ := zI_nat h0
  refine ⟨e1, ?_⟩
  by_cases q : x.toNatClampNeg < 4
  · exact q
  · exact absurd (by rw [← e1]; exact nI_le (by omega) (by omega)) h4
theorem zget_mem {l : List Nat} {i : Nat} (h : i < l.length) : l.getD i 0 ∈ l := by
  simp only [List.getD]
  rw [List.getElem?_eq_getElem h]
  exact List.getElem_mem _
set_option maxHeartbeats 2000000 in
theorem pc_look {d : Nat} {σ : zH} {m : zMS} {x y : Int32} (hI : zIC σ m) (hm : zMok m) {Q : Option Value → zH → Prop} (hQ : Q (some (.int (zalk m x y))) σ) : zM (d + 1) 118 [.ref 1, .int x, .int y] σ Q := by
  obtain ⟨T, T', o, o', a1, a2, a3, a4, a5, a6, a7, a8, a9, a10⟩ := hI
  obtain ⟨⟨u0, u1, u2, u3, u4, u5, u6, u7, u8, u9, u10, u11⟩, hTT, hoo, urun⟩ := a1
  have h7 := hm.2.2.2.2.2.2.1
  unfold zalk at hQ
  refine b118 ?_
  rw [u0, u6, a7.1.2.2.2]
  refine ⟨rfl, a7.1.1, ?_⟩
  cases hP : zmP m with
  | none =>
    rw [hP] at hQ a7
    have a7' : zI σ 54 3 = nI 0 := a7.2.2.2
    rw [a7', if_neg (by decide)]
    exact hQ
  | some tb =>
    rw [hP] at hQ a7
    obtain ⟨p1, p2, p3, p4, ⟨⟨k0, k1, k2, k3, n1, n2, n3, q0, q1, q2, q3⟩, hTR, hmk⟩⟩ := a7
    have hV := h7 tb hP
    simp only at hQ
    rw [p4, if_pos (by decide)]
    refine ⟨k0, b61 ?_⟩
    by_cases c0 : x < 0
    · rw [if_pos c0] at hQ ⊢
      rw [zqi_s, if_neg (by decide)]
      exact hQ
    rw [if_neg c0] at hQ ⊢
    by_cases c4 : nI 4 ≤ x
    · rw [if_pos c4] at hQ ⊢
      rw [zqi_s, if_neg (by decide)]
      exact hQ
    rw [if_neg c4] at hQ ⊢
    by_cases c1 : y < nI 1
    · rw [if_pos c1] at hQ ⊢
      rw [zqi_s, if_neg (by decide)]
      exact hQ
    rw [if_neg c1] at hQ ⊢
    obtain ⟨ex, hx⟩ := zI_4 c0 c4
    obtain ⟨ey, hy, hy1⟩ := zI_pos c1
    obtain ⟨p, hp⟩ : ∃ p, p = x.toNatClampNeg := ⟨_, rfl⟩
    obtain ⟨k, hk⟩ : ∃ k, k = y.toNatClampNeg := ⟨_, rfl⟩
    rw [← hp] at ex hx hQ
    rw [← hk] at ey hy hy1 hQ
    rw [← ex, ← ey, q3, q1, zcl p (by omega)]
    obtain ⟨t1, t2, t3⟩ := hTR p hx
    rw [show (55 + 3) = 58 from rfl] at k3 n3
    rw [show (55 + 1) = 56 from rfl] at k1 n1
    rw [k3, n3, t1, k1, n1]
    refine ⟨k0, rfl, vp_in_nI (by omega) (by omega), ?_⟩
    by_cases ck : k ≤ (zpl tb p).length
    · rw [if_pos (nI_le ck (by omega)), pk_mul, nI_add, pk_sub (by omega)]
      refine ⟨rfl, vp_in_nI (by omega) (by omega), ?_⟩
      have hi := t3 ((zpl tb p).length - k) (by omega)
      rw [zcl _ (by omega), show p * 16 + (zpl tb p).length - k = 16 * p + ((zpl tb p).length - k) by omega, hi, show (zpl tb p).length - 1 - ((zpl tb p).length - k) = k - 1 by omega]
      have hc := hV.2.2.1 p hx _ (zget_mem (i := k - 1) (by omega))
      obtain ⟨c, hcc⟩ : ∃ c, c = (zpl tb p).getD (k - 1) 0 := ⟨_, rfl⟩
      have hQ' : Q (some (.int (nI (c + (if c % 16 = zmk tb then 32 else 0))))) σ := by
        unfold zlkv at hQ
        rw [if_pos ck, ← hcc] at hQ
        exact hQ
      rw [← hcc] at hc ⊢
      have hc0 : ¬ c = 0 := fun q => by have := hc.2.1; rw [q] at this; exact absurd this (by decide)
      have hc32 := hc.1
      have hmk9 := hV.2.2.2
      rw [zqi_s, if_pos (by rw [← nI_0, nI_eq (by omega) (by omega)]; exact hc0), u6, p1.2.2.2, hmk, zand15]
      refine ⟨u0, p1.1, k0, ?_⟩
      by_cases cm : c % 16 = zmk tb
      · rw [if_pos cm] at hQ'
        rw [if_neg (by rw [cm]; exact fun q => q rfl), nI_add]
        exact hQ'
      · rw [if_neg cm, Nat.add_zero] at hQ'
        rw [if_pos (by rw [nI_eq (by omega) (by omega)]; exact cm)]
        exact hQ'
    · rw [if_neg (nI_ge (by omega) (by omega)), zqi_s, if_neg (by decide)]
      have hQ' : Q (some (.int (nI 0))) σ := by
        unfold zlkv at hQ
        rw [if_neg ck] at hQ
        exact hQ
      exact hQ'
set_option maxHeartbeats 2000000 in
theorem pr_look {d : Nat} {σ : zH} {m : zMS} {x y : Int32} (hI : zIR σ m) (hm : zMok m) {Q : Option Value → zH → Prop} (hQ : ∀ τ, zIR τ m → zFr 160 187 σ τ → Q (some (.int (zalk m x y))) τ) : zM (d + 1) 199 [.ref 160, .int x, .int y] σ Q := by
  have hI0 := zIR_0 (nI 0) hI
  have hI' := hI
  obtain ⟨bk, cb, a1, a2, a3, a4, a5, a6, a7, a8⟩ := hI
  have ⟨mK0, mQ1, mK1, mN1, mQ6, mK6, mN6, mQ7, mK7, mN7, mQ8, mK8, mN8, mQ9, mK9, mN9, mQ10, mK10, mN10, mQ11, mK11, mN11, mQ21, mK21, mN21, mQ22, mK22, mN22, mQ23, mK23, mN23, mQ24, mK24, mN24, mQ25, mK25, mN25, mQ26, mK26, mN26, mQ27, mK27, mN27, mQ28, mK28, mN28, mQ32, mK32, mN32, mQ33, mK33, mN33, mQ34, mK34, mN34, mQ35, mK35, mN35, mQ40, mK40, mN40, mQ41, mK41, mN41, mQ42, mK42, mN42, mQ43, mK43, mN43, mQ44, mK44, mN44, mQ45, mK45, mN45, mQ62, mK62, mN62⟩ := a1
  have h7 := hm.2.2.2.2.2.2.1
  unfold zalk at hQ
  refine b199 ⟨mK0, ?_⟩
  rw [zIs (by omega)]
  cases hP : zmP m with
  | none =>
    rw [hP] at hQ a7
    have a7' : zI σ 160 56 = nI 0 := a7.2
    rw [a7', if_pos (by decide)]
    exact hQ _ hI0 (zFr_16 _)
  | some tb =>
    rw [hP] at hQ a7
    obtain ⟨p1, p2, p3⟩ := a7
    have hV := h7 tb hP
    simp only at hQ
    rw [p2, if_neg (by decide), p3]
    by_cases c0 : x < 0
    · rw [if_pos c0] at hQ ⊢
      exact hQ _ hI0 (zFr_16 _)
    rw [if_neg c0] at hQ ⊢
    by_cases c4 : nI 4 ≤ x
    · rw [if_pos c4] at hQ
      rw [if_neg (fun q => by
        obtain ⟨e1, e2⟩ := zI_nat c0
        rw [← e1] at c4 q
        have h1 : 4 ≤ x.toNatClampNeg := by
          by_cases w : 4 ≤ x.toNatClampNeg
          · exact w
          · exact absurd c4 (nI_ge (by omega) (by omega))
        exact absurd q (nI_ge (by omega) (by omega)))]
      exact hQ _ hI0 (zFr_16 _)
    rw [if_neg c4] at hQ
    obtain ⟨ex, hx⟩ := zI_4 c0 c4
    obtain ⟨p, hp⟩ : ∃ p, p = x.toNatClampNeg := ⟨_, rfl⟩
    rw [← hp] at ex hx hQ
    rw [← ex, if_pos (nI_le (by omega) (by omega))]
    have F0 : zFm (fun i => i = 0 ∨ i = 12) zN0 (fun a => a = 166 ∨ a = 167 ∨ (180 ≤ a ∧ a ≤ 185)) σ (zsI σ 160 0 (nI 0)) := zFm_I _ (by omega)
    refine p_untold (zMb_m F0 a1) (zrD_m F0 (by omega) (fun a _ _ => by omega) a3).1 hV (fun τ g1 g2 => ?_)
    rw [zqv_s]
    have F1 : zFm (fun i => i = 0 ∨ i = 12) zN0 (fun a => a = 166 ∨ a = 167 ∨ (180 ≤ a ∧ a ≤ 185)) σ τ := zFm_t F0 (zFm_m (zFm_u g1) (fun i q => Or.inr q) (fun _ q => q) (fun _ q => q))
    have Q1 := hQ τ (zIR_m F1 (by omega) ⟨id, id⟩ (fun a _ _ _ _ => by omega) hI') (zFm_fr F1 (fun a q => by omega))
    by_cases c1 : y < nI 1
    · rw [if_pos c1] at Q1 ⊢
      exact Q1
    rw [if_neg c1] at Q1 ⊢
    obtain ⟨ey, hy, hy1⟩ := zI_pos c1
    obtain ⟨k, hk⟩ : ∃ k, k = y.toNatClampNeg := ⟨_, rfl⟩
    rw [← hk] at ey hy hy1 Q1
    have ⟨mK0, mQ1, mK1, mN1, mQ6, mK6, mN6, mQ7, mK7, mN7, mQ8, mK8, mN8, mQ9, mK9, mN9, mQ10, mK10, mN10, mQ11, mK11, mN11, mQ21, mK21, mN21, mQ22, mK22, mN22, mQ23, mK23, mN23, mQ24, mK24, mN24, mQ25, mK25, mN25, mQ26, mK26, mN26, mQ27, mK27, mN27, mQ28, mK28, mN28, mQ32, mK32, mN32, mQ33, mK33, mN33, mQ34, mK34, mN34, mQ35, mK35, mN35, mQ40, mK40, mN40, mQ41, mK41, mN41, mQ42, mK42, mN42, mQ43, mK43, mN43, mQ44, mK44, mN44, mQ45, mK45, mN45, mQ62, mK62, mN62⟩ := zMb_m F1 a1
    obtain ⟨hRR, h12⟩ := g2
    obtain ⟨t1, t2, t3⟩ := hRR p hx
    rw [← ey, mQ11, mK11, mN11, zcl p (by omega), t1, mQ10, mK10, mN10, h12]
    refine ⟨mK0, rfl, vp_in_nI (by omega) (by omega), ?_⟩
    unfold zlkv at Q1
    by_cases ck : k ≤ (zpl tb p).length
    · rw [if_pos ck] at Q1
      rw [if_pos (nI_le ck (by omega)), pk_mul, nI_add, pk_sub (by omega), zcl _ (by omega), show 10 * p + k - 1 = 10 * p + (k - 1) by omega, t3 (k - 1) (by omega), zand15]
      refine ⟨rfl, vp_in_nI (by omega) (by omega), ?_⟩
      have hc := hV.2.2.1 p hx _ (zget_mem (i := k - 1) (by omega))
      obtain ⟨c, hcc⟩ : ∃ c, c = (zpl tb p).getD (k - 1) 0 := ⟨_, rfl⟩
      rw [← hcc] at hc Q1 ⊢
      have hmk9 := hV.2.2.2
      by_cases cm : c % 16 = zmk tb
      · rw [if_pos cm] at Q1
        rw [if_neg (by rw [cm]; exact fun q => q rfl), nI_add]
        exact Q1
      · rw [if_neg cm] at Q1
        rw [if_pos (by rw [nI_eq (by omega) (by omega)]; exact cm), nI_add]
        exact Q1
    · rw [if_neg ck] at Q1
      rw [if_neg (nI_ge (by omega) (by omega))]
      exact Q1
