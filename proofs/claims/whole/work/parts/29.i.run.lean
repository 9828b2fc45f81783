/-! the reference's ends and choice -/
theorem l_rcof {d : Nat} {σ : zH} {r : List Nat} (h : zrok 8 r) {Q : Option Value → zH → Prop} (hQ : Q (some (.int (nI r.length))) σ) : ∀ (c k : Nat), k + c = r.length → zW d 194 2 [(1, .long (lN (zrR r))), (3, .int (nI k))] [] σ Q := by
  have h8 := h.1
  intro c
  induction c with
  | zero =>
    intro k hk
    refine b194_2 ?_
    have e : k = r.length := by omega
    by_cases c8 : k = 8
    · rw [if_pos (nI_le (by omega) (by omega)), e]
      exact hQ
    · rw [if_neg (nI_ge (by omega) (by omega)), pk_mul, pk_sub (by omega), zrR_dig h (by omega), if_neg (c := k < r.length) (by omega), if_pos ((lg_cmp_eq _ _).mpr rfl), e]
      exact hQ
  | succ c ih =>
    intro k hk
    refine b194_2 ?_
    have hd : r.getD k 0 ≤ 125 := by
      have hkl : k < r.length := by omega
      have : r.getD k 0 ∈ r := by
        simp only [List.getD]
        rw [List.getElem?_eq_getElem hkl]
        exact List.getElem_mem _
      exact h.2 _ this
    rw [if_neg (nI_ge (by omega) (by omega)), pk_mul, pk_sub (by omega), zrR_dig h (by omega), if_pos (c := k < r.length) (by omega), if_neg (fun q => by
      have := (lg_cmp_eq _ _).mp q
      rw [pk_lEQ (by omega) (by omega)] at this
      omega), nI_add]
    exact ih (k + 1) (by omega)
theorem p_rcof {d : Nat} {σ : zH} {r : List Nat} (h : zrok 8 r) {Q : Option Value → zH → Prop} (hQ : Q (some (.int (nI r.length))) σ) : zM d 194 [.ref 160, .long (lN (zrR r))] σ Q := b194 (l_rcof h hQ r.length 0 (by omega))
theorem pr_ends {d : Nat} {σ : zH} {m : zMS} {x : Int32} (hI : zIR σ m) (hm : zMok m) {Q : Option Value → zH → Prop} (hQ : ∀ τ, zIR τ m → zFr 160 187 σ τ → Q (some (.int (zaen m x))) τ) : zM (d + 1) 195 [.ref 160, .int x] σ Q := by
  have hI0 := zIR_0 (nI 0) hI
  have Q1 := hQ _ hI0 (zFr_16 _)
  obtain ⟨bk, cb, a1, a2, a3, a4, a5, a6, a7, a8⟩ := hI
  have ⟨mK0, mQ1, mK1, mN1, mQ6, mK6, mN6, mQ7, mK7, mN7, mQ8, mK8, mN8, mQ9, mK9, mN9, mQ10, mK10, mN10, mQ11, mK11, mN11, mQ21, mK21, mN21, mQ22, mK22, mN22, mQ23, mK23, mN23, mQ24, mK24, mN24, mQ25, mK25, mN25, mQ26, mK26, mN26, mQ27, mK27, mN27, mQ28, mK28, mN28, mQ32, mK32, mN32, mQ33, mK33, mN33, mQ34, mK34, mN34, mQ35, mK35, mN35, mQ40, mK40, mN40, mQ41, mK41, mN41, mQ42, mK42, mN42, mQ43, mK43, mN43, mQ44, mK44, mN44, mQ45, mK45, mN45, mQ62, mK62, mN62⟩ := a1
  have h6 := hm.2.2.2.2.2.1
  unfold zaen at Q1
  refine b195 ⟨mK0, ?_⟩
  rw [zIs (by omega), zIs (by omega), zIs (by omega), zIs (by omega)]
  cases hr : zmR m with
  | none =>
    rw [hr] at a8 Q1
    have a8' : zI σ 160 51 = nI 0 := a8
    rw [a8', if_pos (by decide)]
    exact Q1
  | some r1 =>
    cases r1 with
    | none =>
      rw [hr] at a8 Q1
      obtain ⟨v1, v2⟩ := a8
      rw [v1, if_neg (by decide), v2, if_neg (by exact fun q => q rfl)]
      exact Q1
    | some t =>
      obtain ⟨e, g, br⟩ := t
      rw [hr] at a8 Q1
      obtain ⟨v1, v2, v3, v4, v5⟩ := a8
      obtain ⟨-, -, hn, hz⟩ := h6 e g br hr
      simp only at Q1
      rw [v1, if_neg (by decide), v2, v3, v4, v5, if_pos (by split <;> decide)]
      by_cases c0 : x = nI 0
      · rw [if_pos c0] at Q1
        rw [if_neg (fun q => q (by rw [c0]; exact nI_0))]
        exact Q1
      rw [if_neg c0] at Q1
      rw [if_pos (fun q => c0 (by rw [q]; exact nI_0.symm))]
      by_cases c1 : x = nI 1
      · rw [if_pos c1] at Q1
        rw [if_neg (fun q => q c1)]
        exact Q1
      rw [if_neg c1] at Q1
      rw [if_pos c1]
      by_cases c2 : x = nI 2
      · rw [if_pos c2] at Q1
        rw [if_neg (fun q => q c2)]
        cases br with
        | none =>
          have := hn.mp rfl
          rw [if_pos (c := g = e) this, if_pos (by decide)]
          exact Q1
        | some r =>
          have : ¬ g = e := fun q => by have := hn.mpr q; cases this
          rw [if_neg (c := g = e) this, if_neg (by exact fun q => q rfl)]
          refine p_rcof (hz r rfl) ?_
          rw [zqi_s]
          exact Q1
      · rw [if_neg c2] at Q1
        rw [if_pos c2]
        exact Q1
theorem pr_choice {d : Nat} {σ : zH} {m : zMS} {x : Int32} (hI : zIR σ m) (hm : zMok m) {Q : Option Value → zH → Prop} (hQ : ∀ τ, zIR τ m → zFr 160 187 σ τ → Q (some (.int (zach m x))) τ) : zM (d + 1) 196 [.ref 160, .int x] σ Q := by
  have hI0 := zIR_0 (nI 0) hI
  have Q1 := hQ _ hI0 (zFr_16 _)
  obtain ⟨bk, cb, a1, a2, a3, a4, a5, a6, a7, a8⟩ := hI
  have ⟨mK0, mQ1, mK1, mN1, mQ6, mK6, mN6, mQ7, mK7, mN7, mQ8, mK8, mN8, mQ9, mK9, mN9, mQ10, mK10, mN10, mQ11, mK11, mN11, mQ21, mK21, mN21, mQ22, mK22, mN22, mQ23, mK23, mN23, mQ24, mK24, mN24, mQ25, mK25, mN25, mQ26, mK26, mN26, mQ27, mK27, mN27, mQ28, mK28, mN28, mQ32, mK32, mN32, mQ33, mK33, mN33, mQ34, mK34, mN34, mQ35, mK35, mN35, mQ40, mK40, mN40, mQ41, mK41, mN41, mQ42, mK42, mN42, mQ43, mK43, mN43, mQ44, mK44, mN44, mQ45, mK45, mN45, mQ62, mK62, mN62⟩ := a1
  have h6 := hm.2.2.2.2.2.1
  unfold zach at Q1
  refine b196 ⟨mK0, ?_⟩
  rw [zIs (by omega), zIs (by omega)]
  cases hr : zmR m with
  | none =>
    rw [hr] at a8 Q1
    have a8' : zI σ 160 51 = nI 0 := a8
    rw [a8', if_pos (by decide)]
    exact Q1
  | some r1 =>
    cases r1 with
    | none =>
      rw [hr] at a8 Q1
      obtain ⟨v1, v2⟩ := a8
      rw [v1, if_neg (by decide), v2, if_pos (by decide)]
      exact Q1
    | some t =>
      obtain ⟨e, g, br⟩ := t
      rw [hr] at a8 Q1
      obtain ⟨v1, v2, v3, v4, v5⟩ := a8
      obtain ⟨-, -, hn, hz⟩ := h6 e g br hr
      rw [v1, if_neg (by decide), v2]
      cases br with
      | none =>
        have := hn.mp rfl
        rw [if_pos (c := g = e) this, if_pos (by decide)]
        exact Q1
      | some r =>
        have : ¬ g = e := fun q => by have := hn.mpr q; cases this
        have hk := hz r rfl
        have h8 := hk.1
        rw [if_neg (c := g = e) this, if_neg (by exact fun q => q rfl)]
        simp only at Q1
        by_cases c0 : x < 0
        · rw [if_pos c0] at Q1 ⊢; exact Q1
        rw [if_neg c0] at Q1 ⊢
        rw [v5, show zbR (some r) = lN (zrR r) from rfl]
        refine p_rcof hk ?_
        rw [zqi_s]
        by_cases c1 : x < nI r.length
        · rw [if_pos c1] at Q1 ⊢
          obtain ⟨e1, e2⟩ := zI_nat c0
          have hlt : x.toNatClampNeg < r.length := by
            by_cases q : x.toNatClampNeg < r.length
            · exact q
            · rw [← e1] at c1
              exact absurd c1 (nI_nlt (by omega) (by omega))
          obtain ⟨k, hkk⟩ : ∃ k, k = x.toNatClampNeg := ⟨_, rfl⟩
          rw [← hkk] at e1 hlt Q1
          rw [← e1]
          refine ⟨mK0, ?_⟩
          have e55 : zJ (zsI σ 160 0 (nI 0)) 160 55 = lN (zrR r) := v5
          have hd : r.getD k 0 ≤ 125 := by
            have : r.getD k 0 ∈ r := by
              simp only [List.getD]
              rw [List.getElem?_eq_getElem hlt]
              exact List.getElem_mem _
            exact hk.2 _ this
          rw [e55, pk_mul, pk_sub (by omega), zrR_dig hk (by omega), if_pos hlt, lN_i, pk_sub (by omega)]
          exact Q1
        · rw [if_neg c1] at Q1 ⊢
          exact Q1
