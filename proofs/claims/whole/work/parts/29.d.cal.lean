/-! the reference's small calls -/
def zN0 (_ : Nat) : Prop := False
theorem zIR_0 {σ : zH} {m : zMS} (v : Int32) (hI : zIR σ m) : zIR (zsI σ 160 0 v) m := zIR_m (J := fun i => i = 0) (L := zN0) (A := zN0) (zFm_I v rfl) (by omega) ⟨id, id⟩ (fun _ _ _ _ _ => id) hI
theorem zFr_16 {σ : zH} {j : Nat} (v : Int32) : zFr 160 187 σ (zsI σ 160 j v) := zFr_sI j v (by omega) (by omega)
theorem pr_count {d : Nat} {σ : zH} {m : zMS} {x : Int32} (hI : zIR σ m) {Q : Option Value → zH → Prop} (hQ : ∀ τ, zIR τ m → zFr 160 187 σ τ → Q (some (.int (zaCount m x))) τ) : zM d 204 [.ref 160, .int x] σ Q := by
  have hI0 := zIR_0 (nI 0) hI
  obtain ⟨bk, cb, a1, a2, a3, a4, a5, a6, a7, a8⟩ := hI
  have ⟨mK0, mQ1, mK1, mN1, mQ6, mK6, mN6, mQ7, mK7, mN7, mQ8, mK8, mN8, mQ9, mK9, mN9, mQ10, mK10, mN10, mQ11, mK11, mN11, mQ21, mK21, mN21, mQ22, mK22, mN22, mQ23, mK23, mN23, mQ24, mK24, mN24, mQ25, mK25, mN25, mQ26, mK26, mN26, mQ27, mK27, mN27, mQ28, mK28, mN28, mQ32, mK32, mN32, mQ33, mK33, mN33, mQ34, mK34, mN34, mQ35, mK35, mN35, mQ40, mK40, mN40, mQ41, mK41, mN41, mQ42, mK42, mN42, mQ43, mK43, mN43, mQ44, mK44, mN44, mQ45, mK45, mN45, mQ62, mK62, mN62⟩ := a1
  have Q1 := hQ _ hI0 (zFr_16 _)
  unfold zaCount at Q1
  refine b204 ⟨mK0, ?_⟩
  have e5 : zI σ 160 5 = nI (zmN m) := a3.1.1
  have e30 : zI σ 160 30 = nI (zmS m).length := a4.2.2.1
  rw [zIs (by omega), zIs (by omega), zIs (by omega), zIs (by omega), e5, e30, a2.2, a7.1]
  by_cases c0 : x = nI 0
  · rw [if_pos c0] at Q1
    rw [if_neg (fun q => q (by rw [c0]; exact nI_0))]
    exact Q1
  · rw [if_neg c0] at Q1
    rw [if_pos (fun q => c0 (by rw [q]; exact nI_0.symm))]
    by_cases c1 : x = nI 1
    · rw [if_pos c1] at Q1
      rw [if_neg (fun q => q c1)]
      exact Q1
    · rw [if_neg c1] at Q1
      rw [if_pos c1]
      by_cases c2 : x = nI 2
      · rw [if_pos c2] at Q1
        rw [if_neg (fun q => q c2)]
        exact Q1
      · rw [if_neg c2] at Q1
        rw [if_pos c2]
        by_cases c3 : x = nI 3
        · rw [if_pos c3] at Q1
          rw [if_neg (fun q => q c3)]
          exact Q1
        · rw [if_neg c3] at Q1
          rw [if_pos c3]
          exact Q1
theorem pr_fault {d : Nat} {σ : zH} {m : zMS} (hI : zIR σ m) {Q : Option Value → zH → Prop} (hQ : ∀ τ, zIR τ m → zFr 160 187 σ τ → Q (some (.int (nI (zmf m)))) τ) : zM d 168 [.ref 160] σ Q := by
  have hI0 := zIR_0 (nI 0) hI
  obtain ⟨bk, cb, a1, a2, a3, a4, a5, a6, a7, a8⟩ := hI
  have ⟨mK0, mQ1, mK1, mN1, mQ6, mK6, mN6, mQ7, mK7, mN7, mQ8, mK8, mN8, mQ9, mK9, mN9, mQ10, mK10, mN10, mQ11, mK11, mN11, mQ21, mK21, mN21, mQ22, mK22, mN22, mQ23, mK23, mN23, mQ24, mK24, mN24, mQ25, mK25, mN25, mQ26, mK26, mN26, mQ27, mK27, mN27, mQ28, mK28, mN28, mQ32, mK32, mN32, mQ33, mK33, mN33, mQ34, mK34, mN34, mQ35, mK35, mN35, mQ40, mK40, mN40, mQ41, mK41, mN41, mQ42, mK42, mN42, mQ43, mK43, mN43, mQ44, mK44, mN44, mQ45, mK45, mN45, mQ62, mK62, mN62⟩ := a1
  refine b168 ⟨mK0, ?_⟩
  rw [zIs (by omega), a6]
  exact hQ _ hI0 (zFr_16 _)
theorem zRtp_cut {σ : zH} {B : List Nat} (n : Nat) (h : zRtp σ B) : zRtp σ (B.take n) := by
  obtain ⟨b1, b2, b3⟩ := h
  refine ⟨by rw [List.length_take]; omega, fun i hi => ?_, fun c hc => b3 c (List.mem_of_mem_take hc)⟩
  rw [List.length_take] at hi
  rw [b2 i (by omega)]
  congr 1
  simp only [List.getD]
  rw [List.getElem?_take, if_pos (by omega)]
theorem zIR_tp {J A : Nat → Prop} {σ τ : zH} {m : zMS} {B : List Nat} (h : zFm J zN0 A σ τ) (hj : ∀ i, J i → i = 0 ∨ i = 2) (ha : ∀ a, A a → a = 161) (hB : zrT τ B) (hI : zIR σ m) : zIR τ (zmsB B m) := by
  obtain ⟨bk, cb, a1, a2, a3, a4, a5, a6, a7, a8⟩ := hI
  have hJ : ∀ i, i ≠ 0 → i ≠ 2 → ¬ J i := fun i h0 h2 q => by have := hj i q; omega
  have hA : ∀ a, a ≠ 161 → ¬ A a := fun a h0 q => h0 (ha a q)
  exact ⟨bk, cb, zMb_m h a1, hB, zrD_m h (hJ _ (by omega) (by omega)) (fun a _ _ => hA a (by omega)) a3, zrK_m h ⟨hJ _ (by omega) (by omega), hJ _ (by omega) (by omega)⟩ (fun a _ _ => hA a (by omega)) a4, zrC_m h ⟨hJ _ (by omega) (by omega), hJ _ (by omega) (by omega)⟩ (fun a _ _ => hA a (by omega)) a5, by rw [h.2.2.2.2.2.2.2.2.1 16 (hJ _ (by omega) (by omega))]; exact a6, zrP_m h ⟨hJ _ (by omega) (by omega), hJ _ (by omega) (by omega)⟩ id a7, zrRn_m h ⟨hJ _ (by omega) (by omega), hJ _ (by omega) (by omega), hJ _ (by omega) (by omega), hJ _ (by omega) (by omega)⟩ id a8⟩
def zJ02 (i : Nat) : Prop := i = 0 ∨ i = 2
theorem pr_end {d : Nat} {σ : zH} {m : zMS} {x : Int32} (hI : zIR σ m) {Q : Option Value → zH → Prop} (hQ : ∀ τ, zIR τ (zrs (zsend m x) m) → zFr 160 187 σ τ → Q (some (.int (zra (zsend m x)))) τ) : zM d 130 [.ref 160, .int x] σ Q := by
  have hI' := hI
  have hI0 := zIR_0 (nI 0) hI
  obtain ⟨bk, cb, a1, a2, a3, a4, a5, a6, a7, a8⟩ := hI
  have ⟨mK0, mQ1, mK1, mN1, mQ6, mK6, mN6, mQ7, mK7, mN7, mQ8, mK8, mN8, mQ9, mK9, mN9, mQ10, mK10, mN10, mQ11, mK11, mN11, mQ21, mK21, mN21, mQ22, mK22, mN22, mQ23, mK23, mN23, mQ24, mK24, mN24, mQ25, mK25, mN25, mQ26, mK26, mN26, mQ27, mK27, mN27, mQ28, mK28, mN28, mQ32, mK32, mN32, mQ33, mK33, mN33, mQ34, mK34, mN34, mQ35, mK35, mN35, mQ40, mK40, mN40, mQ41, mK41, mN41, mQ42, mK42, mN42, mQ43, mK43, mN43, mQ44, mK44, mN44, mQ45, mK45, mN45, mQ62, mK62, mN62⟩ := a1
  unfold zsend at hQ
  refine b130 ⟨mK0, ?_⟩
  rw [zIs (by omega), a2.2]
  by_cases c0 : x < 0
  · rw [if_pos c0] at hQ ⊢
    exact hQ _ hI0 (zFr_16 _)
  · rw [if_neg c0] at hQ ⊢
    by_cases c1 : x ≤ nI (zmB m).length
    · rw [if_pos c1] at hQ ⊢
      obtain ⟨e1, e2⟩ := zI_nat c0
      have h9 := a2.1.1
      have hle : x.toNatClampNeg ≤ (zmB m).length := by
        rw [← e1] at c1
        by_cases q : x.toNatClampNeg ≤ (zmB m).length
        · exact q
        · exact absurd c1 (nI_ge (by omega) (by omega))
      have F : zFm zJ02 zN0 zN0 σ (zsI (zsI σ 160 0 (nI 0)) 160 2 x) := zFm_t (zFm_I _ (Or.inl rfl)) (zFm_I _ (Or.inr rfl))
      refine hQ _ ?_ (zFr_t (zFr_16 _) (zFr_16 _))
      refine zIR_tp F (fun i q => q) (fun a q => q.elim) ⟨zRtp_cut _ a2.1, ?_⟩ hI'
      rw [zIe, List.length_take, Nat.min_eq_left hle, e1]
    · rw [if_neg c1] at hQ ⊢
      exact hQ _ hI0 (zFr_16 _)
