/-! the class's small calls -/
def zaCount (m : zMS) (x : Int32) : Int32 := if x = nI 0 then nI (zmN m) else if x = nI 1 then nI (zmS m).length else if x = nI 2 then nI (zmB m).length else if x = nI 3 then nI (zmT m) else -1
theorem pc_count {d : Nat} {σ : zH} {m : zMS} {x : Int32} (hI : zIC σ m) {Q : Option Value → zH → Prop} (hQ : Q (some (.int (zaCount m x))) σ) : zM d 122 [.ref 1, .int x] σ Q := by
  obtain ⟨T, T', o, o', a1, a2, a3, a4, a5, a6, a7, a8, a9, a10⟩ := hI
  obtain ⟨⟨u0, u1, u2, u3, u4, u5, u6, u7, u8, u9, u10, u11⟩, hTT, hoo, urun⟩ := a1
  unfold zaCount at hQ
  refine b122 ?_
  rw [u0, u1, u2, u6, u8]
  have e4 : zI σ 4 4 = nI (zmN m) := a3.1.2.2.2.2.2.2.2.2.2.2.2.2.2.1
  have k4 : zK σ 4 = 2 := a3.1.1
  rw [e4, k4, a9.1.1.1, a9.1.2.1, a2.1, a2.2.2.2.2.1, a7.1.1, a7.2.2.1]
  by_cases c0 : x = nI 0
  · rw [if_pos c0] at hQ ⊢
    exact ⟨rfl, rfl, hQ⟩
  · rw [if_neg c0] at hQ ⊢
    by_cases c1 : x = nI 1
    · rw [if_pos c1] at hQ ⊢
      exact ⟨rfl, rfl, hQ⟩
    · rw [if_neg c1] at hQ ⊢
      by_cases c2 : x = nI 2
      · rw [if_pos c2] at hQ ⊢
        exact ⟨rfl, rfl, hQ⟩
      · rw [if_neg c2] at hQ ⊢
        by_cases c3 : x = nI 3
        · rw [if_pos c3] at hQ ⊢
          exact ⟨rfl, rfl, hQ⟩
        · rw [if_neg c3] at hQ ⊢
          exact hQ
theorem pc_fault {d : Nat} {σ : zH} {m : zMS} (hI : zIC σ m) {Q : Option Value → zH → Prop} (hQ : Q (some (.int (nI (zmf m)))) σ) : zM d 113 [.ref 1] σ Q := by
  obtain ⟨T, T', o, o', a1, a2, a3, a4, a5, a6, a7, a8, a9, a10⟩ := hI
  obtain ⟨⟨u0, u1, u2, u3, u4, u5, u6, u7, u8, u9, u10, u11⟩, hTT, hoo, urun⟩ := a1
  refine b113 ?_
  rw [u0, u3, a4.2]
  exact ⟨rfl, a4.1.1, hQ⟩
/-- the tape cut to n bytes -/
def zmsB (B : List Nat) (m : zMS) : zMS := (B, m.2)
theorem zTp_cut {σ : zH} {B : List Nat} {n : Nat} (hn : n ≤ B.length) (h : zTp σ B) : zTp (zsI σ 2 1 (nI n)) (B.take n) := by
  obtain ⟨b1, b2, b3, b4, b5, b6, b7, b8⟩ := h
  have hl : (B.take n).length = n := by rw [List.length_take]; omega
  refine ⟨b1, b2, b3, b4, by rw [zIe, hl], by omega, fun i hi => ?_, fun c hc => b8 c (List.mem_of_mem_take hc)⟩
  rw [hl] at hi
  show zA σ 3 i = _
  rw [b7 i (by omega)]
  congr 1
  simp only [List.getD]
  rw [List.getElem?_take]
  rw [if_pos hi]
theorem zIC_tp {σ τ : zH} {m : zMS} {B : List Nat} (h : zFr 2 4 σ τ) (hB : zTp τ B) (hI : zIC σ m) : zIC τ (zmsB B m) := by
  obtain ⟨T, T', o, o', a1, a2, a3, a4, a5, a6, a7, a8, a9, a10⟩ := hI
  exact ⟨T, T', o, o', zc1_f h (by omega) a1, hB, zc4_f h (by omega) a3, zc9_f h (by omega) a4, zTb_fr h (by omega) a5, zc18_f h (by omega) a6, zc54_f h (by omega) a7, zc59_f h a8, zcTr_f h a1.2.1 (by omega) a9, zcC_f h a1.2.2.1 (by omega) a10⟩
def zsend (m : zMS) (x : Int32) : Option zMS := if x < 0 then none else if x ≤ nI (zmB m).length then some (zmsB ((zmB m).take x.toNatClampNeg) m) else none
def zrs (o : Option zMS) (m : zMS) : zMS := match o with | some m' => m' | none => m
def zra (o : Option zMS) : Int32 := match o with | some _ => nI 1 | none => nI 0
theorem zI_nat {x : Int32} (h : ¬ x < 0) : nI x.toNatClampNeg = x ∧ x.toNatClampNeg < 2 ^ 31 := by
  have h0 : 0 ≤ x.toInt := by
    have := Int32.lt_iff_toInt_lt (x := x) (y := 0)
    have z : (0 : Int32).toInt = 0 := by decide
    rw [z] at this
    exact Int.not_lt.mp (fun q => h (this.mpr q))
  have h1 : x.toInt < 2 ^ 31 := Int32.toInt_lt x
  have e : x.toNatClampNeg = x.toInt.toNat := rfl
  refine ⟨?_, by rw [e]; omega⟩
  apply Int32.toInt_inj.mp
  rw [e]
  rw [nI_toInt (by omega)]
  omega
theorem pc_end {d : Nat} {σ : zH} {m : zMS} {x : Int32} (hI : zIC σ m) {Q : Option Value → zH → Prop} (hQ : ∀ τ, zIC τ (zrs (zsend m x) m) → zFr 1 160 σ τ → Q (some (.int (zra (zsend m x)))) τ) : zM d 107 [.ref 1, .int x] σ Q := by
  have hI' := hI
  obtain ⟨T, T', o, o', a1, a2, a3, a4, a5, a6, a7, a8, a9, a10⟩ := hI
  obtain ⟨⟨u0, u1, u2, u3, u4, u5, u6, u7, u8, u9, u10, u11⟩, hTT, hoo, urun⟩ := a1
  unfold zsend at hQ
  refine b107 ?_
  rw [u0, u1, a2.1, a2.2.2.2.2.1]
  by_cases c0 : x < 0
  · rw [if_pos c0] at hQ ⊢
    exact hQ σ hI' (zFr_r _ _ _)
  · rw [if_neg c0] at hQ ⊢
    refine ⟨rfl, rfl, ?_⟩
    by_cases c1 : x ≤ nI (zmB m).length
    · rw [if_pos c1] at hQ ⊢
      obtain ⟨e1, e2⟩ := zI_nat c0
      have h9 := a2.2.2.2.2.2.1
      have hle : x.toNatClampNeg ≤ (zmB m).length := by
        rw [← e1] at c1
        by_cases q : x.toNatClampNeg ≤ (zmB m).length
        · exact q
        · exact absurd c1 (nI_ge (by omega) (by omega))
      refine hQ _ ?_ (zFr_sI 1 x (by omega) (by omega))
      refine zIC_tp (zFr_sI 1 x (by omega) (by omega)) ?_ hI'
      have := zTp_cut hle a2
      rw [e1] at this
      exact this
    · rw [if_neg c1] at hQ ⊢
      exact hQ σ hI' (zFr_r _ _ _)
