/-! both sides, call by call -/
def zLv (σ : zH) : Prop := ∃ m : zMS, zIC σ m ∧ zIR σ m ∧ zMok m ∧ zK σ 187 = 21 ∧ zN σ 187 = 1
def zPr (M N : Nat) (as : List Value) (σ : zH) : Prop := zM 60 M (.ref 1 :: as) σ (fun r1 σ1 => (zX σ1 = zX σ ∧ zL σ1 = zL σ) ∧ ∃ v : Int32, r1 = some (.int v) ∧ zK σ1 160 = 13 ∧ zM 60 N (.ref 160 :: as) σ1 (fun r2 σ2 => (zX σ2 = zX σ1 ∧ zL σ2 = zL σ1) ∧ r2 = some (.int v) ∧ zLv σ2))
theorem zIR_k {σ : zH} {m : zMS} (h : zIR σ m) : zK σ 160 = 13 := by
  obtain ⟨bk, cb, a1, -⟩ := h
  exact a1.1
theorem zIC_k {σ : zH} {m : zMS} (h : zIC σ m) : zK σ 1 = 12 := by
  obtain ⟨T, T', o, o', a1, -⟩ := h
  exact a1.1.1
theorem zPr_of {M N : Nat} {as : List Value} {σ : zH} {m m' : zMS} {v : Int32} (hR : zIR σ m) (h7 : zK σ 187 = 21 ∧ zN σ 187 = 1) (hm' : zMok m')
    (hc : ∀ {Q : Option Value → zH → Prop}, (∀ τ, zIC τ m' → zFr 1 160 σ τ → Q (some (.int v)) τ) → zM 60 M (.ref 1 :: as) σ Q)
    (hr : ∀ {τ : zH} {Q : Option Value → zH → Prop}, zIR τ m → (∀ υ, zIR υ m' → zFr 160 187 τ υ → Q (some (.int v)) υ) → zM 60 N (.ref 160 :: as) τ Q) : zPr M N as σ := by
  refine hc (fun τ h1 h2 => ⟨⟨h2.2.2.1, h2.2.2.2.1⟩, v, rfl, ?_, ?_⟩)
  · rw [h2.1]
    exact zIR_k hR
  · refine hr (zIR_f h2 (by omega) hR) (fun υ g1 g2 => ⟨⟨g2.2.2.1, g2.2.2.2.1⟩, rfl, m', zIC_f g2 (by omega) h1, g1, hm', ?_, ?_⟩)
    · rw [g2.1, h2.1]
      exact h7.1
    · rw [g2.2.1, h2.2.1]
      exact h7.2
theorem zp_feed {σ : zH} {a b c d e : Int32} (h : zLv σ) : zPr 106 128 [.int a, .int b, .int c, .int d, .int e] σ := by
  obtain ⟨m, hI, hR, hm, h7⟩ := h
  exact zPr_of hR h7 (zmok_feed hm) (fun hQ => pc_feed (D := 59) hI hQ) (fun h hQ => pr_feed (D := 59) h hQ)
theorem zp_end {σ : zH} {x : Int32} (h : zLv σ) : zPr 107 130 [.int x] σ := by
  obtain ⟨m, hI, hR, hm, h7⟩ := h
  exact zPr_of hR h7 (zmok_end hm) (fun hQ => pc_end (d := 60) hI hQ) (fun h hQ => pr_end (d := 60) h hQ)
theorem zp_cards {σ : zH} {x : Int32} (h : zLv σ) : zPr 108 133 [.int x] σ := by
  obtain ⟨m, hI, hR, hm, h7⟩ := h
  exact zPr_of hR h7 (zmok_cards hm) (fun hQ => pc_cards (d := 58) hI hQ) (fun h hQ => pr_cards (d := 59) h hQ)
theorem zp_card {σ : zH} {x y z w : Int32} (h : zLv σ) : zPr 109 134 [.int x, .int y, .int z, .int w] σ := by
  obtain ⟨m, hI, hR, hm, h7⟩ := h
  exact zPr_of hR h7 (zmok_card hm) (fun hQ => pc_card (d := 59) hI hm hQ) (fun h hQ => pr_card (d := 60) h hm hQ)
theorem zp_start {σ : zH} (h : zLv σ) : zPr 110 135 [] σ := by
  obtain ⟨m, hI, hR, hm, h7⟩ := h
  exact zPr_of hR h7 (zmok_start hm) (fun hQ => pc_start (d := 59) hI hm hQ) (fun h hQ => pr_start (d := 60) h hm hQ)
theorem zp_trick {σ : zH} (h : zLv σ) : zPr 111 152 [] σ := by
  obtain ⟨m, hI, hR, hm, h7⟩ := h
  exact zPr_of hR h7 (zmok_trick hm) (fun hQ => pc_trick (d := 1) hI hQ) (fun h hQ => pr_trick (d := 9) h hQ)
theorem zp_claim {σ : zH} (h : zLv σ) : zPr 112 167 [] σ := by
  obtain ⟨m, hI, hR, hm, h7⟩ := h
  exact zPr_of hR h7 (zmok_claim hm) (fun hQ => pc_claim (d := 20) hI hQ) (fun h hQ => pr_claim (d := 28) h hQ)
theorem zp_fault {σ : zH} (h : zLv σ) : zPr 113 168 [] σ := by
  obtain ⟨m, hI, hR, hm, h7⟩ := h
  exact zPr_of hR h7 hm (fun hQ => pc_fault (d := 60) hI (hQ σ hI (zFr_r _ _ _))) (fun h hQ => pr_fault (d := 60) h hQ)
theorem zp_run {σ : zH} (h : zLv σ) : zPr 114 193 [] σ := by
  obtain ⟨m, hI, hR, hm, h7⟩ := h
  have hm' : zMok (zsrn m) := by
    obtain ⟨n, r, σ', -, h⟩ := pc_run (d := 0) (Q := fun _ _ => zMok (zsrn m)) hI hm (fun τ h1 h2 h3 => h3)
    exact h
  exact zPr_of hR h7 hm' (fun hQ => pc_run (d := 45) hI hm (fun τ h1 h2 _ => hQ τ h1 h2)) (fun h hQ => pr_run (d := 32) h hm hQ)
theorem zp_ends {σ : zH} {x : Int32} (h : zLv σ) : zPr 115 195 [.int x] σ := by
  obtain ⟨m, hI, hR, hm, h7⟩ := h
  exact zPr_of hR h7 hm (fun hQ => pc_ends (d := 59) hI hm (hQ σ hI (zFr_r _ _ _))) (fun h hQ => pr_ends (d := 59) h hm hQ)
theorem zp_choice {σ : zH} {x : Int32} (h : zLv σ) : zPr 116 196 [.int x] σ := by
  obtain ⟨m, hI, hR, hm, h7⟩ := h
  exact zPr_of hR h7 hm (fun hQ => pc_choice (d := 59) hI hm (hQ σ hI (zFr_r _ _ _))) (fun h hQ => pr_choice (d := 59) h hm hQ)
theorem zp_perform {σ : zH} (h : zLv σ) : zPr 117 197 [] σ := by
  obtain ⟨m, hI, hR, hm, h7⟩ := h
  have hm' : zMok (zspf m) := by
    obtain ⟨n, r, σ', -, h⟩ := pc_perform (d := 0) (Q := fun _ _ => zMok (zspf m)) hI hm (fun τ h1 h2 h3 => h3)
    exact h
  exact zPr_of hR h7 hm' (fun hQ => pc_perform (d := 45) hI hm (fun τ h1 h2 _ => hQ τ h1 h2)) (fun h hQ => pr_perform (d := 33) h hm hQ)
theorem zp_look {σ : zH} {x y : Int32} (h : zLv σ) : zPr 118 199 [.int x, .int y] σ := by
  obtain ⟨m, hI, hR, hm, h7⟩ := h
  exact zPr_of hR h7 hm (fun hQ => pc_look (d := 59) hI hm (hQ σ hI (zFr_r _ _ _))) (fun h hQ => pr_look (d := 59) h hm hQ)
theorem zp_holds {σ : zH} (h : zLv σ) : zPr 119 200 [] σ := by
  obtain ⟨m, hI, hR, hm, h7⟩ := h
  exact zPr_of hR h7 hm (fun hQ => pc_holds (d := 55) hI hm hQ) (fun h hQ => pr_holds (d := 38) h hm hQ)
theorem zp_count {σ : zH} {x : Int32} (h : zLv σ) : zPr 122 204 [.int x] σ := by
  obtain ⟨m, hI, hR, hm, h7⟩ := h
  exact zPr_of hR h7 hm (fun hQ => pc_count (d := 60) hI (hQ σ hI (zFr_r _ _ _))) (fun h hQ => pr_count (d := 60) h hQ)
/-! stack and at: the reference's side behind the class's -/
def zTh (N : Nat) (x k : Int32) (τ : zH) : Prop := zK τ 160 = 13 ∧ zM 60 N [.ref 160, .int x] τ (fun r2 σ2 => (zX σ2 = zX τ ∧ zL σ2 = zL τ) ∧ ∃ w : Int32, r2 = some (.int w) ∧ zK σ2 160 = 13 ∧ zM 60 127 [.ref 160] σ2 (fun r3 σ3 => (zX σ3 = zX σ2 ∧ zL σ3 = zL σ2) ∧ r3 = some (.int k) ∧ zLv σ3 ∧ zK σ3 187 = 21 ∧ zN σ3 187 = 1 ∧ (k = 0 → zB σ3 187 0 = w.toInt64)))
theorem zB_bs {σ : zH} {a j : Nat} {v : Int64} : zB (zsB σ a j v) a j = v := by
  show z2 (zB σ) a j v a j = v
  simp [z2]
theorem zFr_bs {σ : zH} {j : Nat} {v : Int64} : zFr 187 188 σ (zsB σ 187 j v) := by
  refine ⟨rfl, rfl, rfl, rfl, fun a ha => ⟨rfl, rfl, rfl, rfl, ?_, rfl⟩⟩
  funext i
  show z2 (zB σ) 187 j v a i = _
  simp only [z2]
  exact if_neg (by omega)
theorem zth_ok {N : Nat} {x w : Int32} {σ τ : zH} {m m' : zMS} (hm : zMok m) (hm' : zMok m') (hR : zIR σ m) (h7 : zK σ 187 = 21 ∧ zN σ 187 = 1) (hI : zIC τ m') (hF : zFr 1 160 σ τ)
    (hr : ∀ {τ : zH} {Q : Option Value → zH → Prop}, zIR τ m → (∀ υ, zIR υ m' → zFr 160 187 τ υ → zI υ 160 0 = nI 0 → Q (some (.int w)) υ) → zM 60 N [.ref 160, .int x] τ Q) : zTh N x 0 (zsB τ 187 0 w.toInt64) := by
  have g0 := zFr_bs (σ := τ) (j := 0) (v := w.toInt64)
  have hR1 : zIR (zsB τ 187 0 w.toInt64) m := zIR_e (fun b h1 h2 => zEo_t (zEo_fr hF (by omega)) (zEo_fr g0 (by omega))) hR
  refine ⟨zIR_k hR1, hr hR1 (fun υ g1 g2 g3 => ⟨⟨g2.2.2.1, g2.2.2.2.1⟩, w, rfl, zIR_k g1, ?_⟩)⟩
  refine pr_thrown g1 g3 ⟨⟨rfl, rfl⟩, rfl, ⟨m', zIC_f g2 (by omega) (zIC_f g0 (by omega) hI), g1, hm', ?_, ?_⟩, ?_, ?_, fun _ => ?_⟩
  · rw [g2.1]; show zK τ 187 = 21; rw [hF.1]; exact h7.1
  · rw [g2.2.1]; show zN τ 187 = 1; rw [hF.2.1]; exact h7.2
  · rw [g2.1]; show zK τ 187 = 21; rw [hF.1]; exact h7.1
  · rw [g2.2.1]; show zN τ 187 = 1; rw [hF.2.1]; exact h7.2
  · rw [(zFr_o g2 (a := 187) (by omega)).2.2.2.2.1]
    exact zB_bs
theorem zth_no {N k : Nat} {x : Int32} {σ : zH} {m : zMS} (hm : zMok m) (hI : zIC σ m) (hR : zIR σ m) (h7 : zK σ 187 = 21 ∧ zN σ 187 = 1)
    (hr : ∀ {τ : zH} {Q : Option Value → zH → Prop}, zIR τ m → (∀ υ, zIR υ m → zFr 160 187 τ υ → zI υ 160 0 = nI 1 → Q (some (.int (nI 0))) υ) → zM 60 N [.ref 160, .int x] τ Q) : zTh N x 1 (zbp σ k) := by
  have hR1 : zIR (zbp σ k) m := zIR_e (fun b h1 h2 => zEo_bp) hR
  refine ⟨zIR_k hR1, hr hR1 (fun υ g1 g2 g3 => ⟨⟨g2.2.2.1, g2.2.2.2.1⟩, nI 0, rfl, zIR_k g1, ?_⟩)⟩
  refine pr_thrown g1 g3 ⟨⟨rfl, rfl⟩, rfl, ⟨m, zIC_f g2 (by omega) (zIC_bp hI), g1, hm, ?_, ?_⟩, ?_, ?_, fun q => ?_⟩
  · rw [g2.1]; exact h7.1
  · rw [g2.2.1]; exact h7.2
  · rw [g2.1]; exact h7.1
  · rw [g2.2.1]; exact h7.2
  · exact absurd q (by decide)
/-- what the law's helper owes at its end -/
theorem zth_stack1 {x : Int32} {σ : zH} {m : zMS} (hm : zMok m) (hI : zIC σ m) (hR : zIR σ m) (h7 : zK σ 187 = 21 ∧ zN σ 187 = 1) (hv : zskv x) : zM 60 120 [.ref 1, .int x] σ (fun r1 σ1 => (zX σ1 = zX σ ∧ zL σ1 = zL σ) ∧ ∃ w : Int32, r1 = some (.int w) ∧ zK σ1 187 = 21 ∧ zN σ1 187 = 1 ∧ zTh 201 x 0 (zsB σ1 187 0 w.toInt64)) := by
  refine pc_stack (d := 45) hI hm hv (fun τ h1 h2 => ⟨⟨h2.2.2.1, h2.2.2.2.1⟩, _, rfl, by rw [h2.1]; exact h7.1, by rw [h2.2.1]; exact h7.2, ?_⟩)
  exact zth_ok hm (zmok_stack hm) hR h7 h1 h2 (fun h hQ => pr_stack (d := 32) h hm (fun _ => hQ) (fun q => absurd hv q))
theorem zth_at1 {x : Int32} {σ : zH} {m : zMS} (hm : zMok m) (hI : zIC σ m) (hR : zIR σ m) (h7 : zK σ 187 = 21 ∧ zN σ 187 = 1) (hv : zatv m x) : zM 60 121 [.ref 1, .int x] σ (fun r1 σ1 => (zX σ1 = zX σ ∧ zL σ1 = zL σ) ∧ ∃ w : Int32, r1 = some (.int w) ∧ zK σ1 187 = 21 ∧ zN σ1 187 = 1 ∧ zTh 203 x 0 (zsB σ1 187 0 w.toInt64)) := by
  refine pc_at (d := 60) hI hm hv ⟨⟨rfl, rfl⟩, _, rfl, h7.1, h7.2, ?_⟩
  exact zth_ok hm hm hR h7 hI (zFr_r _ _ _) (fun h hQ => pr_at (d := 60) h hm (fun _ => hQ) (fun q => absurd hv q))
theorem zth_stack0 {x : Int32} {k : Nat} {σ : zH} {m : zMS} (hm : zMok m) (hI : zIC σ m) (hR : zIR σ m) (h7 : zK σ 187 = 21 ∧ zN σ 187 = 1) (hv : ¬ zskv x) : zTh 201 x 1 (zbp σ k) :=
  zth_no hm hI hR h7 (fun h hQ => pr_stack (d := 32) h hm (fun q => absurd q hv) (fun _ => hQ))
theorem zth_at0 {x : Int32} {k : Nat} {σ : zH} {m : zMS} (hm : zMok m) (hI : zIC σ m) (hR : zIR σ m) (h7 : zK σ 187 = 21 ∧ zN σ 187 = 1) (hv : ¬ zatv m x) : zTh 203 x 1 (zbp σ k) :=
  zth_no hm hI hR h7 (fun h hQ => pr_at (d := 60) h hm (fun q => absurd q hv) (fun _ => hQ))
