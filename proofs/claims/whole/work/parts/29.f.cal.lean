/-! trick and claim: the reference; what both keep -/
theorem zRtp_nil {σ : zH} : zRtp σ [] := ⟨by simp, fun i hi => absurd hi (by simp), fun c hc => absurd hc (by simp)⟩
theorem pr_trick {d : Nat} {σ : zH} {m : zMS} (hI : zIR σ m) {Q : Option Value → zH → Prop} (hQ : ∀ τ, zIR τ (zstk m) → zFr 160 187 σ τ → Q (some (.int (zatk m))) τ) : zM (d + 51) 152 [.ref 160] σ Q := by
  obtain ⟨bk, cb, a1, a2, a3, a4, a5, a6, a7, a8⟩ := hI
  unfold zstk zatk at hQ
  have jn : ∀ i, (i = 5 ∨ i = 37 ∨ i = 38 ∨ i = 51 ∨ i = 52 ∨ i = 53 ∨ i = 54 ∨ i = 56 ∨ i = 59) → ¬ zJt i := fun i hi => by unfold zJt zJs zJc zJr; omega
  have an : ∀ a, a < 168 → ¬ zAst a := fun a ha => by unfold zAst; omega
  refine p_rtrk a1 a2.1 a2.2 a4 (fun τ S g1 g2 g3 g4 g5 g6 g7 => ?_) (fun τ e g1 g2 g3 g4 g5 g6 g7 => ?_)
  · rw [g1] at hQ
    have F := zFm_n g2
    refine hQ τ ⟨1 - bk, cb, zMb_m F a1, ⟨zRtp_nil, g4⟩, zrD_m F (jn 5 (by omega)) (fun a _ _ => an a (by omega)) a3, g6, ?_, g5, zrP_m F ⟨jn 56 (by omega), jn 59 (by omega)⟩ (by omega) a7, zrRn_m F ⟨jn 51 (by omega), jn 52 (by omega), jn 53 (by omega), jn 54 (by omega)⟩ (by omega) a8⟩ (zFm_fr F (fun a q => by unfold zAst at q; omega))
    have hcb := a5.2.1
    exact zRcb_k (F.2.2.2.2.2.2.2.2.1 37 (jn 37 (by omega))) (F.2.2.2.2.2.2.2.2.1 38 (jn 38 (by omega))) (fun a l1 l2 i u1 u2 => g7 a l1 l2 i (by omega)) a5
  · rw [g1] at hQ
    have F := zFm_n g2
    refine hQ τ ⟨bk, cb, zMb_m F a1, ⟨zRtp_nil, g4⟩, zrD_m F (jn 5 (by omega)) (fun a _ _ => an a (by omega)) a3, g6, ?_, g5.1, zrP_m F ⟨jn 56 (by omega), jn 59 (by omega)⟩ (by omega) a7, zrRn_m F ⟨jn 51 (by omega), jn 52 (by omega), jn 53 (by omega), jn 54 (by omega)⟩ (by omega) a8⟩ (zFm_fr F (fun a q => by unfold zAst at q; omega))
    have hcb := a5.2.1
    exact zRcb_k (F.2.2.2.2.2.2.2.2.1 37 (jn 37 (by omega))) (F.2.2.2.2.2.2.2.2.1 38 (jn 38 (by omega))) (fun a l1 l2 i u1 u2 => g7 a l1 l2 i (by omega)) a5
theorem pr_claim {d : Nat} {σ : zH} {m : zMS} (hI : zIR σ m) {Q : Option Value → zH → Prop} (hQ : ∀ τ, zIR τ (zscl m) → zFr 160 187 σ τ → Q (some (.int (zacl m))) τ) : zM (d + 32) 167 [.ref 160] σ Q := by
  obtain ⟨bk, cb, a1, a2, a3, a4, a5, a6, a7, a8⟩ := hI
  unfold zscl zacl at hQ
  have jn : ∀ i, (i = 5 ∨ i = 29 ∨ i = 30 ∨ i = 51 ∨ i = 52 ∨ i = 53 ∨ i = 54 ∨ i = 56 ∨ i = 59) → ¬ zJl i := fun i hi => by unfold zJl zJk zJc zJr; omega
  have an : ∀ a, a < 176 → ¬ zAn a := fun a ha => by unfold zAn; omega
  have hbk := a4.2.1
  refine p_rclm a1 a2.1 a2.2 a5 (fun τ cs g1 g2 g3 g4 g5 g6 g7 => ?_) (fun τ e g1 g2 g3 g4 g5 g6 g7 => ?_)
  · rw [g1] at hQ
    have F := zFm_n g2
    have hA := F.2.2.2.2.2.2.2.2.2
    refine hQ τ ⟨bk, 5 - cb, zMb_m F a1, ⟨zRtp_nil, g4⟩, zrD_m F (jn 5 (by omega)) (fun a _ _ => an a (by omega)) a3, ?_, g6, g5, zrP_m F ⟨jn 56 (by omega), jn 59 (by omega)⟩ (by omega) a7, zrRn_m F ⟨jn 51 (by omega), jn 52 (by omega), jn 53 (by omega), jn 54 (by omega)⟩ (by omega) a8⟩ (zFm_fr F (fun a q => by unfold zAn at q; omega))
    exact zRkb_m (F.2.2.2.2.2.2.2.2.1 29 (jn 29 (by omega))) (F.2.2.2.2.2.2.2.2.1 30 (jn 30 (by omega))) (fun a l1 l2 i _ _ => by rw [(hA a (an a (by omega))).1, (hA a (an a (by omega))).2]; exact ⟨rfl, rfl⟩) (fun a l1 l2 i u1 u2 => g7 a l1 l2 i (by omega)) a4
  · rw [g1] at hQ
    have F := zFm_n g2
    have hA := F.2.2.2.2.2.2.2.2.2
    refine hQ τ ⟨bk, cb, zMb_m F a1, ⟨zRtp_nil, g4⟩, zrD_m F (jn 5 (by omega)) (fun a _ _ => an a (by omega)) a3, ?_, g6, g5.1, zrP_m F ⟨jn 56 (by omega), jn 59 (by omega)⟩ (by omega) a7, zrRn_m F ⟨jn 51 (by omega), jn 52 (by omega), jn 53 (by omega), jn 54 (by omega)⟩ (by omega) a8⟩ (zFm_fr F (fun a q => by unfold zAn at q; omega))
    exact zRkb_m (F.2.2.2.2.2.2.2.2.1 29 (jn 29 (by omega))) (F.2.2.2.2.2.2.2.2.1 30 (jn 30 (by omega))) (fun a l1 l2 i _ _ => by rw [(hA a (an a (by omega))).1, (hA a (an a (by omega))).2]; exact ⟨rfl, rfl⟩) (fun a l1 l2 i u1 u2 => g7 a l1 l2 i (by omega)) a4
theorem zB_nil : (([] : List Nat).length ≤ 900 ∧ ∀ c ∈ ([] : List Nat), c < 256) := ⟨by simp, fun c hc => absurd hc (by simp)⟩
/-- a fault's kind -/
def zEr {α : Type} (r : Except (Nat × Nat) α) : Prop := ∀ e, r = .error e → e.1 < 10
theorem zflt_10 {f : Nat} {R : List zTok} (h : f < 10) : (zflt f R).1 < 10 := by
  unfold zflt
  simp only
  split <;> omega
theorem zmok_take {m : zMS} {B : List Nat} (hB : B.length ≤ 900 ∧ ∀ c ∈ B, c < 256) (h : zMok m) : zMok (zmsB B m) := ⟨hB, h.2⟩
theorem zmok_end {m : zMS} {x : Int32} (h : zMok m) : zMok (zrs (zsend m x) m) := by
  unfold zsend
  split
  · exact h
  · split
    · exact zmok_take ⟨by rw [List.length_take]; have := h.1.1; omega, fun c hc => h.1.2 c (List.mem_of_mem_take hc)⟩ h
    · exact h
