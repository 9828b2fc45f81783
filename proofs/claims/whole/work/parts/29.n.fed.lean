/-! bytes of ints -/
theorem zsh24 : ((nI 24 &&& 31 : Int32).toBitVec.smod 32).toNat = 24 ∧ ((nI 16 &&& 31 : Int32).toBitVec.smod 32).toNat = 16 ∧ ((nI 8 &&& 31 : Int32).toBitVec.smod 32).toNat = 8 ∧ ((nI 0 &&& 31 : Int32).toBitVec.smod 32).toNat = 0 := by decide
theorem zsu24 : (((nI 24).toUInt32 &&& Int32.toUInt32 31).toBitVec % 32).toNat = 24 ∧ (((nI 16).toUInt32 &&& Int32.toUInt32 31).toBitVec % 32).toNat = 16 ∧ (((nI 8).toUInt32 &&& Int32.toUInt32 31).toBitVec % 32).toNat = 8 ∧ (((nI 0).toUInt32 &&& Int32.toUInt32 31).toBitVec % 32).toNat = 0 := by decide
theorem zbyR_a (b : BitVec 32) (k : Nat) (hk : k ≤ 24) : ((((b.sshiftRight k).signExtend 8).signExtend 32).signExtend 8).signExtend 32 &&& 255#32 = (b >>> k) &&& 255#32 := by
  apply BitVec.eq_of_getLsbD_eq
  intro i hi
  have h255 : ∀ i, i < 32 → (255#32).getLsbD i = decide (i < 8) := by decide
  rw [BitVec.getLsbD_and, BitVec.getLsbD_and, h255 i hi]
  by_cases h8 : i < 8
  · simp only [BitVec.getLsbD_signExtend, BitVec.getLsbD_sshiftRight, BitVec.getLsbD_ushiftRight, h8, hi, decide_true, Bool.true_and, Bool.and_true, if_true]
    simp [show k + i < 32 by omega, show ¬ 32 ≤ i by omega]
  · simp [h8]
theorem zbyR (x : Int32) (k : Nat) (hk : k = 24 ∨ k = 16 ∨ k = 8 ∨ k = 0) : ((((x >>> (nI k &&& 31)).toInt8.toInt32).toInt8.toInt32) &&& nI 255) = (zush x (nI k) &&& nI 255) := by
  apply Int32.toBitVec_inj.mp
  have e255 : (nI 255).toBitVec = 255#32 := by decide
  have hs : ((nI k &&& 31 : Int32).toBitVec.smod 32).toNat = k := by
    rcases hk with rfl | rfl | rfl | rfl
    · exact zsh24.1
    · exact zsh24.2.1
    · exact zsh24.2.2.1
    · exact zsh24.2.2.2
  have hu : (((nI k).toUInt32 &&& Int32.toUInt32 31).toBitVec % 32).toNat = k := by
    rcases hk with rfl | rfl | rfl | rfl
    · exact zsu24.1
    · exact zsu24.2.1
    · exact zsu24.2.2.1
    · exact zsu24.2.2.2
  unfold zush
  simp only [Int32.toBitVec_and, Int8.toBitVec_toInt32, Int32.toBitVec_toInt8, Int32.toBitVec_shiftRight, e255, UInt32.toBitVec_toInt32, UInt32.toBitVec_shiftRight, Int32.toBitVec_toUInt32]
  have r1 : x.toBitVec.sshiftRight' ((nI k &&& 31 : Int32).toBitVec.smod 32) = x.toBitVec.sshiftRight k := by
    rw [BitVec.sshiftRight_eq', hs]
  have := zbyR_a x.toBitVec k (by omega)
  rw [← r1] at this
  refine Eq.trans this ?_
  show _ = x.toBitVec >>> (((nI k).toUInt32 &&& Int32.toUInt32 31).toBitVec % 32).toNat &&& 255#32
  rw [hu]
def zbyt (x : Int32) (k : Nat) : Nat := (zush x (nI k) &&& nI 255).toBitVec.toNat
theorem zbyt_e (x : Int32) (k : Nat) : zush x (nI k) &&& nI 255 = nI (zbyt x k) := by
  unfold zbyt
  apply Int32.toBitVec_inj.mp
  apply BitVec.eq_of_toNat_eq
  rw [pk_tn (BitVec.isLt _)]
theorem zbyt_lt (x : Int32) (k : Nat) : zbyt x k < 256 := by
  unfold zbyt
  rw [Int32.toBitVec_and, BitVec.toNat_and]
  have e : (nI 255).toBitVec.toNat = 255 := by decide
  rw [e]
  exact Nat.lt_of_le_of_lt Nat.and_le_right (by decide)
def zby4 (x : Int32) : List Nat := [zbyt x 24, zbyt x 16, zbyt x 8, zbyt x 0]
theorem zTp_app {σ : zH} {B : List Nat} {b : Nat} (hb : b < 256) (hl : B.length < 900) (h : zTp σ B) : zTp (zsI (zsA σ 3 B.length (nI b)) 2 1 (nI (B.length + 1))) (B ++ [b]) := by
  obtain ⟨b1, b2, b3, b4, b5, b6, b7, b8⟩ := h
  refine ⟨b1, b2, b3, b4, by rw [zIe, List.length_append]; rfl, by rw [List.length_append]; simp only [List.length_cons, List.length_nil]; omega, fun i hi => ?_, fun c hc => ?_⟩
  · rw [List.length_append] at hi
    simp only [List.length_cons, List.length_nil] at hi
    show zA (zsA σ 3 B.length (nI b)) 3 i = _
    rw [zA_sA]
    by_cases q : i = B.length
    · rw [if_pos ⟨rfl, q⟩, q]
      simp [List.getD]
    · rw [if_neg (by omega), b7 i (by omega)]
      simp only [List.getD]
      rw [List.getElem?_append_left (by omega)]
  · rcases List.mem_append.mp hc with q | q
    · exact b8 c q
    · simp only [List.mem_singleton] at q
      omega
theorem l_app1 {d k : Nat} {σ : zH} {B : List Nat} {x : Int32} (hk : k = 24 ∨ k = 16 ∨ k = 8 ∨ k = 0) (hB : zTp σ B) (hl : B.length < 900) {Q : Option Value → zH → Prop} (hQ : ∀ τ, zTp τ (B ++ [zbyt x k]) → zFr 2 4 σ τ → zW d 85 3 [(0, .ref 2), (1, .int x), (2, .int (nI k + (-8)))] [] τ Q) : zW d 85 3 [(0, .ref 2), (1, .int x), (2, .int (nI k))] [] σ Q := by
  refine b85_3 ?_
  rw [if_neg (by rw [← nI_0]; exact nI_nlt (by omega) (by omega)), hB.1, hB.2.2.2.2.1, hB.2.1, hB.2.2.1, hB.2.2.2.1, if_neg (nI_ge (by omega) (by omega)), zcl _ (by omega), zbyt_e, nI_add]
  refine ⟨rfl, rfl, vp_in_nI (by omega) (by omega), ?_⟩
  exact hQ _ (zTp_app (zbyt_lt x k) hl hB) (zFr_t (zFr_sA _ _ (by omega) (by omega)) (zFr_sI _ _ (by omega) (by omega)))
theorem zm8 : nI 24 + (-8) = nI 16 ∧ nI 16 + (-8) = nI 8 ∧ nI 8 + (-8) = nI 0 ∧ nI 0 + (-8) < 0 := by decide
theorem p_app4 {d : Nat} {σ : zH} {B : List Nat} {x : Int32} (hB : zTp σ B) (hl : B.length + 4 ≤ 900) {Q : Option Value → zH → Prop} (hQ : ∀ τ, zTp τ (B ++ zby4 x) → zFr 2 4 σ τ → Q none τ) : zM d 85 [.ref 2, .int x] σ Q := by
  refine b85 (l_app1 (by omega) hB (by omega) (fun τ1 g1 f1 => ?_))
  rw [zm8.1]
  have e1 : ∀ b : Nat, (B ++ [b]).length = B.length + 1 := fun b => by simp
  refine l_app1 (by omega) g1 (by rw [e1]; omega) (fun τ2 g2 f2 => ?_)
  rw [zm8.2.1]
  refine l_app1 (by omega) g2 (by simp; omega) (fun τ3 g3 f3 => ?_)
  rw [zm8.2.2.1]
  refine l_app1 (by omega) g3 (by simp; omega) (fun τ4 g4 f4 => ?_)
  refine b85_3 ?_
  rw [if_pos zm8.2.2.2]
  refine hQ τ4 ?_ (zFr_t f1 (zFr_t f2 (zFr_t f3 f4)))
  have e : B ++ zby4 x = B ++ [zbyt x 24] ++ [zbyt x 16] ++ [zbyt x 8] ++ [zbyt x 0] := by unfold zby4; simp
  rw [e]
  exact g4
def zfd5 (a b c d e : Int32) : List Nat := zby4 a ++ (zby4 b ++ (zby4 c ++ (zby4 d ++ zby4 e)))
def zsfe (m : zMS) (a b c d e : Int32) : zMS := if (zmB m).length ≤ 880 then zmsB (zmB m ++ zfd5 a b c d e) m else m
def zafe (m : zMS) : Int32 := if (zmB m).length ≤ 880 then nI ((zmB m).length + 20) else -1
theorem zby4_l (x : Int32) : (zby4 x).length = 4 := rfl
theorem zby4_b (x : Int32) : ∀ c ∈ zby4 x, c < 256 := by
  intro c hc
  unfold zby4 at hc
  simp only [List.mem_cons, List.not_mem_nil, or_false] at hc
  rcases hc with rfl | rfl | rfl | rfl <;> exact zbyt_lt _ _
theorem zfd5_l (a b c d e : Int32) : (zfd5 a b c d e).length = 20 := by unfold zfd5; simp [zby4_l]
theorem zmok_feed {m : zMS} {a b c d e : Int32} (h : zMok m) : zMok (zsfe m a b c d e) := by
  unfold zsfe
  split
  · refine zmok_take ⟨?_, fun x hx => ?_⟩ h
    · rw [List.length_append, zfd5_l]; omega
    · rcases List.mem_append.mp hx with q | q
      · exact h.1.2 x q
      · unfold zfd5 at q
        simp only [List.mem_append] at q
        rcases q with q | q | q | q | q <;> exact zby4_b _ x q
  · exact h
set_option maxHeartbeats 2000000 in
theorem pc_feed {D : Nat} {σ : zH} {m : zMS} {a b c d e : Int32} (hI : zIC σ m) {Q : Option Value → zH → Prop} (hQ : ∀ τ, zIC τ (zsfe m a b c d e) → zFr 1 160 σ τ → Q (some (.int (zafe m))) τ) : zM (D + 1) 106 [.ref 1, .int a, .int b, .int c, .int d, .int e] σ Q := by
  have hI' := hI
  obtain ⟨T, T', o, o', a1, a2, a3, a4, a5, a6, a7, a8, a9, a10⟩ := hI
  obtain ⟨⟨u0, u1, -⟩, hTT, hoo, urun⟩ := a1
  have h9 := a2.2.2.2.2.2.1
  unfold zsfe zafe at hQ
  refine b106 ?_
  rw [u0, u1, a2.1, a2.2.2.2.2.1]
  refine ⟨rfl, rfl, ?_⟩
  have st : ∀ {τ : zH}, zFr 2 4 σ τ → zK τ 1 = 12 ∧ zQ τ 1 0 = 2 := fun {τ} f => ⟨by rw [f.1]; exact u0, by rw [(zFr_o f (a := 1) (by omega)).2.2.1]; exact u1⟩
  by_cases c8 : (zmB m).length ≤ 880
  · rw [if_pos c8] at hQ
    rw [if_pos (nI_le c8 (by omega))]
    refine p_app4 a2 (by omega) (fun τ1 g1 f1 => ?_)
    rw [zqv_s, (st f1).2]
    refine ⟨(st f1).1, g1.1, p_app4 g1 (by simp [zby4_l]; omega) (fun τ2 g2 f2 => ?_)⟩
    have F2 := zFr_t f1 f2
    rw [zqv_s, (st F2).2]
    refine ⟨(st F2).1, g2.1, p_app4 g2 (by simp [zby4_l]; omega) (fun τ3 g3 f3 => ?_)⟩
    have F3 := zFr_t F2 f3
    rw [zqv_s, (st F3).2]
    refine ⟨(st F3).1, g3.1, p_app4 g3 (by simp [zby4_l]; omega) (fun τ4 g4 f4 => ?_)⟩
    have F4 := zFr_t F3 f4
    rw [zqv_s, (st F4).2]
    refine ⟨(st F4).1, g4.1, p_app4 g4 (by simp [zby4_l]; omega) (fun τ5 g5 f5 => ?_)⟩
    have F5 := zFr_t F4 f5
    have eB : zmB m ++ zby4 a ++ zby4 b ++ zby4 c ++ zby4 d ++ zby4 e = zmB m ++ zfd5 a b c d e := by unfold zfd5; simp
    rw [eB] at g5
    rw [if_pos c8] at hQ
    rw [zqv_s, (st F5).2, g5.2.2.2.2.1, List.length_append, zfd5_l]
    exact ⟨(st F5).1, g5.1, hQ τ5 (zIC_tp F5 g5 hI') (zFr_m F5 (by omega) (by omega))⟩
  · rw [if_neg c8, if_neg c8] at hQ
    rw [if_neg (nI_ge (by omega) (by omega))]
    exact hQ σ hI' (zFr_r _ _ _)
