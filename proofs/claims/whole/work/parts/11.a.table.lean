/-! the class's Table: small methods -/
theorem zTb_f {σ : zH} {t : Nat} (h : zTb σ t) (ly hd sz : Nat → Int32) (mk : Int32) : ∃ τ : zH, τ = zTa σ t ly hd sz mk ∧ zK τ = zK σ ∧ zN τ = zN σ ∧ zQ τ = zQ σ ∧ zK σ t = 7 ∧ zK σ (t + 1) = 20 ∧ zK σ (t + 2) = 20 ∧ zK σ (t + 3) = 20 ∧ zN σ (t + 1) = 64 ∧ zN σ (t + 2) = 16 ∧ zN σ (t + 3) = 4 ∧ zQ σ t 0 = 4 ∧ zQ σ t 1 = t + 1 ∧ zQ σ t 2 = t + 2 ∧ zQ σ t 3 = t + 3 ∧ zA τ (t + 1) = ly ∧ zA τ (t + 2) = hd ∧ zA τ (t + 3) = sz ∧ zI τ t 4 = mk := by
  obtain ⟨a1, a2, a3, a4, a5, a6, a7, a8, a9, a10, a11⟩ := h
  obtain ⟨b1, b2, b3, b4⟩ := zTa_r σ t ly hd sz mk
  obtain ⟨c1, c2, c3, -⟩ := zTa_k σ t ly hd sz mk
  exact ⟨_, rfl, c1, c2, c3, a1, a2, a3, a4, a5, a6, a7, a8, a9, a10, a11, b1, b2, b3, b4⟩
theorem nI16 {p n : Nat} : nI p * Int32.ofInt 16 + nI n = nI (16 * p + n) := by
  rw [show Int32.ofInt 16 = nI 16 from rfl, pk_mul, nI_add, Nat.mul_comm]
set_option maxHeartbeats 1000000 in
theorem e_push {d t p n : Nat} {σ : zH} (hT : zTb σ t) {ly hd sz : Nat → Int32} {mk c : Int32} (hp : p < 4) (hn : sz p = nI n) (h9 : n < 9) {Q : Option Value → zH → Prop} (hQ : Q none (zTa σ t (zu ly (16 * p + n) c) hd (zu sz p (nI (n + 1))) mk)) : zM d 70 [.ref t, .int (nI p), .int c] (zTa σ t ly hd sz mk) Q := by
  obtain ⟨τ, e, eK, eN, eQ, k0, k1, k2, k3, n1, n2, n3, q0, q1, q2, q3, r1, r2, r3, r4⟩ := zTb_f hT ly hd sz mk
  have hv : vp_in (nI p) 4 := vp_in_nI hp (by omega)
  have hc : (nI p).toNatClampNeg = p := zcl p (by omega)
  rw [← e]
  unfold zM
  refine zW_s rfl ?_
  refine zW_p rfl (by rw [eK, k0]) ?_
  refine zW_s rfl ?_
  refine zW_p rfl (by rw [eK, eN, eQ, q3, k3, n3]; exact ⟨rfl, hv⟩) ?_
  refine zW_s rfl ?_
  refine zW_s rfl ?_
  refine zW_if (fun h => ?_) (fun _ => ?_)
  · exfalso
    rw [eQ, q3, r3, hc, hn, show Int32.ofInt 9 = nI 9 from rfl] at h
    exact nI_ge h9 (by omega) h
  · refine zW_s rfl ?_
    refine zW_p rfl (by rw [eK, k0]) ?_
    refine zW_s rfl ?_
    refine zW_s rfl ?_
    refine zW_s rfl ?_
    refine zW_s rfl ?_
    refine zW_p rfl (by rw [eK, k0]) ?_
    refine zW_s rfl ?_
    refine zW_p rfl (by rw [eK, eN, eQ, q3, k3, n3]; exact ⟨rfl, hv⟩) ?_
    refine zW_s rfl ?_
    rw [eQ, q1, q3, r3, hc, hn, nI16]
    refine zW_s rfl ?_
    refine zW_p rfl (by rw [eK, eN, k1, n1]; exact ⟨rfl, vp_in_nI (by omega) (by omega)⟩) ?_
    rw [zcl _ (by omega), zsA_w, r1]
    refine zW_s rfl ?_
    refine zW_p rfl (by simp only [zh]; rw [eK, k0]) ?_
    refine zW_s rfl ?_
    refine zW_s rfl ?_
    simp only [zh]
    rw [eQ, q3]
    refine zW_p rfl (by simp only [zh]; rw [eK, eN, k3, n3]; exact ⟨rfl, hv⟩) ?_
    refine zW_s rfl ?_
    refine zW_s rfl ?_
    refine zW_p rfl (by simp only [zh]; rw [eK, eN, k3, n3]; exact ⟨rfl, hv⟩) ?_
    refine zW_r rfl trivial ?_
    simp only [zh, zsA_w, hc]
    rw [if_neg (by omega), r3, hn, show nI n + Int32.ofInt 1 = nI (n + 1) from nI_1 n, e, zTa_ly, zTa_sz]
    exact hQ
