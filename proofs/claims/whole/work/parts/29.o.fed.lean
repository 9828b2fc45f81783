/-! feed of the reference; start and at of both -/
def zA161 (a : Nat) : Prop := a = 161
theorem zrT_app {σ : zH} {B : List Nat} {b : Nat} {v : Int32} (hb : b < 256) (hv : v &&& nI 255 = nI b) (hl : B.length < 900) (h : zrT σ B) : zrT (zsI (zsA σ 161 B.length v) 160 2 (nI (B.length + 1))) (B ++ [b]) := by
  obtain ⟨⟨b1, b2, b3⟩, b4⟩ := h
  refine ⟨⟨by rw [List.length_append]; simp only [List.length_cons, List.length_nil]; omega, fun i hi => ?_, fun c hc => ?_⟩, by rw [zIe, List.length_append]; rfl⟩
  · rw [List.length_append] at hi
    simp only [List.length_cons, List.length_nil] at hi
    show zA (zsA σ 161 B.length v) 161 i &&& nI 255 = _
    rw [zA_sA]
    by_cases q : i = B.length
    · rw [if_pos ⟨rfl, q⟩, q, hv]
      simp [List.getD]
    · rw [if_neg (by omega), b2 i (by omega)]
      simp only [List.getD]
      rw [List.getElem?_append_left (by omega)]
  · rcases List.mem_append.mp hc with q | q
    · exact b3 c q
    · simp only [List.mem_singleton] at q
      omega
theorem l_rap1 {d k : Nat} {σ σ0 : zH} {B : List Nat} {x : Int32} (hk : k = 24 ∨ k = 16 ∨ k = 8 ∨ k = 0) (hM : zMb σ) (hB : zrT σ B) (hF : zFm zJ02 zN0 zA161 σ0 σ) (hl : B.length < 900) {Q : Option Value → zH → Prop} (hQ : ∀ τ, zrT τ (B ++ [zbyt x k]) → zFm zJ02 zN0 zA161 σ0 τ → zMb τ → zW d 129 3 [(0, .ref 160), (1, .int x), (2, .int (nI k + (-8)))] [] τ Q) : zW d 129 3 [(0, .ref 160), (1, .int x), (2, .int (nI k))] [] σ Q := by
  have ⟨mK0, mQ1, mK1, mN1, mQ6, mK6, mN6, mQ7, mK7, mN7, mQ8, mK8, mN8, mQ9, mK9, mN9, mQ10, mK10, mN10, mQ11, mK11, mN11, mQ21, mK21, mN21, mQ22, mK22, mN22, mQ23, mK23, mN23, mQ24, mK24, mN24, mQ25, mK25, mN25, mQ26, mK26, mN26, mQ27, mK27, mN27, mQ28, mK28, mN28, mQ32, mK32, mN32, mQ33, mK33, mN33, mQ34, mK34, mN34, mQ35, mK35, mN35, mQ40, mK40, mN40, mQ41, mK41, mN41, mQ42, mK42, mN42, mQ43, mK43, mN43, mQ44, mK44, mN44, mQ45, mK45, mN45, mQ62, mK62, mN62⟩ := hM
  refine b129_3 ?_
  rw [if_neg (by rw [← nI_0]; exact nI_nlt (by omega) (by omega)), mQ1, mK1, mN1, hB.2, zcl _ (by omega), nI_add]
  refine ⟨mK0, rfl, vp_in_nI (by omega) (by omega), ?_⟩
  have F : zFm zJ02 zN0 zA161 σ (zsI (zsA σ 161 B.length (((x >>> (nI k &&& 31)).toInt8.toInt32).toInt8.toInt32)) 160 2 (nI (B.length + 1))) := zFm_t (zFm_A _ rfl) (zFm_I _ (Or.inr rfl))
  exact hQ _ (zrT_app (zbyt_lt x k) ((zbyR x k hk).trans (zbyt_e x k)) hl hB) (zFm_t hF F) (zMb_m F hM)
theorem p_rap4 {d : Nat} {σ σ0 : zH} {B : List Nat} {x : Int32} (hM : zMb σ) (hB : zrT σ B) (hF : zFm zJ02 zN0 zA161 σ0 σ) (hl : B.length + 4 ≤ 900) {Q : Option Value → zH → Prop} (hQ : ∀ τ, zrT τ (B ++ zby4 x) → zFm zJ02 zN0 zA161 σ0 τ → zMb τ → Q none τ) : zM d 129 [.ref 160, .int x] σ Q := by
  refine b129 (l_rap1 (by omega) hM hB hF (by omega) (fun τ1 g1 f1 m1 => ?_))
  rw [zm8.1]
  refine l_rap1 (by omega) m1 g1 f1 (by simp; omega) (fun τ2 g2 f2 m2 => ?_)
  rw [zm8.2.1]
  refine l_rap1 (by omega) m2 g2 f2 (by simp; omega) (fun τ3 g3 f3 m3 => ?_)
  rw [zm8.2.2.1]
  refine l_rap1 (by omega) m3 g3 f3 (by simp; omega) (fun τ4 g4 f4 m4 => ?_)
  refine b129_3 ?_
  rw [if_pos zm8.2.2.2]
  refine hQ τ4 ?_ f4 m4
  have e : B ++ zby4 x = B ++ [zbyt x 24] ++ [zbyt x 16] ++ [zbyt x 8] ++ [zbyt x 0] := by unfold zby4; simp
  rw [e]
  exact g4
theorem pr_feed {D : Nat} {σ : zH} {m : zMS} {a b c d e : Int32} (hI : zIR σ m) {Q : Option Value → zH → Prop} (hQ : ∀ τ, zIR τ (zsfe m a b c d e) → zFr 160 187 σ τ → Q (some (.int (zafe m))) τ) : zM (D + 1) 128 [.ref 160, .int a, .int b, .int c, .int d, .int e] σ Q := by
  have hI' := hI
  have hI0 := zIR_0 (nI 0) hI
  obtain ⟨bk, cb, a1, a2, a3, a4, a5, a6, a7, a8⟩ := hI
  have ⟨mK0, mQ1, mK1, mN1, mQ6, mK6, mN6, mQ7, mK7, mN7, mQ8, mK8, mN8, mQ9, mK9, mN9, mQ10, mK10, mN10, mQ11, mK11, mN11, mQ21, mK21, mN21, mQ22, mK22, mN22, mQ23, mK23, mN23, mQ24, mK24, mN24, mQ25, mK25, mN25, mQ26, mK26, mN26, mQ27, mK27, mN27, mQ28, mK28, mN28, mQ32, mK32, mN32, mQ33, mK33, mN33, mQ34, mK34, mN34, mQ35, mK35, mN35, mQ40, mK40, mN40, mQ41, mK41, mN41, mQ42, mK42, mN42, mQ43, mK43, mN43, mQ44, mK44, mN44, mQ45, mK45, mN45, mQ62, mK62, mN62⟩ := a1
  have h9 := a2.1.1
  unfold zsfe zafe at hQ
  refine b128 ⟨mK0, ?_⟩
  rw [zIs (by omega), a2.2, nI_add]
  have F0 : zFm zJ02 zN0 zA161 σ (zsI σ 160 0 (nI 0)) := zFm_I _ (Or.inl rfl)
  by_cases c8 : (zmB m).length ≤ 880
  · rw [if_pos c8, if_pos c8] at hQ
    rw [if_pos (nI_le (by omega) (by omega))]
    have B0 : zrT (zsI σ 160 0 (nI 0)) (zmB m) := ⟨a2.1, by rw [zIs (by omega)]; exact a2.2⟩
    refine p_rap4 (zMb_m F0 a1) B0 F0 (by omega) (fun τ1 g1 f1 m1 => ?_)
    rw [zqv_s]
    refine ⟨by rw [f1.1]; exact mK0, p_rap4 m1 g1 f1 (by simp [zby4_l]; omega) (fun τ2 g2 f2 m2 => ?_)⟩
    rw [zqv_s]
    refine ⟨by rw [f2.1]; exact mK0, p_rap4 m2 g2 f2 (by simp [zby4_l]; omega) (fun τ3 g3 f3 m3 => ?_)⟩
    rw [zqv_s]
    refine ⟨by rw [f3.1]; exact mK0, p_rap4 m3 g3 f3 (by simp [zby4_l]; omega) (fun τ4 g4 f4 m4 => ?_)⟩
    rw [zqv_s]
    refine ⟨by rw [f4.1]; exact mK0, p_rap4 m4 g4 f4 (by simp [zby4_l]; omega) (fun τ5 g5 f5 m5 => ?_)⟩
    have eB : zmB m ++ zby4 a ++ zby4 b ++ zby4 c ++ zby4 d ++ zby4 e = zmB m ++ zfd5 a b c d e := by unfold zfd5; simp
    rw [eB] at g5
    rw [zqv_s, g5.2, List.length_append, zfd5_l]
    exact ⟨by rw [f5.1]; exact mK0, hQ τ5 (zIR_tp f5 (fun i q => q) (fun a q => q) g5 hI') (zFm_fr f5 (fun a q => by unfold zA161 at q; omega))⟩
  · rw [if_neg c8, if_neg c8] at hQ
    rw [if_neg (nI_ge (by omega) (by omega))]
    exact hQ _ hI0 (zFr_16 _)
/-! at -/
def zatv (m : zMS) (x : Int32) : Prop := ¬ x < nI 1 ∧ x ≤ nI (zmN m)
theorem zat_n {m : zMS} {x : Int32} (hm : zMok m) (h : zatv m x) : ∃ k, x = nI (k + 1) ∧ k < zmN m := by
  obtain ⟨e1, e2, e3⟩ := zI_pos h.1
  have n9 := hm.2.1.2
  refine ⟨x.toNatClampNeg - 1, ?_, ?_⟩
  · rw [show x.toNatClampNeg - 1 + 1 = x.toNatClampNeg by omega]; exact e1.symm
  · by_cases q : x.toNatClampNeg ≤ zmN m
    · omega
    · have := h.2
      rw [← e1] at this
      exact absurd this (nI_ge (by omega) (by omega))
theorem zsR_at : ∀ c, c < 32 → (nI c &&& nI 15) + (if nI c < nI 16 then nI 0 else nI 128) = nI (zsR c) := by decide +kernel
theorem pc_at {d : Nat} {σ : zH} {m : zMS} {x : Int32} (hI : zIC σ m) (hm : zMok m) (hv : zatv m x) {Q : Option Value → zH → Prop} (hQ : Q (some (.int (nI (zsR ((zmr m).getD (x.toNatClampNeg - 1) 0))))) σ) : zM d 121 [.ref 1, .int x] σ Q := by
  obtain ⟨T, T', o, o', a1, a2, a3, a4, a5, a6, a7, a8, a9, a10⟩ := hI
  obtain ⟨⟨u0, u1, u2, u3, u4, u5, u6, u7, u8, u9, u10, u11⟩, hTT, hoo, urun⟩ := a1
  obtain ⟨k, hk, hkn⟩ := zat_n hm hv
  have n9 := hm.2.1.2
  have e4 : zI σ 4 4 = nI (zmN m) := a3.1.2.2.2.2.2.2.2.2.2.2.2.2.2.1
  have q43 : zQ σ 4 3 = 8 := a3.1.2.2.2.2.1
  refine b121 ?_
  rw [if_neg hv.1, u0, u2, e4, if_pos hv.2, q43, a3.1.2.2.2.2.2.2.2.2.1, a3.1.2.2.2.2.2.2.2.2.2.2.2.2.1]
  rw [hk] at hQ ⊢
  rw [zcl (k + 1) (by omega), show k + 1 - 1 = k by omega] at hQ
  rw [pk_sub (by omega), show k + 1 - 1 = k by omega, zcl k (by omega), a3.2.2.1 k hkn]
  refine ⟨rfl, a3.1.1, rfl, vp_in_nI (by omega) (by omega), ?_⟩
  have hc := a3.2.2.2 _ (zget_mem (l := zmr m) (i := k) (by rw [a3.2.1]; exact hkn))
  rw [zsR_at _ hc.1]
  exact hQ
theorem pr_at {d : Nat} {σ : zH} {m : zMS} {x : Int32} (hI : zIR σ m) (hm : zMok m) {Q : Option Value → zH → Prop} (h1 : zatv m x → ∀ τ, zIR τ m → zFr 160 187 σ τ → zI τ 160 0 = nI 0 → Q (some (.int (nI (zsR ((zmr m).getD (x.toNatClampNeg - 1) 0))))) τ) (h0 : ¬ zatv m x → ∀ τ, zIR τ m → zFr 160 187 σ τ → zI τ 160 0 = nI 1 → Q (some (.int (nI 0))) τ) : zM d 203 [.ref 160, .int x] σ Q := by
  have hI0 := fun v => zIR_0 v hI
  obtain ⟨bk, cb, a1, a2, a3, a4, a5, a6, a7, a8⟩ := hI
  have ⟨mK0, mQ1, mK1, mN1, mQ6, mK6, mN6, mQ7, mK7, mN7, mQ8, mK8, mN8, mQ9, mK9, mN9, mQ10, mK10, mN10, mQ11, mK11, mN11, mQ21, mK21, mN21, mQ22, mK22, mN22, mQ23, mK23, mN23, mQ24, mK24, mN24, mQ25, mK25, mN25, mQ26, mK26, mN26, mQ27, mK27, mN27, mQ28, mK28, mN28, mQ32, mK32, mN32, mQ33, mK33, mN33, mQ34, mK34, mN34, mQ35, mK35, mN35, mQ40, mK40, mN40, mQ41, mK41, mN41, mQ42, mK42, mN42, mQ43, mK43, mN43, mQ44, mK44, mN44, mQ45, mK45, mN45, mQ62, mK62, mN62⟩ := a1
  have n9 := hm.2.1.2
  refine b203 ?_
  by_cases c1 : x < nI 1
  · rw [if_pos c1]
    refine b203_19 ⟨mK0, mK0, ?_⟩
    rw [zIe, if_neg (by exact fun q => q rfl)]
    exact h0 (fun q => q.1 c1) _ (hI0 _) (zFr_16 _) zIe
  · rw [if_neg c1, zIe, a3.1.1]
    refine ⟨mK0, ?_⟩
    by_cases c2 : x ≤ nI (zmN m)
    · have hv : zatv m x := ⟨c1, c2⟩
      obtain ⟨k, hk, hkn⟩ := zat_n hm hv
      rw [if_pos c2, if_pos (by decide), mQ9, mK9, mN9]
      have Q1 := h1 hv _ (hI0 (nI 0)) (zFr_16 _) zIe
      rw [hk] at Q1 ⊢
      rw [zcl (k + 1) (by omega), show k + 1 - 1 = k by omega] at Q1
      rw [pk_sub (by omega), show k + 1 - 1 = k by omega, zcl k (by omega), a3.2 k hkn]
      exact ⟨rfl, vp_in_nI (by omega) (by omega), Q1⟩
    · rw [if_neg c2, if_neg (by exact fun q => q rfl)]
      exact h0 (fun q => c2 q.2) _ (hI0 _) (zFr_16 _) zIe
theorem pr_thrown {d : Nat} {σ : zH} {m : zMS} {v : Int32} (hI : zIR σ m) (hv : zI σ 160 0 = v) {Q : Option Value → zH → Prop} (hQ : Q (some (.int v)) σ) : zM d 127 [.ref 160] σ Q := by
  obtain ⟨bk, cb, a1, a2, a3, a4, a5, a6, a7, a8⟩ := hI
  have ⟨mK0, mQ1, mK1, mN1, mQ6, mK6, mN6, mQ7, mK7, mN7, mQ8, mK8, mN8, mQ9, mK9, mN9, mQ10, mK10, mN10, mQ11, mK11, mN11, mQ21, mK21, mN21, mQ22, mK22, mN22, mQ23, mK23, mN23, mQ24, mK24, mN24, mQ25, mK25, mN25, mQ26, mK26, mN26, mQ27, mK27, mN27, mQ28, mK28, mN28, mQ32, mK32, mN32, mQ33, mK33, mN33, mQ34, mK34, mN34, mQ35, mK35, mN35, mQ40, mK40, mN40, mQ41, mK41, mN41, mQ42, mK42, mN42, mQ43, mK43, mN43, mQ44, mK44, mN44, mQ45, mK45, mN45, mQ62, mK62, mN62⟩ := a1
  refine b127 ⟨mK0, ?_⟩
  rw [hv]
  exact hQ
