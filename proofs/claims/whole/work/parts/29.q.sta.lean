/-! start of the reference -/
theorem zv127 {v : Int32} {b : Nat} (h : v &&& nI 255 = nI b) : v &&& nI 127 = nI (b % 128) := by
  have e : nI 127 = nI 255 &&& nI 127 := by decide
  rw [e, ← Int32.and_assoc, h]
  have : nI 255 &&& nI 127 = nI 127 := by decide
  exact zand127 b
def zA165 (a : Nat) : Prop := a = 165
set_option maxHeartbeats 1000000 in
theorem l_rsto {d n : Nat} {σ0 : zH} {B : List Nat} (hM : zMb σ0) (hB : zRtp σ0 B) (hn : n ≤ 9) (hl : B.length = n) {Q : Option Value → zH → Prop} (hQ : ∀ τ, zFm zJ02 zN0 zA165 σ0 τ → (∀ i, i < n → zA τ 165 i = nI (B.getD i 0)) → zI τ 160 2 = zI σ0 160 2 → Q (some (.int (nI 1))) τ) : ∀ (e i : Nat) (σ : zH), i + e = n → zFm zJ02 zN0 zA165 σ0 σ → zI σ 160 2 = zI σ0 160 2 → (∀ j, j < i → zA σ 165 j = nI (B.getD j 0)) → zW d 135 87 [(0, .ref 160), (1, .int (nI n)), (3, .int (nI i))] [] σ Q := by
  intro e
  induction e with
  | zero =>
    intro i σ hi hF h2 hA
    refine b135_87 ?_
    rw [if_pos (nI_le (by omega) (by omega))]
    exact hQ σ hF (fun j hj => hA j (by omega)) h2
  | succ e ih =>
    intro i σ hi hF h2 hA
    have ⟨mK0, mQ1, mK1, mN1, mQ6, mK6, mN6, mQ7, mK7, mN7, mQ8, mK8, mN8, mQ9, mK9, mN9, mQ10, mK10, mN10, mQ11, mK11, mN11, mQ21, mK21, mN21, mQ22, mK22, mN22, mQ23, mK23, mN23, mQ24, mK24, mN24, mQ25, mK25, mN25, mQ26, mK26, mN26, mQ27, mK27, mN27, mQ28, mK28, mN28, mQ32, mK32, mN32, mQ33, mK33, mN33, mQ34, mK34, mN34, mQ35, mK35, mN35, mQ40, mK40, mN40, mQ41, mK41, mN41, mQ42, mK42, mN42, mQ43, mK43, mN43, mQ44, mK44, mN44, mQ45, mK45, mN45, mQ62, mK62, mN62⟩ := zMb_m hF hM
    have e161 := (hF.2.2.2.2.2.2.2.2.2 161 (by unfold zA165; omega)).1
    refine b135_87 ?_
    rw [if_neg (nI_ge (by omega) (by omega)), mQ1, mK1, mN1, mQ9, mK9, mN9, zcl i (by omega), e161, hB.2.1 i (by omega), nI_add]
    refine ⟨mK0, rfl, vp_in_nI (by omega) (by omega), rfl, vp_in_nI (by omega) (by omega), ?_⟩
    refine ih (i + 1) _ (by omega) (zFm_t hF (zFm_A _ rfl)) h2 (fun j hj => ?_)
    rw [zA_sA]
    by_cases q : j = i
    · rw [if_pos ⟨rfl, q⟩, q]
    · rw [if_neg (by omega)]
      exact hA j (by omega)
set_option maxHeartbeats 1000000 in
theorem l_rtis {d n : Nat} {σ : zH} {B : List Nat} (hM : zMb σ) (hB : zRtp σ B) (h5 : zI σ 160 5 = nI n) (hn : n ≤ 9) (hl : B.length = n) {Q : Option Value → zH → Prop} : ∀ (l : List Nat) (i : Nat) (seen : List Nat), B.drop i = l → i ≤ n → (∀ x ∈ seen, x < 10) → (zstok n l seen = true → zW d 135 87 [(0, .ref 160), (1, .int (nI n)), (3, .int (nI 0))] [] σ Q) → (zstok n l seen = false → Q (some (.int (nI 0))) σ) → zW d 135 29 [(0, .ref 160), (1, .int (nI n)), (2, .int (nI (zmask seen))), (3, .int (nI i))] [] σ Q := by
  have ⟨mK0, mQ1, mK1, mN1, mQ6, mK6, mN6, mQ7, mK7, mN7, mQ8, mK8, mN8, mQ9, mK9, mN9, mQ10, mK10, mN10, mQ11, mK11, mN11, mQ21, mK21, mN21, mQ22, mK22, mN22, mQ23, mK23, mN23, mQ24, mK24, mN24, mQ25, mK25, mN25, mQ26, mK26, mN26, mQ27, mK27, mN27, mQ28, mK28, mN28, mQ32, mK32, mN32, mQ33, mK33, mN33, mQ34, mK34, mN34, mQ35, mK35, mN35, mQ40, mK40, mN40, mQ41, mK41, mN41, mQ42, mK42, mN42, mQ43, mK43, mN43, mQ44, mK44, mN44, mQ45, mK45, mN45, mQ62, mK62, mN62⟩ := hM
  have hb := hB.2.2
  intro l
  induction l with
  | nil =>
    intro i seen hd hi hs hQ1 hQ0
    have : n ≤ i := by
      have := congrArg List.length hd
      rw [List.length_drop] at this
      simp only [List.length_nil] at this
      omega
    refine b135_29 ?_
    rw [if_pos (nI_le (by omega) (by omega))]
    exact hQ1 rfl
  | cons b l ih =>
    intro i seen hd hi hs hQ1 hQ0
    have hlt : i < B.length := by
      have := congrArg List.length hd
      rw [List.length_drop] at this
      simp only [List.length_cons] at this
      omega
    have hbi : B.getD i 0 = b := by
      have h2 := List.drop_eq_getElem_cons hlt
      rw [hd] at h2
      simp only [List.cons.injEq] at h2
      simp only [List.getD]
      rw [List.getElem?_eq_getElem hlt]
      exact h2.1.symm
    have hdl : B.drop (i + 1) = l := by
      have h2 := List.drop_eq_getElem_cons hlt
      rw [hd] at h2
      simp only [List.cons.injEq] at h2
      exact h2.2.symm
    refine b135_29 ?_
    have hv := zv127 (hB.2.1 i hlt)
    rw [hbi] at hv
    rw [if_neg (nI_ge (by omega) (by omega)), mQ1, mK1, mN1, zcl i (by omega), hv, h5]
    refine ⟨mK0, rfl, vp_in_nI (by omega) (by omega), ?_⟩
    rw [zstok] at hQ1 hQ0
    obtain ⟨c, hc⟩ : ∃ c, c = b % 128 := ⟨_, rfl⟩
    have c128 : c < 128 := by omega
    rw [← hc] at hQ1 hQ0 ⊢
    by_cases c1 : 1 ≤ c
    · rw [if_neg (nI_nlt c1 (by omega))]
      by_cases c2 : c ≤ n
      · rw [if_neg (nI_nlt c2 (by omega))]
        have hm := zmask10 hs
        have hp : (2 : Nat) ^ c < 2 ^ 10 := Nat.pow_lt_pow_right (by decide) (by omega)
        rw [pk_shrN (Nat.lt_trans hm (by decide)) _ c (zsm10 c (by omega)), zand1, zIsh c (by omega), zIor (Nat.lt_trans hm (by decide)) (Nat.lt_trans hp (by decide)), nI_add]
        have ht : (zmask seen / 2 ^ c % 2 = 1) ↔ seen.contains c = true := by
          rw [← zmask_t, Nat.testBit_eq_decide_div_mod_eq, decide_eq_true_eq]
        by_cases c3 : seen.contains c = true
        · rw [if_neg (by rw [ht.mpr c3]; exact fun q => q rfl)]
          refine hQ0 ?_
          rw [decide_eq_true c1, decide_eq_true c2, c3]
          rfl
        · have c3' : seen.contains c = false := by simpa using c3
          have hne : ¬ zmask seen / 2 ^ c % 2 = 1 := fun q => c3 (ht.mp q)
          rw [if_pos (by rw [nI_eq (by omega) (by omega)]; exact hne)]
          rw [decide_eq_true c1, decide_eq_true c2, c3'] at hQ1 hQ0
          refine ih (i + 1) (c :: seen) hdl (by omega) (fun x hx => ?_) hQ1 hQ0
          rcases List.mem_cons.mp hx with rfl | hx
          · omega
          · exact hs x hx
      · rw [if_pos (nI_lt (by omega) (by omega))]
        refine hQ0 ?_
        rw [decide_eq_false c2, Bool.false_and, Bool.and_false]
    · rw [if_pos (nI_lt (by omega) (by omega))]
      refine hQ0 ?_
      rw [decide_eq_false c1, Bool.false_and]
set_option maxHeartbeats 1000000 in
theorem pr_start {d : Nat} {σ : zH} {m : zMS} (hI : zIR σ m) (hm : zMok m) {Q : Option Value → zH → Prop} (hQ : ∀ τ, zIR τ (zsst m) → zFr 160 187 σ τ → Q (some (.int (nI (zbn1 (zisS m))))) τ) : zM d 135 [.ref 160] σ Q := by
  have hI' := hI
  obtain ⟨bk, cb, a1, a2, a3, a4, a5, a6, a7, a8⟩ := hI
  have ⟨mK0, mQ1, mK1, mN1, mQ6, mK6, mN6, mQ7, mK7, mN7, mQ8, mK8, mN8, mQ9, mK9, mN9, mQ10, mK10, mN10, mQ11, mK11, mN11, mQ21, mK21, mN21, mQ22, mK22, mN22, mQ23, mK23, mN23, mQ24, mK24, mN24, mQ25, mK25, mN25, mQ26, mK26, mN26, mQ27, mK27, mN27, mQ28, mK28, mN28, mQ32, mK32, mN32, mQ33, mK33, mN33, mQ34, mK34, mN34, mQ35, mK35, mN35, mQ40, mK40, mN40, mQ41, mK41, mN41, mQ42, mK42, mN42, mQ43, mK43, mN43, mQ44, mK44, mN44, mQ45, mK45, mN45, mQ62, mK62, mN62⟩ := a1
  have n9 := hm.2.1.2
  have h9 := a2.1.1
  unfold zsst at hQ
  have F0 : zFm zJ02 zN0 zN0 σ (zsI (zsI σ 160 0 (nI 0)) 160 2 (nI 0)) := zFm_t (zFm_I _ (Or.inl rfl)) (zFm_I _ (Or.inr rfl))
  have no : zisS m = false → Q (some (.int (nI 0))) (zsI (zsI σ 160 0 (nI 0)) 160 2 (nI 0)) := by
    intro hb
    rw [hb] at hQ
    exact hQ _ (zIR_tp F0 (fun i q => q) (fun a q => q.elim) ⟨zRtp_nil, zIe⟩ hI') (zFr_t (zFr_16 _) (zFr_16 _))
  refine b135 ⟨mK0, ?_⟩
  rw [zIs (i := 2) (by omega), zIs (i := 5) (by omega), zIs (i := 5) (by omega), a2.2, a3.1.1]
  by_cases c : (zmB m).length = zmN m
  · rw [if_pos (by rw [c])]
    have hB0 : zRtp (zsI (zsI σ 160 0 (nI 0)) 160 2 (nI 0)) (zmB m) := a2.1
    have h5' : zI (zsI (zsI σ 160 0 (nI 0)) 160 2 (nI 0)) 160 5 = nI (zmN m) := by rw [zIs (by omega), zIs (by omega)]; exact a3.1.1
    rw [c]
    have hdc : decide ((zmB m).length = zmN m) = true := decide_eq_true c
    refine l_rtis (zMb_m F0 a1) hB0 h5' n9 c (zmB m) 0 [] List.drop_zero (by omega) (fun x hx => absurd hx (by simp)) (fun hs => ?_) (fun hs => ?_)
    · have hb : zisS m = true := by
        unfold zisS
        rw [hdc, hs]
        rfl
      obtain ⟨q1, q2⟩ := zisS_ok hm hb
      rw [hb] at hQ
      refine l_rsto (zMb_m F0 a1) hB0 n9 c (fun τ g1 g2 g3 => ?_) (zmN m) 0 _ (by omega) (zFm_r _ _ _ _) rfl (fun j hj => by omega)
      have F : zFm zJ02 zN0 zA165 σ τ := zFm_t (zFm_m F0 (fun _ q => q) (fun _ q => q) (fun _ q => q.elim)) g1
      refine hQ τ ⟨bk, cb, zMb_m F a1, ⟨zRtp_nil, by rw [g3, zIe]; rfl⟩, ⟨?_, fun i hi => ?_⟩, zrK_m F (by unfold zJ02; omega) (fun a _ _ => by unfold zA165; omega) a4, zrC_m F (by unfold zJ02; omega) (fun a _ _ => by unfold zA165; omega) a5, by rw [F.2.2.2.2.2.2.2.2.1 16 (by unfold zJ02; omega)]; exact a6, zrP_m F (by unfold zJ02; omega) id a7, zrRn_m F (by unfold zJ02; omega) id a8⟩ (zFm_fr F (fun a q => by unfold zA165 at q; omega))
      · obtain ⟨d1, d2, d3, d4⟩ := a3.1
        have hA := F.2.2.2.2.2.2.2.2.2
        exact ⟨by rw [F.2.2.2.2.2.2.2.2.1 5 (by unfold zJ02; omega)]; exact d1, by rw [(hA 162 (by unfold zA165; omega)).1]; exact d2, by rw [(hA 163 (by unfold zA165; omega)).1]; exact d3, by rw [(hA 164 (by unfold zA165; omega)).1]; exact d4⟩
      · have hi' : i < zmN m := hi
        show zA τ 165 i = nI (zsR (((zmB m).map zrst).getD i 0))
        rw [g2 i hi', zmap_g (by omega), (q2 _ (zget_mem (by omega))).2]
    · have hb : zisS m = false := by
        unfold zisS
        rw [hdc, hs]
        rfl
      have := no hb
      exact this
  · rw [if_neg (by rw [nI_eq (by omega) (by omega)]; exact c)]
    have hb : zisS m = false := by
      unfold zisS
      rw [decide_eq_false c]
      rfl
    exact no hb
