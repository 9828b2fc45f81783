theorem zbn_pos : ∀ a, a < 10 → ∀ b, b < 10 → a + b ≤ 9 → 1 ≤ zbn a b := by decide +kernel
theorem zasks_pos {n : Nat} {w p q g h : Nat} (hw : zSw w p q g h) {P : Nat → List Nat} {mk : Nat} (hV : zVP n P mk) : 1 ≤ zasks w p q P := by
  have ht := hV.1
  have hn := hV.2.1
  unfold zasks
  split
  · rename_i e
    obtain ⟨hq, hpq⟩ := hw.2.2.1 (Or.inl e)
    have := zTot_le2 (P := P) hw.2.1 hq hpq
    exact zbn_pos _ (by omega) _ (by omega) (by omega)
  · split <;> omega
theorem zRt_tsm {σ τ : zH} (h : zTsm σ τ) {P : Nat → List Nat} {mk : Nat} (hT : zRt σ P mk) : zRt τ P mk := by
  unfold zRt at *
  rw [h.1, h.2.1, h.2.2]
  exact hT
theorem zrw_ok {n k c : Nat} {s : zStp} {r : List Nat} (hr : zrok k r) (hc : c ≤ 125) : zrok (k + zfr1 s) (zrw s r c) := by
  unfold zrw zfr1
  split
  · refine ⟨by have := hr.1; simp; omega, fun y hy => ?_⟩
    rcases List.mem_append.mp hy with hy | hy
    · exact hr.2 y hy
    · simp only [List.mem_singleton] at hy; omega
  · exact zrok_m hr (by omega)
set_option maxHeartbeats 4000000 in
theorem l_rinn {d n k si st i : Nat} {σ0 : zH} {D : zDT} {s : zStp} {x : zTS} {r : List Nat} (hM : zMb σ0) (hD : zDR σ0 D n) (hsi : si < 96) (hS : zRs σ0 si (zpW s) (zpP s) (zpQ s) (zpG s) (zpH s)) (hw : zSw (zpW s) (zpP s) (zpQ s) (zpG s) (zpH s)) (hi3 : i < 3000) (hx : zVS n x) (hr : zrok k r) (hk : k + zfr1 s ≤ 8) {Q : Option Value → zH → Prop} : ∀ (m c : Nat), c + m = zchs s x → ∀ (M : zSt) (lg : Bool) (σ : zH), zFil σ n (k + zfr1 s) lg M → zFq σ0 σ → (∀ s', s' < 11 → zSame σ0 σ s') → (∀ τ lg' M', zFil τ n (k + zfr1 s) lg' M' → zFq σ0 τ → (∀ s', s' < 11 → zSame σ0 τ s') → (if lg then lg' = true else match zinn s x r m c M with | some M1 => lg' = false ∧ M' = M1 | none => lg' = true) → zW (d + 3) 188 11 [(0, .ref 160), (1, .int (nI si)), (2, .int (nI st)), (3, .int (nI 11)), (4, .int (nI (i + 1)))] [] τ Q) → zW (d + 3) 188 75 [(0, .ref 160), (1, .int (nI si)), (2, .int (nI st)), (3, .int (nI 11)), (4, .int (nI i)), (5, .long (lN (zkR x))), (7, .long (lN (zrR r))), (9, .int (nI (if zfree (zpW s) (zpH s) then zasks (zpW s) (zpP s) (zpQ s) (zpl x) else 0))), (10, .int (nI c))] [] σ Q := by
  have hV : zVP n (zpl x) (zmk x) := hx
  have hak := zasks_le hw hV
  have hap := zasks_pos hw hV
  have hch : (if ¬ nI (if zfree (zpW s) (zpH s) then zasks (zpW s) (zpP s) (zpQ s) (zpl x) else 0) = 0 then nI (if zfree (zpW s) (zpH s) then zasks (zpW s) (zpP s) (zpQ s) (zpl x) else 0) else nI 1) = nI (zchs s x) := by
    unfold zchs
    by_cases hf : zfree (zpW s) (zpH s) = true
    · rw [if_pos hf, if_pos hf, if_pos (nI_ne0 (by omega) (by omega))]
    · rw [if_neg hf, if_neg hf, if_neg (by decide)]
  have hc126 : zchs s x ≤ 126 := by unfold zchs; split <;> omega
  intro m
  induction m with
  | zero =>
    intro c hc M lg σ hFil hF hSm hQ
    refine b188_75 ?_
    rw [hch, if_pos (nI_le (by omega) (by omega)), nI_add]
    refine hQ σ lg M hFil hF hSm ?_
    cases lg with
    | true => simp
    | false => simp [zinn]
  | succ m ih =>
    intro c hc M lg σ hFil hF hSm hQ
    have hM1 := zMb_q hF hM
    have hD1 := zDR_q hF hD
    refine b188_75 ?_
    rw [hch, if_neg (nI_ge (by omega) (by omega))]
    refine ⟨hM1.1, p_untold hM1 hD1 hV (fun σ1 hu1 hT1 => ?_)⟩
    have hF1 := zFq_t hF (zFu_q hu1)
    have hM2 := zMb_q hF1 hM
    rw [zqv_s]
    refine ⟨hM2.1, p_ract (d := d) hM2 hsi (zRs_q hF1 hS) hw hT1 (by have := hV.1; have := hV.2.1; omega) hV.2.2.1 (fun hf => ?_) (by omega) (fun σ2 hu2 hT2 => ?_)⟩
    · have : zchs s x = zasks (zpW s) (zpP s) (zpQ s) (zpl x) := by unfold zchs; rw [if_pos hf]
      omega
    have hF2 := zFq_t hF1 (zFu_q hu2)
    have hM3 := zMb_q hF2 hM
    have hV2 := zact_V (c := c) hw hV
    have hVS := zVS_ts hV2
    have hr8 := zrw_ok (n := n) (s := s) (c := c) hr (by omega)
    have hFil2 := zFil_u hu2 (zFil_u hu1 hFil)
    have hSm2 : ∀ s', s' < 11 → zSame σ0 σ2 s' := fun s' hs' => zSame_t (hSm s' hs') (zSame_t (zFu_same hu1 s') (zFu_same hu2 s'))
    rw [zqv_s]
    refine ⟨hM3.1, p_told hM3 hT2 hV2 ?_⟩
    rw [zql_s, ← zkR_ts]
    have add : ∀ r', r' = zrw s r c → zM (d + 2) 185 [.ref 160, .long (lN (zkR (zts (zact (zpW s) (zpP s) (zpQ s) (zpG s) (zpH s) c (zpl x) (zmk x))))), .long (lN (zrR r'))] σ2 (fun r1 σ114 => zqv r1 (zW (d + 2 + 1) 188 75 [(0, .ref 160), (1, .int (nI si)), (2, .int (nI st)), (3, .int (nI 11)), (4, .int (nI i)), (5, .long (lN (zkR x))), (7, .long (lN (zrR r))), (9, .int (nI (if zfree (zpW s) (zpH s) then zasks (zpW s) (zpP s) (zpQ s) (zpl x) else 0))), (10, .int (nI c + nI 1))] [] σ114 Q)) := by
      intro r' hr'
      subst hr'
      refine p_fill hM3 hFil2 hk hVS hr8 (fun τ lg1 M1 q1 q2 q3 q4 q5 => ?_)
      rw [zqv_s, nI_add]
      refine ih (c + 1) (by omega) M1 lg1 τ q3 (zFq_t hF2 q1) (fun s' hs' => zSame_t (hSm2 s' hs') (q4 s' hs')) (fun υ lg2 M2 p1 p2 p3 p4 => hQ υ lg2 M2 p1 p2 p3 ?_)
      cases lg with
      | true =>
        simp only [if_true] at q5 ⊢
        rw [q5] at p4
        simpa using p4
      | false =>
        simp only [Bool.false_eq_true, if_false] at q5 ⊢
        rw [zinn, show zacS s x c = zts (zact (zpW s) (zpP s) (zpQ s) (zpG s) (zpH s) c (zpl x) (zmk x)) from rfl]
        cases hz : zputS M (zts (zact (zpW s) (zpP s) (zpQ s) (zpG s) (zpH s) c (zpl x) (zmk x))) (zrw s r c) with
        | none =>
          rw [hz] at q5
          simp only at q5
          rw [q5] at p4
          simpa using p4
        | some M3 =>
          rw [hz] at q5
          simp only at q5
          rw [q5.1, q5.2] at p4
          simpa using p4
    by_cases hf : zfree (zpW s) (zpH s) = true
    · rw [if_pos hf] at add ⊢
      rw [if_pos (nI_ne0 (by omega) (by omega))]
      have hk1 : zfr1 s = 1 := by unfold zfr1; rw [if_pos hf]
      refine e_rlonger (zrok_m hr (by omega)) (by have := hr.1; omega) (by omega) ?_
      rw [zql_s]
      exact ⟨hM3.1, add _ (by unfold zrw; rw [if_pos hf])⟩
    · rw [if_neg hf] at add ⊢
      rw [if_neg (by decide)]
      exact ⟨hM3.1, add _ (by unfold zrw; rw [if_neg hf])⟩
set_option maxHeartbeats 4000000 in
theorem p_rall {d n k si st : Nat} {σ : zH} {D : zDT} {s : zStp} {L : zSt} (hM : zMb σ) (hD : zDR σ D n) (hsi : si < 96) (hst : st < 11) (hS : zRs σ si (zpW s) (zpP s) (zpQ s) (zpG s) (zpH s)) (hw : zSw (zpW s) (zpP s) (zpQ s) (zpG s) (zpH s)) (hL : zQS σ st (zeR L)) (hLk : zSok n k L) (hk : k + zfr1 s ≤ 8) (h46 : zI σ 160 46 = nI 0) {Q : Option Value → zH → Prop} (hQ : ∀ τ lg', zFq σ τ → (∀ s', s' < 11 → s' ≠ st → zSame σ τ s') → zI τ 160 46 = nI (zbn1 lg') → (match zall s L [] with | some M => lg' = false ∧ zQS τ st (zeR M) ∧ zSok n (k + zfr1 s) M | none => lg' = true) → Q none τ) : zM (d + 3) 188 [.ref 160, .int (nI si), .int (nI st)] σ Q := by
  have copy : ∀ τ lg' M', zFil τ n (k + zfr1 s) lg' M' → zFq σ τ → (∀ s', s' < 11 → zSame σ τ s') → (match zall s L [] with | some M => lg' = false ∧ M' = M | none => lg' = true) → zM (d + 2) 189 [.ref 160, .int (nI 11), .int (nI st)] τ (fun r σ105 => zqv r (Q none σ105)) := by
    intro τ lg' M' hFil hF hSm hres
    obtain ⟨h1, h2, h3, L', h4, h5⟩ := hFil
    cases lg' with
    | true =>
      refine p_rcopy (zMb_q hF hM) hst h4 (fun υ q1 q2 q3 q4 q5 => ?_)
      rw [zqv_s]
      refine hQ υ true (zFq_t hF q1) (fun s' h1 h2 => zSame_t (hSm s' h1) (q4 s' h1 h2)) (by rw [q5]; exact h1) ?_
      cases hz : zall s L [] with
      | none => rfl
      | some M => rw [hz] at hres; simp at hres
    | false =>
      obtain ⟨g1, g2, g3⟩ := h3 rfl
      refine p_rcopy (zMb_q hF hM) hst g1 (fun υ q1 q2 q3 q4 q5 => ?_)
      rw [zqv_s]
      refine hQ υ false (zFq_t hF q1) (fun s' h1 h2 => zSame_t (hSm s' h1) (q4 s' h1 h2)) (by rw [q5]; exact h1) ?_
      cases hz : zall s L [] with
      | none => rw [hz] at hres; simp at hres
      | some M =>
        rw [hz] at hres
        simp only at hres
        rw [← hres.2]
        exact ⟨rfl, q3, g3⟩
  have loop : ∀ (E : zSt) (i : Nat) (M : zSt) (lg : Bool) (τ : zH), i ≤ L.length → L.drop i = E → zFil τ n (k + zfr1 s) lg M → zFq σ τ → (∀ s', s' < 11 → zSame σ τ s') → (if lg then zall s L [] = none else zall s L [] = zall s E M) → zW (d + 3) 188 11 [(0, .ref 160), (1, .int (nI si)), (2, .int (nI st)), (3, .int (nI 11)), (4, .int (nI i))] [] τ Q := by
    intro E
    induction E with
    | nil =>
      intro i M lg τ hiL hE hFil hF hSm hlg
      have hM1 := zMb_q hF hM
      have ⟨mK0, mQ1, mK1, mN1, mQ6, mK6, mN6, mQ7, mK7, mN7, mQ8, mK8, mN8, mQ9, mK9, mN9, mQ10, mK10, mN10, mQ11, mK11, mN11, mQ21, mK21, mN21, mQ22, mK22, mN22, mQ23, mK23, mN23, mQ24, mK24, mN24, mQ25, mK25, mN25, mQ26, mK26, mN26, mQ27, mK27, mN27, mQ28, mK28, mN28, mQ32, mK32, mN32, mQ33, mK33, mN33, mQ34, mK34, mN34, mQ35, mK35, mN35, mQ40, mK40, mN40, mQ41, mK41, mN41, mQ42, mK42, mN42, mQ43, mK43, mN43, mQ44, mK44, mN44, mQ45, mK45, mN45, mQ62, mK62, mN62⟩ := hM1
      obtain ⟨e1, e2, e3⟩ := zQS_get (zQS_same (hSm st hst) hL)
      have hi : L.length ≤ i := List.drop_eq_nil_iff.mp hE
      have hcl : (nI st).toNatClampNeg = st := zcl st (by omega)
      refine b188_11 ?_
      rw [mQ44, mK44, mN44, hcl, e1, if_pos (nI_le hi (by omega))]
      refine ⟨mK0, rfl, vp_in_nI (by omega) (by omega), copy τ lg M hFil hF hSm ?_⟩
      cases lg with
      | true => simp only [if_true] at hlg; rw [hlg]
      | false => simp only [Bool.false_eq_true, if_false] at hlg; rw [hlg, zall]; exact ⟨rfl, rfl⟩
    | cons e E ih =>
      intro i M lg τ hiL hE hFil hF hSm hlg
      obtain ⟨x, r⟩ := e
      obtain ⟨hLi, hE2⟩ := zdrop_get hE
      have hM1 := zMb_q hF hM
      have hD1 := zDR_q hF hD
      have ⟨mK0, mQ1, mK1, mN1, mQ6, mK6, mN6, mQ7, mK7, mN7, mQ8, mK8, mN8, mQ9, mK9, mN9, mQ10, mK10, mN10, mQ11, mK11, mN11, mQ21, mK21, mN21, mQ22, mK22, mN22, mQ23, mK23, mN23, mQ24, mK24, mN24, mQ25, mK25, mN25, mQ26, mK26, mN26, mQ27, mK27, mN27, mQ28, mK28, mN28, mQ32, mK32, mN32, mQ33, mK33, mN33, mQ34, mK34, mN34, mQ35, mK35, mN35, mQ40, mK40, mN40, mQ41, mK41, mN41, mQ42, mK42, mN42, mQ43, mK43, mN43, mQ44, mK44, mN44, mQ45, mK45, mN45, mQ62, mK62, mN62⟩ := hM1
      obtain ⟨e1, e2, e3⟩ := zQS_get (zQS_same (hSm st hst) hL)
      obtain ⟨g1, g2, g3⟩ := e3 i x r hLi
      have hcl : (nI st).toNatClampNeg = st := zcl st (by omega)
      have hxr : zVS n x ∧ zrok k r := hLk (x, r) (List.mem_of_getElem? hLi)
      have hcl2 : (nI 3001 * nI st + nI i).toNatClampNeg = 3001 * st + i := by rw [pk_mul, nI_add]; exact zcl _ (by omega)
      have hvp : vp_in (nI 3001 * nI st + nI i) 36012 := by rw [pk_mul, nI_add]; exact vp_in_nI (by omega) (by omega)
      refine b188_11 ?_
      rw [mQ44, mK44, mN44, hcl, e1, if_neg (nI_ge (by omega) (by omega)), hFil.1]
      refine ⟨mK0, rfl, vp_in_nI (by omega) (by omega), ?_⟩
      cases lg with
      | true =>
        simp only [if_true] at hlg
        rw [if_pos (by decide)]
        refine copy τ true M hFil hF hSm ?_
        rw [hlg]
      | false =>
        simp only [Bool.false_eq_true, if_false] at hlg
        rw [if_neg (by decide), mQ42, mQ43, mK42, mK43, mN42, mN43, hcl2, g1, g2]
        refine ⟨rfl, hvp, rfl, hvp, p_untold hM1 hD1 hxr.1 (fun σ1 hu1 hT1 => ?_)⟩
        have hF1 := zFq_t hF (zFu_q hu1)
        rw [zqv_s]
        refine ⟨(zMb_q hF1 hM).1, p_asks (d := d + 1) (zMb_q hF1 hM) hsi (zRs_q hF1 hS) hw hT1 (by have := hxr.1.1; have := hxr.1.2.1; omega) ?_⟩
        rw [zqi_s]
        refine l_rinn (σ0 := σ) hM hD hsi hS hw (by omega) hxr.1 hxr.2 hk (zchs s x) 0 (by omega) M false σ1 (zFil_u hu1 hFil) hF1 (fun s' hs' => zSame_t (hSm s' hs') (zFu_same hu1 s')) (fun υ lg' M' p1 p2 p3 p4 => ?_)
        simp only [Bool.false_eq_true, if_false] at p4
        refine ih (i + 1) M' lg' υ (by omega) hE2 p1 p2 p3 ?_
        rw [hlg, zall]
        cases hz : zinn s x r (zchs s x) 0 M with
        | none =>
          rw [hz] at p4
          simp only at p4
          rw [p4]
          simp
        | some M1 =>
          rw [hz] at p4
          simp only at p4
          rw [p4.1, p4.2]
          simp
  refine b188 ?_
  refine ⟨hM.1, p_rbegin (d := d + 1) hM (fun τ q1 q2 q3 q4 q5 q6 q7 => ?_)⟩
  rw [zqv_s]
  refine loop L 0 [] false τ (by omega) rfl ⟨by rw [q6]; exact h46, q7, fun _ => ⟨q3, q4, fun e he => by simp at he⟩, [], q3, q4⟩ q1 q5 ?_
  simp
