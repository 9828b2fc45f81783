/-! part, join -/
theorem zWr2 (τ : zH) (j : Nat) (a b : Int64) : zFq τ (zsB (zsB τ 182 j a) 183 j b) ∧ zB (zsB (zsB τ 182 j a) 183 j b) 182 = zu (zB τ 182) j a ∧ zB (zsB (zsB τ 182 j a) 183 j b) 183 = zu (zB τ 183) j b ∧ zA (zsB (zsB τ 182 j a) 183 j b) = zA τ ∧ zI (zsB (zsB τ 182 j a) 183 j b) = zI τ := by
  refine ⟨⟨rfl, rfl, rfl, rfl, rfl, rfl, rfl, fun _ _ _ => rfl, fun _ _ => rfl, fun x hx => ?_⟩, ?_, ?_, rfl, rfl⟩
  · rw [zsB_w, zsB_w]
    simp only [zh]
    rw [if_neg (by omega), if_neg (by omega)]
  · rw [zsB_w, zsB_w]
    simp only [zh]
    simp
  · rw [zsB_w, zsB_w]
    simp only [zh]
    simp
theorem zWrN (τ : zH) (j : Nat) (v : Int32) : zFq τ (zsA τ 184 j v) ∧ zA (zsA τ 184 j v) 184 = zu (zA τ 184) j v ∧ zB (zsA τ 184 j v) = zB τ ∧ zI (zsA τ 184 j v) = zI τ ∧ (∀ a, a ≠ 184 → zA (zsA τ 184 j v) a = zA τ a) := by
  refine ⟨⟨rfl, rfl, rfl, rfl, rfl, rfl, rfl, fun _ _ _ => rfl, fun x hx => ?_, fun _ _ => rfl⟩, ?_, rfl, rfl, fun a ha => ?_⟩
  · rw [zsA_w]
    simp only [zh]
    rw [if_neg (by omega)]
  · rw [zsA_w]
    simp only [zh]
    simp
  · rw [zsA_w]
    simp only [zh]
    rw [if_neg ha]
/-- places of a set hold M from its first place on -/
def zPl2 (σ : zH) (s : Nat) (M : zSt) : Prop := ∀ j x r, M[j]? = some (x, r) → zB σ 182 (3001 * s + j) = lN (zkR x) ∧ zB σ 183 (3001 * s + j) = lN (zrR r)
theorem zPl2_app {σ τ : zH} {s : Nat} {M : zSt} (hM : M.length < 3000) {x : zTS} {r : List Nat} (h : zPl2 σ s M) (h1 : zB τ 182 = zu (zB σ 182) (3001 * s + M.length) (lN (zkR x))) (h2 : zB τ 183 = zu (zB σ 183) (3001 * s + M.length) (lN (zrR r))) : zPl2 τ s (M ++ [(x, r)]) := by
  intro j y q hj
  by_cases e : j < M.length
  · rw [List.getElem?_append_left e] at hj
    rw [h1, h2, zu_ne _ _ (by omega), zu_ne _ _ (by omega)]
    exact h j y q hj
  · have e2 : j = M.length := by
      rcases Nat.lt_or_ge j (M.length + 1) with h3 | h3
      · omega
      · rw [List.getElem?_eq_none (by simp; omega)] at hj; simp at hj
    subst e2
    rw [List.getElem?_append_right (Nat.le_refl _), Nat.sub_self] at hj
    simp only [List.getElem?_cons_zero, Option.some.injEq, Prod.mk.injEq] at hj
    rw [h1, h2, zu_same, zu_same, hj.1, hj.2]
    exact ⟨rfl, rfl⟩
theorem zQS_pl {σ : zH} {s n k : Nat} {M : zSt} (h1 : zA σ 184 s = nI M.length) (h2 : M.length ≤ 3000) (h3 : zPl2 σ s M) (hok : zSok n k M) (hk : k ≤ 8) : zQS σ s (zeR M) := by
  have e : (zeR M).length = M.length := by unfold zeR; simp
  refine ⟨by rw [e]; exact h1, by rw [e]; exact h2, fun x hx => ?_, fun i hi => ?_⟩
  · unfold zeR at hx
    obtain ⟨y, hy, rfl⟩ := List.mem_map.mp hx
    exact ⟨Nat.lt_trans (zkR_lt (hok y hy).1) (by decide), zrR_lt (zrok_m (hok y hy).2 hk)⟩
  · rw [e] at hi
    obtain ⟨⟨x, r⟩, hx⟩ : ∃ y, M[i]? = some y := ⟨M[i], List.getElem?_eq_getElem hi⟩
    rw [(zeR_get hx).1]
    exact h3 i x r hx
set_option maxHeartbeats 4000000 in
theorem p_rpart {d n k si st ot lo hi f v : Nat} {σ : zH} {D : zDT} {cs : List zCd} {L : zSt} {C : (zCd → Bool) → Bool} (hM : zMb σ) (hD : zDR σ D n) (hb : zDb D) (hsi : si < 96) (hst : st < 11) (hot : ot < 11) (hne : st ≠ ot) (hv : zA σ 173 si = nI v) (hhi : hi ≤ 3200) (hTr : zTr σ lo hi f 19 v C) (hC : ∀ g, ztop (zev g cs []) = C g) (hL : zQS σ st (zeR L)) (hLk : zSok n k L) (hk8 : k ≤ 8) {Q : Option Value → zH → Prop} (hQ : ∀ τ, zFq σ τ → zQS τ st (zeR (L.filter (fun e => zmeet D cs e.1))) → zQS τ ot (zeR (L.filter (fun e => !zmeet D cs e.1))) → (∀ s', s' < 11 → s' ≠ st → s' ≠ ot → zSame σ τ s') → zI τ 160 46 = zI σ 160 46 → Q none τ) : zM (d + 21) 190 [.ref 160, .int (nI si), .int (nI st), .int (nI ot)] σ Q := by
  obtain ⟨l1, l2, l3⟩ := zQS_get hL
  have hcls : (nI st).toNatClampNeg = st := zcl st (by omega)
  have hclo : (nI ot).toNatClampNeg = ot := zcl ot (by omega)
  have hclsi : (nI si).toNatClampNeg = si := zcl si (by omega)
  have loop : ∀ (m i : Nat), i + m = L.length → ∀ (τ : zH), zFq σ τ → zA τ 184 st = nI L.length → zA τ 184 ot = nI ((L.take i).filter (fun e => !zmeet D cs e.1)).length → zPl2 τ st ((L.take i).filter (fun e => zmeet D cs e.1)) → zPl2 τ ot ((L.take i).filter (fun e => !zmeet D cs e.1)) → (∀ j x r, i ≤ j → L[j]? = some (x, r) → zB τ 182 (3001 * st + j) = lN (zkR x) ∧ zB τ 183 (3001 * st + j) = lN (zrR r)) → (∀ s', s' < 11 → s' ≠ st → s' ≠ ot → zSame σ τ s') → zI τ 160 46 = zI σ 160 46 → zW (d + 21) 190 13 [(0, .ref 160), (1, .int (nI si)), (2, .int (nI st)), (3, .int (nI ot)), (4, .int (nI ((L.take i).filter (fun e => zmeet D cs e.1)).length)), (5, .int (nI i))] [] τ Q := by
    intro m
    induction m with
    | zero =>
      intro i hi τ hF h1 h2 h3 h4 h5 h6 h7
      have hM1 := zMb_q hF hM
      have ⟨mK0, mQ1, mK1, mN1, mQ6, mK6, mN6, mQ7, mK7, mN7, mQ8, mK8, mN8, mQ9, mK9, mN9, mQ10, mK10, mN10, mQ11, mK11, mN11, mQ21, mK21, mN21, mQ22, mK22, mN22, mQ23, mK23, mN23, mQ24, mK24, mN24, mQ25, mK25, mN25, mQ26, mK26, mN26, mQ27, mK27, mN27, mQ28, mK28, mN28, mQ32, mK32, mN32, mQ33, mK33, mN33, mQ34, mK34, mN34, mQ35, mK35, mN35, mQ40, mK40, mN40, mQ41, mK41, mN41, mQ42, mK42, mN42, mQ43, mK43, mN43, mQ44, mK44, mN44, mQ45, mK45, mN45, mQ62, mK62, mN62⟩ := hM1
      have hi' : i = L.length := by omega
      refine b190_13 ?_
      rw [mQ44, mK44, mN44, hcls, h1, if_pos (nI_le (by omega) (by omega))]
      rw [hi', List.take_length] at h2 h3 h4 ⊢
      obtain ⟨w1, w2, w3, w4, w5⟩ := zWrN τ st (nI (L.filter (fun e => zmeet D cs e.1)).length)
      have ll1 := List.length_filter_le (fun e => zmeet D cs e.1) L
      have ll2 := List.length_filter_le (fun e => !zmeet D cs e.1) L
      refine ⟨mK0, rfl, vp_in_nI (by omega) (by omega), hQ _ (zFq_t hF w1) ?_ ?_ (fun s' a1 a2 a3 => ?_) (by rw [w4]; exact h7)⟩
      · refine zQS_pl (by rw [w2, zu_same]) (by omega) ?_ (zfilter_ok hLk _) hk8
        unfold zPl2 at *
        rw [w3]
        exact h3
      · refine zQS_pl (by rw [w2, zu_ne _ _ (fun q => hne q.symm)]; exact h2) (by omega) ?_ (zfilter_ok hLk _) hk8
        unfold zPl2 at *
        rw [w3]
        exact h4
      · refine zSame_t (h6 s' a1 a2 a3) ⟨by rw [w2, zu_ne _ _ a2], fun i hi => by rw [w3]; exact ⟨rfl, rfl⟩⟩
    | succ m ih =>
      intro i hi τ hF h1 h2 h3 h4 h5 h6 h7
      have hM1 := zMb_q hF hM
      have ⟨mK0, mQ1, mK1, mN1, mQ6, mK6, mN6, mQ7, mK7, mN7, mQ8, mK8, mN8, mQ9, mK9, mN9, mQ10, mK10, mN10, mQ11, mK11, mN11, mQ21, mK21, mN21, mQ22, mK22, mN22, mQ23, mK23, mN23, mQ24, mK24, mN24, mQ25, mK25, mN25, mQ26, mK26, mN26, mQ27, mK27, mN27, mQ28, mK28, mN28, mQ32, mK32, mN32, mQ33, mK33, mN33, mQ34, mK34, mN34, mQ35, mK35, mN35, mQ40, mK40, mN40, mQ41, mK41, mN41, mQ42, mK42, mN42, mQ43, mK43, mN43, mQ44, mK44, mN44, mQ45, mK45, mN45, mQ62, mK62, mN62⟩ := hM1
      obtain ⟨⟨x, r⟩, hLi⟩ : ∃ e, L[i]? = some e := ⟨L[i]'(by omega), List.getElem?_eq_getElem (by omega)⟩
      obtain ⟨g1, g2⟩ := h5 i x r (Nat.le_refl _) hLi
      have hxr : zVS n x ∧ zrok k r := hLk (x, r) (List.mem_of_getElem? hLi)
      have hcl2 : (nI 3001 * nI st + nI i).toNatClampNeg = 3001 * st + i := by rw [pk_mul, nI_add]; exact zcl _ (by omega)
      have hvp : vp_in (nI 3001 * nI st + nI i) 36012 := by rw [pk_mul, nI_add]; exact vp_in_nI (by omega) (by omega)
      have len1 : ((L.take i).filter (fun e => zmeet D cs e.1)).length ≤ i := Nat.le_trans (List.length_filter_le _ _) (by rw [List.length_take]; omega)
      have len2 : ((L.take i).filter (fun e => !zmeet D cs e.1)).length ≤ i := Nat.le_trans (List.length_filter_le _ _) (by rw [List.length_take]; omega)
      have hkeep : ∀ (p : zTS × List Nat → Bool), p (x, r) = false → (L.take (i + 1)).filter p = (L.take i).filter p := by
        intro p hp
        rw [ztake_s hLi, List.filter_append, List.filter_cons, hp]
        simp
      have hadd : ∀ (p : zTS × List Nat → Bool), p (x, r) = true → (L.take (i + 1)).filter p = (L.take i).filter p ++ [(x, r)] := by
        intro p hp
        rw [ztake_s hLi, List.filter_append, List.filter_cons, if_pos hp, List.filter_nil]
      refine b190_13 ?_
      rw [mQ44, mK44, mN44, hcls, h1, if_neg (nI_ge (by omega) (by omega)), mQ42, mQ43, mK42, mK43, mN42, mN43, hcl2, g1, g2]
      refine ⟨mK0, rfl, vp_in_nI (by omega) (by omega), rfl, hvp, rfl, hvp, ?_⟩
      refine p_untold hM1 (zDR_q hF hD) hxr.1 (fun σ1 hu1 hT1 => ?_)
      have hF1 := zFq_t hF (zFu_q hu1)
      have hM2 := zMb_q hF1 hM
      have hv1 : zA σ1 173 si = nI v := by
        obtain ⟨-, -, -, -, -, -, -, hI, hA, hB⟩ := hF1
        rw [hA 173 (by omega)]
        exact hv
      have hBB : zB σ1 = zB τ := hu1.2.2.2.2.2.2.2.2.2
      have h184 : zA σ1 184 = zA τ 184 := hu1.2.2.2.2.2.2.2.2.1 184 (by omega)
      have h46 : zI σ1 160 46 = zI σ 160 46 := by rw [(zFu_I hu1).1]; exact h7
      clear mK0 mQ1 mK1 mN1 mQ6 mK6 mN6 mQ7 mK7 mN7 mQ8 mK8 mN8 mQ9 mK9 mN9 mQ10 mK10 mN10 mQ11 mK11 mN11 mQ21 mK21 mN21 mQ22 mK22 mN22 mQ23 mK23 mN23 mQ24 mK24 mN24 mQ25 mK25 mN25 mQ26 mK26 mN26 mQ27 mK27 mN27 mQ28 mK28 mN28 mQ32 mK32 mN32 mQ33 mK33 mN33 mQ34 mK34 mN34 mQ35 mK35 mN35 mQ40 mK40 mN40 mQ41 mK41 mN41 mQ42 mK42 mN42 mQ43 mK43 mN43 mQ44 mK44 mN44 mQ45 mK45 mN45 mQ62 mK62 mN62
      have ⟨mK0, mQ1, mK1, mN1, mQ6, mK6, mN6, mQ7, mK7, mN7, mQ8, mK8, mN8, mQ9, mK9, mN9, mQ10, mK10, mN10, mQ11, mK11, mN11, mQ21, mK21, mN21, mQ22, mK22, mN22, mQ23, mK23, mN23, mQ24, mK24, mN24, mQ25, mK25, mN25, mQ26, mK26, mN26, mQ27, mK27, mN27, mQ28, mK28, mN28, mQ32, mK32, mN32, mQ33, mK33, mN33, mQ34, mK34, mN34, mQ35, mK35, mN35, mQ40, mK40, mN40, mQ41, mK41, mN41, mQ42, mK42, mN42, mQ43, mK43, mN43, mQ44, mK44, mN44, mQ45, mK45, mN45, mQ62, mK62, mN62⟩ := hM2
      rw [zqv_s, mQ26, mK26, mN26, hclsi, hv1]
      refine ⟨mK0, rfl, vp_in_nI (by omega) (by omega), ?_⟩
      refine p_hold (d := d) (K := 19) hM2 (zDR_q hF1 hD) hT1 hxr.1 hb hhi (zTr_q hF1 hTr) ?_
      rw [zqi_s, ← hC, show ztop (zev (zct D (zmk x) (zpl x)) cs []) = zmeet D cs x from rfl]
      have hsm1 : ∀ s', s' < 11 → s' ≠ st → s' ≠ ot → zSame σ σ1 s' := fun s' a1 a2 a3 => zSame_t (h6 s' a1 a2 a3) (zFu_same hu1 s')
      cases hm : zmeet D cs x with
      | true =>
        rw [if_neg (by decide), nI_add]
        have e1 := hadd (fun e => zmeet D cs e.1) hm
        have e2 := hkeep (fun e => !zmeet D cs e.1) (by simp [hm])
        refine b190_107 ?_
        have hcl3 : (nI 3001 * nI st + nI ((L.take i).filter (fun e => zmeet D cs e.1)).length).toNatClampNeg = 3001 * st + ((L.take i).filter (fun e => zmeet D cs e.1)).length := by rw [pk_mul, nI_add]; exact zcl _ (by omega)
        have hvp3 : vp_in (nI 3001 * nI st + nI ((L.take i).filter (fun e => zmeet D cs e.1)).length) 36012 := by rw [pk_mul, nI_add]; exact vp_in_nI (by omega) (by omega)
        rw [mQ42, mQ43, mK42, mK43, mN42, mN43, hcl3, nI_add]
        refine ⟨mK0, rfl, hvp3, rfl, hvp3, ?_⟩
        obtain ⟨w1, w2, w3, w4, w5⟩ := zWr2 σ1 (3001 * st + ((L.take i).filter (fun e => zmeet D cs e.1)).length) (lN (zkR x)) (lN (zrR r))
        have hlen : ((L.take (i + 1)).filter (fun e => zmeet D cs e.1)).length = ((L.take i).filter (fun e => zmeet D cs e.1)).length + 1 := by rw [e1]; simp
        rw [← hlen]
        refine ih (i + 1) (by omega) _ (zFq_t hF1 w1) (by rw [w4, h184]; exact h1) (by rw [w4, h184, e2]; exact h2) ?_ ?_ (fun j y q hj hy => ?_) (fun s' a1 a2 a3 => zSame_t (hsm1 s' a1 a2 a3) ⟨by rw [w4], fun i' hi' => ?_⟩) (by rw [w5]; exact h46)
        · rw [e1]
          refine zPl2_app (σ := σ1) (by omega) ?_ w2 w3
          unfold zPl2 at *
          rw [hBB]
          exact h3
        · rw [e2]
          intro j y q hj
          have hjl : j < ((L.take i).filter (fun e => !zmeet D cs e.1)).length := by
            rcases Nat.lt_or_ge j ((L.take i).filter (fun e => !zmeet D cs e.1)).length with h | h
            · exact h
            · rw [List.getElem?_eq_none h] at hj; simp at hj
          rw [w2, w3, zu_ne _ _ (by omega), zu_ne _ _ (by omega), hBB]
          exact h4 j y q hj
        · have hjl := (zeR_get hy).2
          rw [w2, w3, zu_ne _ _ (by omega), zu_ne _ _ (by omega), hBB]
          exact h5 j y q (by omega) hy
        · rw [w2, w3, zu_ne _ _ (by omega), zu_ne _ _ (by omega)]
          exact ⟨rfl, rfl⟩
      | false =>
        have e1 := hkeep (fun e => zmeet D cs e.1) hm
        have e2 := hadd (fun e => !zmeet D cs e.1) (by simp [hm])
        have hot1 : zA σ1 184 ot = nI ((L.take i).filter (fun e => !zmeet D cs e.1)).length := by rw [h184]; exact h2
        rw [if_pos (by decide), mQ44, mK44, mN44, hclo, hot1, nI_add]
        refine ⟨mK0, rfl, vp_in_nI (by omega) (by omega), ?_⟩
        obtain ⟨u1, u2, u3, u4, u5⟩ := zWrN σ1 ot (nI (((L.take i).filter (fun e => !zmeet D cs e.1)).length + 1))
        generalize zsA σ1 184 ot (nI (((L.take i).filter (fun e => !zmeet D cs e.1)).length + 1)) = σ2 at u1 u2 u3 u4 u5 ⊢
        have hF2 := zFq_t hF1 u1
        have hM3 := zMb_q u1 hM2
        clear mK0 mQ1 mK1 mN1 mQ6 mK6 mN6 mQ7 mK7 mN7 mQ8 mK8 mN8 mQ9 mK9 mN9 mQ10 mK10 mN10 mQ11 mK11 mN11 mQ21 mK21 mN21 mQ22 mK22 mN22 mQ23 mK23 mN23 mQ24 mK24 mN24 mQ25 mK25 mN25 mQ26 mK26 mN26 mQ27 mK27 mN27 mQ28 mK28 mN28 mQ32 mK32 mN32 mQ33 mK33 mN33 mQ34 mK34 mN34 mQ35 mK35 mN35 mQ40 mK40 mN40 mQ41 mK41 mN41 mQ42 mK42 mN42 mQ43 mK43 mN43 mQ44 mK44 mN44 mQ45 mK45 mN45 mQ62 mK62 mN62
        have ⟨mK0, mQ1, mK1, mN1, mQ6, mK6, mN6, mQ7, mK7, mN7, mQ8, mK8, mN8, mQ9, mK9, mN9, mQ10, mK10, mN10, mQ11, mK11, mN11, mQ21, mK21, mN21, mQ22, mK22, mN22, mQ23, mK23, mN23, mQ24, mK24, mN24, mQ25, mK25, mN25, mQ26, mK26, mN26, mQ27, mK27, mN27, mQ28, mK28, mN28, mQ32, mK32, mN32, mQ33, mK33, mN33, mQ34, mK34, mN34, mQ35, mK35, mN35, mQ40, mK40, mN40, mQ41, mK41, mN41, mQ42, mK42, mN42, mQ43, mK43, mN43, mQ44, mK44, mN44, mQ45, mK45, mN45, mQ62, mK62, mN62⟩ := hM3
        refine b190_107 ?_
        have hcl3 : (nI 3001 * nI ot + nI ((L.take i).filter (fun e => !zmeet D cs e.1)).length).toNatClampNeg = 3001 * ot + ((L.take i).filter (fun e => !zmeet D cs e.1)).length := by rw [pk_mul, nI_add]; exact zcl _ (by omega)
        have hvp3 : vp_in (nI 3001 * nI ot + nI ((L.take i).filter (fun e => !zmeet D cs e.1)).length) 36012 := by rw [pk_mul, nI_add]; exact vp_in_nI (by omega) (by omega)
        rw [mQ42, mQ43, mK42, mK43, mN42, mN43, hcl3, nI_add]
        refine ⟨mK0, rfl, hvp3, rfl, hvp3, ?_⟩
        obtain ⟨w1, w2, w3, w4, w5⟩ := zWr2 σ2 (3001 * ot + ((L.take i).filter (fun e => !zmeet D cs e.1)).length) (lN (zkR x)) (lN (zrR r))
        rw [← e1]
        refine ih (i + 1) (by omega) _ (zFq_t hF2 w1) (by rw [w4, u2, zu_ne _ _ hne, h184]; exact h1) (by rw [w4, u2, zu_same, e2]; simp) ?_ ?_ (fun j y q hj hy => ?_) (fun s' a1 a2 a3 => zSame_t (hsm1 s' a1 a2 a3) ⟨by rw [w4, u2, zu_ne _ _ a3], fun i' hi' => ?_⟩) (by rw [w5, u4]; exact h46)
        · rw [e1]
          intro j y q hj
          have hjl : j < ((L.take i).filter (fun e => zmeet D cs e.1)).length := by
            rcases Nat.lt_or_ge j ((L.take i).filter (fun e => zmeet D cs e.1)).length with h | h
            · exact h
            · rw [List.getElem?_eq_none h] at hj; simp at hj
          rw [w2, w3, zu_ne _ _ (by omega), zu_ne _ _ (by omega), u3, hBB]
          exact h3 j y q hj
        · rw [e2]
          refine zPl2_app (σ := σ2) (by omega) ?_ w2 w3
          unfold zPl2 at *
          rw [u3, hBB]
          exact h4
        · have hjl := (zeR_get hy).2
          rw [w2, w3, zu_ne _ _ (by omega), zu_ne _ _ (by omega), u3, hBB]
          exact h5 j y q (by omega) hy
        · rw [w2, w3, zu_ne _ _ (by omega), zu_ne _ _ (by omega), u3]
          exact ⟨rfl, rfl⟩
  have ⟨mK0, mQ1, mK1, mN1, mQ6, mK6, mN6, mQ7, mK7, mN7, mQ8, mK8, mN8, mQ9, mK9, mN9, mQ10, mK10, mN10, mQ11, mK11, mN11, mQ21, mK21, mN21, mQ22, mK22, mN22, mQ23, mK23, mN23, mQ24, mK24, mN24, mQ25, mK25, mN25, mQ26, mK26, mN26, mQ27, mK27, mN27, mQ28, mK28, mN28, mQ32, mK32, mN32, mQ33, mK33, mN33, mQ34, mK34, mN34, mQ35, mK35, mN35, mQ40, mK40, mN40, mQ41, mK41, mN41, mQ42, mK42, mN42, mQ43, mK43, mN43, mQ44, mK44, mN44, mQ45, mK45, mN45, mQ62, mK62, mN62⟩ := hM
  refine b190 ?_
  rw [mQ44, mK44, mN44, hclo]
  refine ⟨mK0, rfl, vp_in_nI (by omega) (by omega), ?_⟩
  obtain ⟨u1, u2, u3, u4, u5⟩ := zWrN σ ot (nI 0)
  refine loop L.length 0 (by omega) _ u1 (by rw [u2, zu_ne _ _ hne]; exact l1) (by rw [u2, zu_same]; rfl) (fun j x r hj => by simp at hj) (fun j x r hj => by simp at hj) (fun j x r _ hj => by rw [u3]; exact ⟨(l3 j x r hj).1, (l3 j x r hj).2.1⟩) (fun s' a1 a2 a3 => ⟨by rw [u2, zu_ne _ _ a3], fun i hi => by rw [u3]; exact ⟨rfl, rfl⟩⟩) (by rw [u4])
