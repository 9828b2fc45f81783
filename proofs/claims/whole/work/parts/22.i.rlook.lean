/-! claimHolds, look of the reference -/
def zRcl (σ : zH) (cs : List zCd) : Prop := (zI σ 160 38 = -1 ∧ cs = [(42, 9216, 9216)]) ∨ ∃ v C f lo hi, zI σ 160 38 = nI v ∧ v < 3200 ∧ hi ≤ 3200 ∧ zTr σ lo hi f 19 v C ∧ ∀ g, ztop (zev g cs []) = C g
theorem zRcl_q {σ τ : zH} (h : zFq σ τ) {cs : List zCd} (hC : zRcl σ cs) : zRcl τ cs := by
  have hI := h.2.2.2.2.2.2.2.1 160 38 (by omega)
  rcases hC with ⟨h1, h2⟩ | ⟨v, C, f, lo, hi, h1, h2, h3, h4, h5⟩
  · exact Or.inl ⟨by rw [hI]; exact h1, h2⟩
  · exact Or.inr ⟨v, C, f, lo, hi, by rw [hI]; exact h1, h2, h3, zTr_q h h4, h5⟩
theorem p_rclaim {d n : Nat} {σ : zH} {D : zDT} {x : zTS} {cs : List zCd} (hM : zMb σ) (hD : zDR σ D n) (hb : zDb D) (hT : zRt σ (zpl x) (zmk x)) (hV : zVS n x) (hC : zRcl σ cs) {Q : Option Value → zH → Prop} (hQ : Q (some (.int (nI (zbn1 (zmeet D cs x))))) σ) : zM (d + 21) 173 [.ref 160] σ Q := by
  refine b173 ?_
  refine ⟨hM.1, ?_⟩
  rcases hC with ⟨h1, h2⟩ | ⟨v, C, f, lo, hi, h1, h2, h3, h4, h5⟩
  · rw [h1, if_pos (by decide)]
    have : zmeet D cs x = true := by
      rw [h2]
      unfold zmeet
      simp [zev, zop, ztop, zct, zcmp]
    rw [this] at hQ
    exact hQ
  · rw [h1, if_neg (nI_pos (by omega))]
    refine p_hold (d := d) (K := 19) hM hD hT hV hb h3 h4 ?_
    rw [zqi_s, ← h5, show ztop (zev (zct D (zmk x) (zpl x)) cs []) = zmeet D cs x from rfl]
    cases hm : zmeet D cs x <;> rw [hm] at hQ
    · rw [if_pos (by decide)]; exact hQ
    · rw [if_neg (by decide)]; exact hQ
def zbR (o : Option (List Nat)) : Int64 := match o with | none => lN 9223372036854775807 | some r => lN (zrR r)
theorem zrR_lt2 {r : List Nat} (h : zrok 8 r) : zrR r < 9223372036854775807 := by
  unfold zrR
  rcases r with _ | ⟨c, l⟩
  · simp [zdv]
  · have hl : zrok 7 l := ⟨by have := h.1; simp at this; omega, fun x hx => h.2 x (by simp [hx])⟩
    have h1 := zdv_lt (B := 256) (by decide) 7 l hl
    have h2 := h.2 c (by simp)
    simp only [zdv]
    simp only [Nat.reducePow] at *
    omega
theorem zbR_gt {o : Option (List Nat)} (ho : ∀ r, o = some r → zrok 8 r) {r : List Nat} (hr : zrok 8 r) : (0 ≤ lg_cmp (lN (zrR r)) (zbR o)) ↔ ¬ (match o with | none => True | some a => zlx r a = true) := by
  have h1 := zrR_lt2 hr
  rw [lg_cmp_ge]
  cases o with
  | none =>
    simp only [zbR, not_true, iff_false]
    rw [pk_lLE (by decide) (by omega)]
    omega
  | some a =>
    have h2 := zrR_lt2 (ho a rfl)
    simp only [zbR]
    rw [pk_lLE (by omega) (by omega)]
    have := (zdv_lx (B := 256) (by decide) 8 r a hr (ho a rfl)).1
    unfold zrR
    rw [← this]
    omega
set_option maxHeartbeats 4000000 in
theorem l_rjudge {d n : Nat} {σ0 : zH} {D : zDT} {L : zSt} {cs : List zCd} (hM : zMb σ0) (hD : zDR σ0 D n) (hb : zDb D) (hCl : zRcl σ0 cs) (hL : zQS σ0 0 (zeR L)) (hLk : zSok n 8 L) {Q : Option Value → zH → Prop} (hQ : ∀ τ, zFq σ0 τ → (∀ r, zbk D cs none L = some r → zrok 8 r) → Q (some (.int (if zcnt D cs L = L.length then nI 0 else nI 1))) (zsJ (zsI (zsI τ 160 48 (nI L.length)) 160 49 (nI (zcnt D cs L))) 160 50 (zbR (zbk D cs none L)))) : ∀ (E : zSt) (i c : Nat) (acc : Option (List Nat)) (σ : zH), i ≤ L.length → L.drop i = E → zFq σ0 σ → zSame σ0 σ 0 → c ≤ i → c + zcnt D cs E = zcnt D cs L → zbk D cs acc E = zbk D cs none L → (∀ r, acc = some r → zrok 8 r) → zW (d + 22) 192 63 [(0, .ref 160), (2, .int (nI c)), (3, .long (zbR acc)), (5, .int (nI i))] [] σ Q := by
  have hc0 : (nI 0).toNatClampNeg = 0 := rfl
  intro E
  induction E with
  | nil =>
    intro i c acc σ hiL hE hF hSm hci hc hk hacc
    have ⟨mK0, mQ1, mK1, mN1, mQ6, mK6, mN6, mQ7, mK7, mN7, mQ8, mK8, mN8, mQ9, mK9, mN9, mQ10, mK10, mN10, mQ11, mK11, mN11, mQ21, mK21, mN21, mQ22, mK22, mN22, mQ23, mK23, mN23, mQ24, mK24, mN24, mQ25, mK25, mN25, mQ26, mK26, mN26, mQ27, mK27, mN27, mQ28, mK28, mN28, mQ32, mK32, mN32, mQ33, mK33, mN33, mQ34, mK34, mN34, mQ35, mK35, mN35, mQ40, mK40, mN40, mQ41, mK41, mN41, mQ42, mK42, mN42, mQ43, mK43, mN43, mQ44, mK44, mN44, mQ45, mK45, mN45, mQ62, mK62, mN62⟩ := zMb_q hF hM
    obtain ⟨e1, e2, e3⟩ := zQS_get (zQS_same hSm hL)
    have hi : L.length ≤ i := List.drop_eq_nil_iff.mp hE
    simp only [zcnt, Nat.add_zero] at hc
    rw [zbk] at hk
    refine b192_63 ?_
    rw [mQ44, mK44, mN44, hc0, e1, if_pos (nI_le hi (by omega))]
    refine ⟨mK0, rfl, vp_in_nI (by omega) (by omega), ?_⟩
    have := hQ σ hF (fun r hr => hacc r (by rw [hk]; exact hr))
    rw [← hc, ← hk] at this
    have e4 : (if ¬ nI c = nI L.length then nI 1 else nI 0) = if c = L.length then nI 0 else nI 1 := by
      by_cases h : c = L.length
      · rw [if_pos h, if_neg (by rw [h]; exact fun q => q rfl)]
      · rw [if_neg h, if_pos (fun q => h ((nI_eq (by omega) (by omega)).mp q))]
    rw [e4]
    exact this
  | cons e E ih =>
    intro i c acc σ hiL hE hF hSm hci hc hk hacc
    obtain ⟨x, r⟩ := e
    obtain ⟨hLi, hE2⟩ := zdrop_get hE
    have hM1 := zMb_q hF hM
    have ⟨mK0, mQ1, mK1, mN1, mQ6, mK6, mN6, mQ7, mK7, mN7, mQ8, mK8, mN8, mQ9, mK9, mN9, mQ10, mK10, mN10, mQ11, mK11, mN11, mQ21, mK21, mN21, mQ22, mK22, mN22, mQ23, mK23, mN23, mQ24, mK24, mN24, mQ25, mK25, mN25, mQ26, mK26, mN26, mQ27, mK27, mN27, mQ28, mK28, mN28, mQ32, mK32, mN32, mQ33, mK33, mN33, mQ34, mK34, mN34, mQ35, mK35, mN35, mQ40, mK40, mN40, mQ41, mK41, mN41, mQ42, mK42, mN42, mQ43, mK43, mN43, mQ44, mK44, mN44, mQ45, mK45, mN45, mQ62, mK62, mN62⟩ := hM1
    obtain ⟨e1, e2, e3⟩ := zQS_get (zQS_same hSm hL)
    obtain ⟨g1, g2, g3⟩ := e3 i x r hLi
    rw [show 3001 * 0 + i = i by omega] at g1 g2
    have hcl : (nI i).toNatClampNeg = i := zcl i (by omega)
    have hxr : zVS n x ∧ zrok 8 r := hLk (x, r) (List.mem_of_getElem? hLi)
    refine b192_63 ?_
    rw [mQ44, mK44, mN44, hc0, e1, if_neg (nI_ge (by omega) (by omega)), mQ42, mK42, mN42, hcl, g1]
    refine ⟨mK0, rfl, vp_in_nI (by omega) (by omega), rfl, vp_in_nI (by omega) (by omega), ?_⟩
    refine p_untold hM1 (zDR_q hF hD) hxr.1 (fun σ1 hu1 hT1 => ?_)
    have hF1 := zFq_t hF (zFu_q hu1)
    have hM2 := zMb_q hF1 hM
    have hSm1 := zSame_t hSm (zFu_same hu1 0)
    rw [zqv_s]
    refine ⟨hM2.1, p_rclaim (d := d) hM2 (zDR_q hF1 hD) hb hT1 hxr.1 (zRcl_q hF1 hCl) ?_⟩
    rw [zqi_s]
    have hcl9 : zcnt D cs ((x, r) :: E) = (if zmeet D cs x then 1 else 0) + zcnt D cs E := rfl
    rw [hcl9] at hc
    rw [zbk_c] at hk
    cases hmt : zmeet D cs x with
    | true =>
      rw [if_neg (by decide), nI_add, nI_add]
      rw [hmt] at hc
      simp only [if_true] at hc
      rw [if_pos hmt] at hk
      exact ih (i + 1) (c + 1) acc σ1 (by omega) hE2 hF1 hSm1 (by omega) (by omega) hk hacc
    | false =>
      rw [hmt] at hc
      simp only [Bool.false_eq_true, if_false, Nat.zero_add] at hc
      simp only [hmt, Bool.false_eq_true, if_false] at hk
      have ⟨mK0, mQ1, mK1, mN1, mQ6, mK6, mN6, mQ7, mK7, mN7, mQ8, mK8, mN8, mQ9, mK9, mN9, mQ10, mK10, mN10, mQ11, mK11, mN11, mQ21, mK21, mN21, mQ22, mK22, mN22, mQ23, mK23, mN23, mQ24, mK24, mN24, mQ25, mK25, mN25, mQ26, mK26, mN26, mQ27, mK27, mN27, mQ28, mK28, mN28, mQ32, mK32, mN32, mQ33, mK33, mN33, mQ34, mK34, mN34, mQ35, mK35, mN35, mQ40, mK40, mN40, mQ41, mK41, mN41, mQ42, mK42, mN42, mQ43, mK43, mN43, mQ44, mK44, mN44, mQ45, mK45, mN45, mQ62, mK62, mN62⟩ := hM2
      obtain ⟨e1', e2', e3'⟩ := zQS_get (zQS_same hSm1 hL)
      have g2' := (e3' i x r hLi).2.1
      rw [show 3001 * 0 + i = i by omega] at g2'
      rw [if_pos (by decide), mQ43, mK43, mN43, g2', nI_add]
      refine ⟨mK0, rfl, vp_in_nI (by omega) (by omega), ?_⟩
      have hgt := zbR_gt hacc hxr.2
      have hset : zbk D cs (some r) E = zbk D cs none L → zW (d + 22) 192 63 [(0, .ref 160), (2, .int (nI c)), (3, .long (lN (zrR r))), (5, .int (nI (i + 1)))] [] σ1 Q := fun hk' => ih (i + 1) c (some r) σ1 (by omega) hE2 hF1 hSm1 (by omega) hc hk' (fun r' hr' => by rw [← Option.some.inj hr']; exact hxr.2)
      cases acc with
      | none =>
        rw [if_neg (by rw [hgt]; simp)]
        exact hset hk
      | some a =>
        simp only at hgt hk
        by_cases hlt : zlx r a = true
        · rw [if_neg (by rw [hgt]; exact fun q => q hlt)]
          unfold zrmin at hk
          rw [if_pos hlt] at hk
          exact hset hk
        · rw [if_pos (hgt.mpr hlt)]
          unfold zrmin at hk
          rw [if_neg hlt] at hk
          exact ih (i + 1) c (some a) σ1 (by omega) hE2 hF1 hSm1 (by omega) hc hk hacc
set_option maxHeartbeats 4000000 in
theorem p_rlook {d n bk ra f : Nat} {σ : zH} {D : zDT} {St : List zStp} {cs : List zCd} {row : List Nat} (hM : zMb σ) (hD : zDR σ D n) (hb : zDb D) (hRk : zRk σ bk St) (hCl : zRcl σ cs) (hn9 : n ≤ 9) (hra : ra = 165 ∨ ra = 186) (hrl : row.length = n) (hrow : ∀ i, i < n → zA σ ra i = nI (zsR (row.getD i 0))) (hrc : ∀ c ∈ row, zco c) (hwf : zwf St f 0 St.length 0) (hch : zch St f 0 St.length ≤ 8) {Q : Option Value → zH → Prop} (hQ1 : ∀ L, zrunS D St f (row, [], [], [], 0) = some L → ∀ τ, zFq σ τ → (∀ r, zbk D cs none L = some r → zrok 8 r) → Q (some (.int (if zcnt D cs L = L.length then nI 0 else nI 1))) (zsJ (zsI (zsI τ 160 48 (nI L.length)) 160 49 (nI (zcnt D cs L))) 160 50 (zbR (zbk D cs none L)))) (hQ0 : zrunS D St f (row, [], [], [], 0) = none → ∀ τ, zFq σ τ → Q (some (.int (nI 2))) τ) : zM (d + 27) 192 [.ref 160, .ref ra] σ Q := by
  have hc0 : (nI 0).toNatClampNeg = 0 := rfl
  have hx := zVS_row hn9 hrl hrc
  have hF0 : zFq σ (zsI σ 160 46 (nI 0)) := by
    refine ⟨rfl, rfl, rfl, rfl, rfl, rfl, rfl, fun a i h => ?_, fun _ _ => rfl, fun _ _ => rfl⟩
    simp only [zh]
    rw [if_neg (by omega)]
  have h46 : zI (zsI σ 160 46 (nI 0)) 160 46 = nI 0 := by simp only [zh]; simp
  refine b192 ?_
  refine ⟨hM.1, ?_⟩
  have hAra : zA (zsI σ 160 46 (nI 0)) ra = zA σ ra := rfl
  generalize zsI σ 160 46 (nI 0) = σ1 at hF0 h46 hAra ⊢
  refine p_rlay (zMb_q hF0 hM) (zDR_q hF0 hD).1 hn9 hra hrl (by rw [hAra]; exact hrow) (fun c hc => (zco_0 (hrc c hc)).2) (fun σ2 hu2 hT2 => ?_)
  have hF2 := zFq_t hF0 (zFu_q hu2)
  have ⟨mK0, mQ1, mK1, mN1, mQ6, mK6, mN6, mQ7, mK7, mN7, mQ8, mK8, mN8, mQ9, mK9, mN9, mQ10, mK10, mN10, mQ11, mK11, mN11, mQ21, mK21, mN21, mQ22, mK22, mN22, mQ23, mK23, mN23, mQ24, mK24, mN24, mQ25, mK25, mN25, mQ26, mK26, mN26, mQ27, mK27, mN27, mQ28, mK28, mN28, mQ32, mK32, mN32, mQ33, mK33, mN33, mQ34, mK34, mN34, mQ35, mK35, mN35, mQ40, mK40, mN40, mQ41, mK41, mN41, mQ42, mK42, mN42, mQ43, mK43, mN43, mQ44, mK44, mN44, mQ45, mK45, mN45, mQ62, mK62, mN62⟩ := zMb_q hF2 hM
  rw [zqv_s, mQ44, mK44, mN44, hc0, mQ42]
  refine ⟨mK0, rfl, vp_in_nI (by omega) (by omega), ?_⟩
  obtain ⟨u1, u2, u3, u4, u5⟩ := zWrN σ2 0 (nI 1)
  have h46' : zI (zsA σ2 184 0 (nI 1)) 160 46 = nI 0 := by rw [u4, (zFu_I hu2).1]; exact h46
  have hT3 : zRt (zsA σ2 184 0 (nI 1)) (zpl (row, [], [], [], 0)) 0 := by
    unfold zRt at *
    rw [u4, u5 166 (by decide), u5 167 (by decide)]
    exact hT2
  generalize zsA σ2 184 0 (nI 1) = σ3 at u1 u2 u3 u4 u5 h46' hT3 ⊢
  have hF3 := zFq_t hF2 u1
  have hM3 := zMb_q hF3 hM
  refine p_told hM3 hT3 hx ?_
  clear mK0 mQ1 mK1 mN1 mQ6 mK6 mN6 mQ7 mK7 mN7 mQ8 mK8 mN8 mQ9 mK9 mN9 mQ10 mK10 mN10 mQ11 mK11 mN11 mQ21 mK21 mN21 mQ22 mK22 mN22 mQ23 mK23 mN23 mQ24 mK24 mN24 mQ25 mK25 mN25 mQ26 mK26 mN26 mQ27 mK27 mN27 mQ28 mK28 mN28 mQ32 mK32 mN32 mQ33 mK33 mN33 mQ34 mK34 mN34 mQ35 mK35 mN35 mQ40 mK40 mN40 mQ41 mK41 mN41 mQ42 mK42 mN42 mQ43 mK43 mN43 mQ44 mK44 mN44 mQ45 mK45 mN45 mQ62 mK62 mN62
  have ⟨mK0, mQ1, mK1, mN1, mQ6, mK6, mN6, mQ7, mK7, mN7, mQ8, mK8, mN8, mQ9, mK9, mN9, mQ10, mK10, mN10, mQ11, mK11, mN11, mQ21, mK21, mN21, mQ22, mK22, mN22, mQ23, mK23, mN23, mQ24, mK24, mN24, mQ25, mK25, mN25, mQ26, mK26, mN26, mQ27, mK27, mN27, mQ28, mK28, mN28, mQ32, mK32, mN32, mQ33, mK33, mN33, mQ34, mK34, mN34, mQ35, mK35, mN35, mQ40, mK40, mN40, mQ41, mK41, mN41, mQ42, mK42, mN42, mQ43, mK43, mN43, mQ44, mK44, mN44, mQ45, mK45, mN45, mQ62, mK62, mN62⟩ := hM3
  obtain ⟨w1, w2, w3, w4, w5⟩ := zWr2 σ3 0 (lN (zkR (row, [], [], [], 0))) (lN 0)
  rw [zql_s, mQ43, mK42, mN42, mK43, mN43, (zRk_q hF3 hRk).2.2.1, show zkRP (zpl (row, [], [], [], 0)) 0 = zkR (row, [], [], [], 0) from rfl]
  refine ⟨rfl, vp_in_nI (by omega) (by omega), mK0, rfl, vp_in_nI (by omega) (by omega), ?_⟩
  have hF4 := zFq_t hF3 w1
  have hqs : zQS (zsB (zsB σ3 182 0 (lN (zkR (row, [], [], [], 0)))) 183 0 (lN 0)) 0 (zeR [((row, [], [], [], 0), [])]) := by
    refine zQS_pl (n := n) (k := 8) (by rw [w4, u2, zu_same]; rfl) (by simp) ?_ (fun e he => by simp only [List.mem_singleton] at he; rw [he]; exact ⟨hx, ⟨by simp, by simp⟩⟩) (by decide)
    intro j y q hj
    have hj0 : j = 0 := by
      rcases Nat.lt_or_ge j 1 with h | h
      · omega
      · rw [List.getElem?_eq_none (by simpa using h)] at hj; simp at hj
    subst hj0
    simp only [List.getElem?_cons_zero, Option.some.injEq, Prod.mk.injEq] at hj
    rw [w2, w3, ← hj.1, ← hj.2, show 3001 * 0 + 0 = 0 from rfl, zu_same, zu_same]
    exact ⟨rfl, rfl⟩
  have h46'' : zI (zsB (zsB σ3 182 0 (lN (zkR (row, [], [], [], 0)))) 183 0 (lN 0)) 160 46 = nI 0 := by rw [w5]; exact h46'
  generalize zsB (zsB σ3 182 0 (lN (zkR (row, [], [], [], 0)))) 183 0 (lN 0) = σ4 at hF4 hqs h46'' ⊢
  refine b187 ?_
  refine l_rgo (bk := bk) hb hRk.2.2.2.1 f d 4 0 St.length 0 0 1 rfl hwf (Nat.le_refl _) (by omega) (by omega) 0 [((row, [], [], [], 0), [])] σ4 _ (zMb_q hF4 hM) (zDR_q hF4 hD) (zRk_q hF4 hRk) hqs (fun e he => by simp only [List.mem_singleton] at he; rw [he]; exact ⟨hx, ⟨Nat.le_refl _, by simp⟩⟩) (by simp [zSnd]) h46'' (by omega) (fun τ lg' hr => ?_)
  obtain ⟨p1, p2, p3, p4⟩ := hr
  have hF5 := zFq_t hF4 p1
  rw [zqv_s, p3]
  refine ⟨(zMb_q hF5 hM).1, ?_⟩
  have hres : zgo D St f 0 St.length [((row, [], [], [], 0), [])] = zrunS D St f (row, [], [], [], 0) := rfl
  rw [hres] at p4
  cases hz : zrunS D St f (row, [], [], [], 0) with
  | none =>
    rw [hz] at p4
    simp only at p4
    rw [p4, if_neg (by decide)]
    exact hQ0 hz τ hF5
  | some L =>
    rw [hz] at p4
    simp only at p4
    obtain ⟨q1, q2, q3, q4⟩ := p4
    rw [q1, if_pos (by decide)]
    exact l_rjudge (d := d + 5) (σ0 := τ) (zMb_q hF5 hM) (zDR_q hF5 hD) hb (zRcl_q hF5 hCl) q2 (zSok_m q3 (by omega)) (fun υ r1 r2 => hQ1 L hz υ (zFq_t hF5 r1) r2) L 0 0 none τ (by omega) rfl (zFq_r τ) (zSame_r τ 0) (by omega) (Nat.zero_add _) rfl (fun r hr => by simp at hr)
