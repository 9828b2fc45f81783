/-! judge, lookAtAllEnds -/
def zClm (σ : zH) (o : Nat) (cs : List zCd) : Prop := zCo σ o ∧ zI σ o 3 = nI cs.length ∧ cs.length ≤ 450 ∧ zCls σ o 0 cs ∧ (∀ c ∈ cs, zvc c) ∧ zsafe cs 0
theorem zClm_fr {lo hi : Nat} {σ τ : zH} (h : zFr lo hi σ τ) {o : Nat} {cs : List zCd} (hs : o + 4 ≤ lo ∨ hi ≤ o) (hO : zClm σ o cs) : zClm τ o cs := by
  obtain ⟨h1, h2, h3, h4, h5⟩ := hO
  exact ⟨zCo_fr h hs h1, by rw [(zFr_o h (a := o) (by omega)).1]; exact h2, h3, zCls_fr h hs h4, h5⟩
theorem p_met0 {d t n mk o : Nat} {σ : zH} {D : zDT} {P : Nat → List Nat} (hT : zTc σ t P mk) (ht : 8 < t) (hD : zDk σ D n) (hV : zVP n P mk) (hb : zDb D) {cs : List zCd} (hO : zClm σ o cs) (ho : o + 3 < t + 1 ∨ t + 3 < o + 1) {Q : Option Value → zH → Prop} (hQ : Q (some (.int (nI (zbn1 (ztop (zev (zct D mk P) cs [])))))) σ) : zM (d + 4) 5 [.ref o, .ref t, .int (nI 0), .int (nI cs.length)] σ Q := by
  have h := p_met (d := d) (i := 0) hT ht hD hV hb hO.1 ho (by rw [Nat.zero_add]; exact hO.2.2.1) hO.2.2.2.1 hO.2.2.2.2.1 hO.2.2.2.2.2 hQ
  rw [Nat.zero_add] at h
  exact h
theorem zSp_I {σ : zH} {nw nx : Nat} {wt : Nat → Nat} {C : Nat → List (Nat × Nat)} {lg : Bool} (h : zSp σ nw nx wt C lg) {j : Nat} (hj : j ≠ 4) (v : Int32) : zSp (zsI σ 18 j v) nw nx wt C lg := by
  have hf : zFr 18 19 σ (zsI σ 18 j v) := zFr_sI j _ (by omega) (by omega)
  obtain ⟨a, b1, c, d1, e1, f1⟩ := h
  refine ⟨a, zTb_fr hf (by omega) b1, c, d1, fun w hw => zWc_fr hf (by have := zWs_t hw; omega) (e1 w hw), ?_⟩
  simp only [zh]
  rw [if_neg (by omega)]
  exact f1
theorem zSp_J {σ : zH} {nw nx : Nat} {wt : Nat → Nat} {C : Nat → List (Nat × Nat)} {lg : Bool} (h : zSp σ nw nx wt C lg) (j : Nat) (v : Int64) : zSp (zsJ σ 18 j v) nw nx wt C lg := by
  have hf : zFr 18 19 σ (zsJ σ 18 j v) := zFr_sJ j _ (by omega) (by omega)
  obtain ⟨a, b1, c, d1, e1, f1⟩ := h
  exact ⟨a, zTb_fr hf (by omega) b1, c, d1, fun w hw => zWc_fr hf (by have := zWs_t hw; omega) (e1 w hw), f1⟩
/-- of how many it holds; the first row with which it does not -/
def zcnt (D : zDT) (cs : List zCd) : zSt → Nat
  | [] => 0
  | e :: E => (if zmeet D cs e.1 then 1 else 0) + zcnt D cs E
def zbk (D : zDT) (cs : List zCd) : Option (List Nat) → zSt → Option (List Nat)
  | acc, [] => acc
  | acc, e :: E => if zmeet D cs e.1 then zbk D cs acc E else zbk D cs (some (match acc with | none => e.2 | some a => zrmin a e.2)) E
theorem zbk_c (D : zDT) (cs : List zCd) (acc : Option (List Nat)) (e : zTS × List Nat) (E : zSt) : zbk D cs acc (e :: E) = if zmeet D cs e.1 then zbk D cs acc E else zbk D cs (some (match acc with | none => e.2 | some a => zrmin a e.2)) E := by cases acc <;> rfl
def zbC (o : Option (List Nat)) : Int64 := match o with | none => Int64.ofInt (-1) | some r => lN (zrC r)
theorem zbC_m1 {r : List Nat} (h : zrok 8 r) : ¬ lN (zrC r) = Int64.ofInt (-1) := by
  intro q
  have h1 := zrC_lt h
  have h2 := congrArg Int64.toInt q
  rw [pk_lT (by omega)] at h2
  have h3 : (Int64.ofInt (-1)).toInt = -1 := by decide
  omega
set_option maxHeartbeats 4000000 in
theorem l_judge {d n o nw nx : Nat} {wt : Nat → Nat} {C : Nat → List (Nat × Nat)} {σ0 : zH} {D : zDT} {L : zSt} {cs : List zCd} (hb : zDb D) (ho : 54 ≤ o) (hO : zClm σ0 o cs) (hD : zDk σ0 D n) (hL0 : C nw = zeC L) (hLk : zSok n 8 L) {Q : Option Value → zH → Prop} (hQ : ∀ τ, zSp τ nw nx wt C false → zFr 18 54 σ0 τ → zI τ 18 5 = nI L.length → zI τ 18 6 = nI (zcnt D cs L) → zJ τ 18 7 = zbC (zbk D cs none L) → (∀ r, zbk D cs none L = some r → zrok 8 r) → Q none τ) : ∀ (E : zSt) (i c : Nat) (acc : Option (List Nat)) (σ : zH), i ≤ L.length → L.drop i = E → zSp σ nw nx wt C false → zFr 18 54 σ0 σ → zI σ 18 5 = nI L.length → zI σ 18 6 = nI c → c + zcnt D cs E = zcnt D cs L → zJ σ 18 7 = zbC acc → zbk D cs acc E = zbk D cs none L → (∀ r, acc = some r → zrok 8 r) → zW (d + 5) 48 25 [(0, .ref 18), (1, .ref o), (2, .int (nI i))] [] σ Q := by
  intro E
  induction E with
  | nil =>
    intro i c acc σ hiL hE hSp hF h5 h6 hc h7 hk hacc
    have ⟨⟨a1, a2, a3, a4, a5⟩, b1, ⟨c1, c2, c3⟩, ⟨d1, d2, d3⟩, e1, f1⟩ := hSp
    have hWn := e1 nw d1
    rw [hL0] at hWn
    obtain ⟨wn1, wn2, wn3⟩ := zWc_get hWn
    have hi : L.length ≤ i := List.drop_eq_nil_iff.mp hE
    refine b48_25 ?_
    rw [a1, c1, hWn.1.1, wn1, if_pos (nI_le hi (by omega))]
    simp only [zcnt, Nat.add_zero] at hc
    rw [zbk] at hk
    exact ⟨rfl, rfl, hQ σ hSp hF h5 (by rw [h6, hc]) (by rw [h7, hk]) (fun r hr => hacc r (by rw [hk]; exact hr))⟩
  | cons e E ih =>
    intro i c acc σ hiL hE hSp hF h5 h6 hc h7 hk hacc
    obtain ⟨x, r⟩ := e
    obtain ⟨hLi, hE2⟩ := zdrop_get hE
    have ⟨⟨a1, a2, a3, a4, a5⟩, b1, ⟨c1, c2, c3⟩, ⟨d1, d2, d3⟩, e1, f1⟩ := hSp
    have hWn := e1 nw d1
    rw [hL0] at hWn
    obtain ⟨wn1, wn2, wn3⟩ := zWc_get hWn
    obtain ⟨g1, g2, g3⟩ := wn3 i x r hLi
    have hb' := hWn.1
    have hcl : (nI i).toNatClampNeg = i := zcl i (by omega)
    have hxr : zVS n x ∧ zrok 8 r := hLk (x, r) (List.mem_of_getElem? hLi)
    refine b48_25 ?_
    rw [a1, c1, hWn.1.1, wn1, if_neg (fun q => by have := (nI_leI (by omega) (by omega)).mp q; omega)]
    refine ⟨rfl, rfl, ?_⟩
    rw [a2, hb'.2.1, hb'.2.2.2.2.2.1, hb'.2.2.2.2.2.2.2.2.2.1, hcl, g1]
    refine ⟨rfl, vp_in_nI (by omega) (by omega), b1.1, ?_⟩
    refine p_lay b1 (zDk_fr hF (by omega) hD) (by omega) hxr.1 (fun σ1 hF1 hT1 => ?_)
    have hSp1 := zSp_t hSp hF1 hT1.1
    have hF1' := zFr_t hF (zFr_m hF1 (by omega) (by omega))
    have hO1 := zClm_fr hF1' (by omega) hO
    rw [zqv_s, hSp1.1.2.1, hO1.2.1]
    refine ⟨hSp1.1.1, hO1.1.1, ?_⟩
    refine p_met0 hT1 (by omega) (zDk_fr hF1' (by omega) hD) hxr.1 hb hO1 (by omega) ?_
    rw [zqi_s]
    have hz : ztop (zev (zct D (zmk x) (zpl x)) cs []) = zmeet D cs x := rfl
    rw [hz]
    have o18 := zFr_o hF1 (a := 18) (by omega)
    have h5' : zI σ1 18 5 = nI L.length := by rw [o18.1]; exact h5
    have h6' : zI σ1 18 6 = nI c := by rw [o18.1]; exact h6
    have h7' : zJ σ1 18 7 = zbC acc := by rw [o18.2.1]; exact h7
    have hcl9 : zcnt D cs ((x, r) :: E) = (if zmeet D cs x then 1 else 0) + zcnt D cs E := rfl
    rw [hcl9] at hc
    cases hmt : zmeet D cs x with
    | true =>
      rw [if_neg (by decide), h6', nI_add, nI_add]
      rw [hmt] at hc
      simp only [if_true] at hc
      refine ⟨hSp1.1.1, ih (i + 1) (c + 1) acc _ (by omega) hE2 (zSp_I hSp1 (by decide) _) (zFr_t hF1' (zFr_sI 6 _ (by omega) (by omega))) ?_ ?_ (by omega) h7' ?_ hacc⟩
      · simp only [zh]; simpa using h5'
      · simp only [zh]; simp
      · rw [← hk, zbk_c, if_pos hmt]
    | false =>
      rw [hmt] at hc
      simp only [Bool.false_eq_true, if_false, Nat.zero_add] at hc
      rw [zbk_c] at hk
      simp only [hmt, Bool.false_eq_true, if_false] at hk
      have hWn1 := hSp1.2.2.2.2.1 nw d1
      rw [hL0] at hWn1
      obtain ⟨wm1, wm2, wm3⟩ := zWc_get hWn1
      obtain ⟨k1, k2, k3⟩ := wm3 i x r hLi
      have hb1 := hWn1.1
      rw [if_pos (by decide), h7', hSp1.2.2.1.1, hb1.1, hb1.2.2.1, hb1.2.2.2.2.2.2.1, hb1.2.2.2.2.2.2.2.2.2.2.1, k2, nI_add]
      refine ⟨hSp1.1.1, ?_⟩
      have hset : ∀ acc', acc' = some r → zbk D cs acc' E = zbk D cs none L → zW (d + 5) 48 25 [(0, .ref 18), (1, .ref o), (2, .int (nI (i + 1)))] [] (zsJ σ1 18 7 (lN (zrC r))) Q := by
        intro acc' ha hk'
        subst ha
        refine ih (i + 1) c (some r) _ (by omega) hE2 (zSp_J hSp1 7 _) (zFr_t hF1' (zFr_sJ 7 _ (by omega) (by omega))) h5' h6' hc ?_ hk' (fun r' hr' => by rw [← Option.some.inj hr']; exact hxr.2)
        simp only [zh]; simp [zbC]
      cases acc with
      | none =>
        rw [show zbC none = Int64.ofInt (-1) from rfl, if_pos ((lg_cmp_eq _ _).mpr rfl)]
        exact ⟨rfl, rfl, vp_in_nI (by omega) (by omega), hset _ rfl hk⟩
      | some a =>
        have ha := hacc a rfl
        rw [show zbC (some a) = lN (zrC a) from rfl, if_neg (fun q => zbC_m1 ha ((lg_cmp_eq _ _).mp q))]
        refine ⟨rfl, rfl, vp_in_nI (by omega) (by omega), ?_⟩
        have hlx := zrC_lx hxr.2 ha
        have hl1 := zrC_lt ha
        have hl2 := zrC_lt hxr.2
        simp only at hk
        by_cases hlt : zlx r a = true
        · rw [if_neg (fun q => ?_)]
          · exact hset _ rfl (by unfold zrmin at hk; rw [if_pos hlt] at hk; exact hk)
          · have h1 := (lg_cmp_ge _ _).mp q
            have h2 := (pk_lLE (show zrC a < 2 ^ 63 by omega) (show zrC r < 2 ^ 63 by omega)).mp h1
            have := hlx.1.mpr hlt
            omega
        · rw [if_pos ((lg_cmp_ge _ _).mpr ((pk_lLE (show zrC a < 2 ^ 63 by omega) (show zrC r < 2 ^ 63 by omega)).mpr (Nat.le_of_not_lt (fun q => hlt (hlx.1.mp q)))))]
          refine ih (i + 1) c (some a) _ (by omega) hE2 hSp1 hF1' h5' h6' hc h7' (by unfold zrmin at hk; rw [if_neg hlt] at hk; exact hk) hacc

/-- a row laid on a table -/
theorem p_layRow {d t n ra : Nat} {σ : zH} {D : zDT} {row : List Nat} (hT : zTb σ t) (hD : zDk σ D n) (ht : 8 < t) (hra : ra < t ∨ t + 4 ≤ ra) (ka : zK σ ra = 20) (na : zN σ ra = 9) (hn9 : n ≤ 9) (hrl : row.length = n) (hrow : ∀ i, i < n → zA σ ra i = nI (row.getD i 0)) {Q : Option Value → zH → Prop} (hQ : ∀ τ, zFr t (t + 4) σ τ → zTc τ t (zpl (row, [], [], [], 0)) 0 → Q none τ) : zM (d + 1) 57 [.ref t, .ref ra] σ Q := by
  have h := e_layRow (d := d) (n := n) (ly := zA σ (t + 1)) (hd := zA σ (t + 2)) (sz := zA σ (t + 3)) (mk := zI σ t 4) (Q := Q) hT ka na (by omega) (by omega) (by omega) hD.1 (by omega) hD.2.2.2.2.2.2.2.2.2.2.2.2.2.1 hn9 (hQ _ (zFr_Ta _ _ _ _ (by omega) (by omega)) ⟨zTa_b hT, ?_, (zTa_r σ t _ _ _ _).2.2.2⟩)
  · rw [zTa_self] at h
    exact h
  · rw [(zTa_r σ t _ _ _ _).1, (zTa_r σ t _ _ _ _).2.2.1]
    intro p hp
    rcases (show p = 0 ∨ p = 1 ∨ p = 2 ∨ p = 3 by omega) with rfl | rfl | rfl | rfl
    · refine ⟨by rw [zu_same]; show _ = nI row.length; rw [hrl], by show row.length ≤ 9; omega, fun i hi => ?_⟩
      have hi' : i < row.length := hi
      unfold zlr
      rw [if_pos (by omega), hrow _ (by omega)]
      show nI (row.getD (n - 1 - (16 * 0 + i)) 0) = nI (row.getD (row.length - 1 - i) 0)
      rw [show n - 1 - (16 * 0 + i) = row.length - 1 - i by omega]
    · exact ⟨by rw [zu_ne _ _ (by decide)]; unfold zfl; rw [if_pos (by omega)]; rfl, Nat.zero_le _, fun i hi => absurd hi (Nat.not_lt_zero i)⟩
    · exact ⟨by rw [zu_ne _ _ (by decide)]; unfold zfl; rw [if_pos (by omega)]; rfl, Nat.zero_le _, fun i hi => absurd hi (Nat.not_lt_zero i)⟩
    · exact ⟨by rw [zu_ne _ _ (by decide)]; unfold zfl; rw [if_pos (by omega)]; rfl, Nat.zero_le _, fun i hi => absurd hi (Nat.not_lt_zero i)⟩
theorem zVS_row {n : Nat} {row : List Nat} (hn9 : n ≤ 9) (hrl : row.length = n) (hrc : ∀ c ∈ row, zco c) : zVS n (row, [], [], [], 0) := by
  refine ⟨by unfold zTot zpl; simp [hrl], hn9, fun p hp c hc => ?_, Nat.zero_le _⟩
  rcases (show p = 0 ∨ p = 1 ∨ p = 2 ∨ p = 3 by omega) with rfl | rfl | rfl | rfl
  · exact hrc c hc
  · exact absurd hc (by simp [zpl])
  · exact absurd hc (by simp [zpl])
  · exact absurd hc (by simp [zpl])
def zrunS (D : zDT) (St : List zStp) (f : Nat) (x : zTS) : Option zSt := zgo D St f 0 St.length [(x, [])]
set_option maxHeartbeats 2000000 in
/-- lookAtAllEnds: from the row at a, whose cards are P0 -/
theorem p_look {d n o T ra nw nx f : Nat} {wt : Nat → Nat} {C : Nat → List (Nat × Nat)} {σ : zH} {D : zDT} {St : List zStp} {cs : List zCd} {row : List Nat} (hb : zDb D) (ho : 54 ≤ o) (hO : zClm σ o cs) (hD : zDk σ D n) (hT54 : 54 ≤ T) (hTr : zTrk σ T St) (hwf : zwf St f 0 St.length 0) (hch : zch St f 0 St.length ≤ 8) {lg0 : Bool} (hSp : zSp σ nw nx wt C lg0) (hDis : zDis 0 nw nx wt) (hn9 : n ≤ 9) (hra : (ra = 8 ∨ ra = 59)) (ka : zK σ ra = 20) (na : zN σ ra = 9) (hrl : row.length = n) (hrow : ∀ i, i < n → zA σ ra i = nI (row.getD i 0)) (hrc : ∀ c ∈ row, zco c) {Q : Option Value → zH → Prop} (hQ : ∀ τ nw' nx' wt' C' lg', zSp τ nw' nx' wt' C' lg' → zFr 18 54 σ τ → zDis 0 nw' nx' wt' → (match zrunS D St f (row, [], [], [], 0) with | some L => lg' = false ∧ zI τ 18 5 = nI L.length ∧ zI τ 18 6 = nI (zcnt D cs L) ∧ zJ τ 18 7 = zbC (zbk D cs none L) ∧ L.length ≤ 3000 ∧ (∀ r, zbk D cs none L = some r → zrok 8 r) | none => lg' = true) → Q none τ) : zM (d + 14) 47 [.ref 18, .ref T, .ref o, .ref ra] σ Q := by
  have ⟨⟨a1, a2, a3, a4, a5⟩, b1, ⟨c1, c2, c3⟩, ⟨d1, d2, d3⟩, e1, f1⟩ := hSp
  have hx := zVS_row hn9 hrl hrc
  have hn' := zWs_t d1
  refine b47 ?_
  rw [a1, c1]
  have hSp1 := zSp_lg hSp false
  have hF1 : zFr 18 54 σ (zsI σ 18 4 (nI (zbn1 false))) := zFr_sI 4 _ (by omega) (by omega)
  rw [show zsI σ 18 4 (nI 0) = zsI σ 18 4 (nI (zbn1 false)) from rfl]
  generalize zsI σ 18 4 (nI (zbn1 false)) = σ1 at hSp1 hF1 ⊢
  refine ⟨rfl, (e1 nw d1).1.1, p_wclear (hSp1.2.2.2.2.1 nw d1) (fun σ2 hF2 hW2 => ?_)⟩
  have hSp2 := zSp_w hSp1 d1 hF2 hW2
  have hF2' : zFr 18 54 σ σ2 := zFr_t hF1 (zFr_m hF2 (by omega) (by omega))
  rw [zqv_s, hSp2.1.1, hSp2.1.2.1]
  refine ⟨rfl, hSp2.2.1.1, p_layRow (d := d + 12) hSp2.2.1 (zDk_fr hF2' (by omega) hD) (by omega) (by omega) (by rw [hF2'.1]; exact ka) (by rw [hF2'.2.1]; exact na) hn9 hrl (fun i hi => by rw [(zFr_o hF2' (a := ra) (by omega)).2.2.2.1]; exact hrow i hi) (fun σ3 hF3 hT3 => ?_)⟩
  have hSp3 := zSp_t hSp2 hF3 hT3.1
  have hF3' : zFr 18 54 σ σ3 := zFr_t hF2' (zFr_m hF3 (by omega) (by omega))
  rw [zqv_s, hSp3.1.1, hSp3.1.2.1]
  refine ⟨rfl, hSp3.2.1.1, p_packed hT3 hx ?_⟩
  rw [zql_s, hSp3.2.2.1.1]
  have hWn := hSp3.2.2.2.2.1 nw d1
  rw [zu_same] at hWn
  have hk0 : zkey (zpl (row, [], [], [], 0)) 0 = zkC (row, [], [], [], 0) := rfl
  rw [hk0]
  refine ⟨hWn.1.1, p_wput (d := d + 12) (r := 0) hWn (zkC_lt hx) (by decide) (fun L' hL' σ4 hF4 hW4 => ?_) (fun hL' => by unfold zput at hL'; simp at hL')⟩
  have hL'' : L' = zeC [((row, [], [], [], 0), [])] := by
    unfold zput at hL'
    rw [if_pos (Or.inr (by decide))] at hL'
    exact (Option.some.inj hL').symm
  subst hL''
  have hSp4 := zSp_w hSp3 d1 hF4 hW4
  have hF4' : zFr 18 54 σ σ4 := zFr_t hF3' (zFr_m hF4 (by omega) (by omega))
  have hTr4 := zTrk_fr hF4' (by omega) hTr
  rw [zqi_s, hTr4.2.1, hSp4.1.1]
  refine ⟨hTr4.1.1, rfl, b49 ?_⟩
  rw [if_pos (nI_le (by decide) (by decide))]
  have hdos := l_dos (σ0 := σ) hb hT54 hTr hD f d 4 0 St.length 0 rfl hwf (Nat.le_refl _) 0 (Nat.le_refl _) 0 [((row, [], [], [], 0), [])] σ4 nw nx wt _ false (fun r σ116 => zqv r ((zK σ116 18 = 5) ∧ (if ¬ (zI σ116 18 4) = 0 then Q none σ116 else zM (d + 13) 48 [.ref 18, .ref o] σ116 (fun r σ119 => zqv r (Q none σ119))))) ⟨hSp4, hF4', hDis, fun _ => ⟨zu_same _ _ _, fun e he => by simp only [List.mem_singleton] at he; rw [he]; exact ⟨hx, ⟨Nat.le_refl _, by simp⟩⟩⟩⟩ (by omega)
  refine hdos (fun τ nw' nx' wt' C' lg' hp => ?_)
  obtain ⟨p1, p2, p3, p4, p5, p6, p7⟩ := hp
  simp only [Bool.false_eq_true, if_false] at p7
  rw [zqv_s, p1.1.1, p1.2.2.2.2.2]
  refine ⟨rfl, ?_⟩
  have hres : zgo D St f 0 St.length [((row, [], [], [], 0), [])] = zrunS D St f (row, [], [], [], 0) := rfl
  rw [hres] at p7
  cases hz : zrunS D St f (row, [], [], [], 0) with
  | none =>
    rw [hz] at p7
    simp only at p7
    rw [p7, if_pos (by decide)]
    refine hQ τ nw' nx' wt' C' lg' p1 p2 p3 ?_
    rw [hz]
    exact p7
  | some L =>
    rw [hz] at p7
    simp only at p7
    obtain ⟨l1, l2, l3⟩ := p7
    rw [l1] at p1
    rw [l1, if_neg (by decide)]
    have hWn' := p1.2.2.2.2.1 nw' p1.2.2.2.1.1
    rw [l2] at hWn'
    obtain ⟨wn1, wn2, wn3⟩ := zWc_get hWn'
    refine b48 ?_
    rw [p1.1.1, p1.2.2.1.1, wn1]
    refine ⟨rfl, hWn'.1.1, ?_⟩
    refine l_judge (d := d + 8) (σ0 := σ) hb ho hO hD l2 (zSok_m l3 (by omega)) (fun υ r1 r2 r3 r4 r5 r6 => ?_) L 0 0 none _ (by omega) rfl (zSp_J (zSp_I (zSp_I p1 (by decide) _) (by decide) _) 7 _) (zFr_t p2 (zFr_t (zFr_t (zFr_sI 5 _ (by omega) (by omega)) (zFr_sI 6 _ (by omega) (by omega))) (zFr_sJ 7 _ (by omega) (by omega)))) ?_ ?_ (Nat.zero_add _) ?_ rfl (fun r hr => by simp at hr)
    · rw [zqv_s]
      refine hQ υ nw' nx' wt' C' false r1 r2 p3 ?_
      rw [hz]
      exact ⟨rfl, r3, r4, r5, wn2, r6⟩
    · simp only [zh]; simp
    · simp only [zh]; simp
    · simp only [zh]; simp [zbC]
