theorem zSh_fr0 {σ τ : zH} {n : Nat} {B : List Nat} {pl : Int32} {st : zPf} {lo hi : Nat} (h : zFr lo hi σ τ) (hl : hi ≤ 54 ∨ 59 ≤ lo) (hS : zSh σ n B pl st) : zSh τ n B pl st := by
  obtain ⟨⟨a1, a2, a3, a4⟩, b1, b2, b3, b4, b5, b6, b7⟩ := hS
  have o54 := zFr_o h (a := 54) (by omega)
  exact ⟨⟨by rw [h.1]; exact a1, by rw [o54.2.2.1]; exact a2, by rw [o54.2.2.1]; exact a3, by rw [o54.2.2.1]; exact a4⟩, by rw [o54.1]; exact b1, by rw [o54.1]; exact b2, by rw [o54.1]; exact b3, by rw [o54.1]; exact b4, zTc_fr h (by omega) b5, b6, b7⟩
/-- the contract of the Show's doSteps -/
def zDP (D : zDT) (St : List zStp) (B : List Nat) (σ0 : zH) (T n d e f a b dp : Nat) (pl : Int32) : Prop := ∀ (σ : zH) (st : zPf) (Q : Option Value → zH → Prop), zSh σ n B pl st → zFr 54 59 σ0 σ → (∀ τ, zSh τ n B pl (zpf D St B f a b st) → zFr 54 59 σ0 τ → Q none τ) → zM (d + 2 * e + 5) 43 [.ref 54, .ref T, .int (nI a), .int (nI b), .int (nI dp)] σ Q
set_option maxHeartbeats 4000000 in
theorem l_show {n T : Nat} {σ0 : zH} {D : zDT} {St : List zStp} {B : List Nat} {pl : Int32} (hb : zDb D) (hT59 : 59 ≤ T) (hTr : zTrk σ0 T St) (hD : zDk σ0 D n) (hB : zTp σ0 B) : ∀ (f d e a b dp : Nat), e + dp = 4 → zwf St f a b dp → b ≤ St.length → ∀ (i : Nat), i ≤ a → ∀ (σ : zH) (st : zPf) (Q : Option Value → zH → Prop), zSh σ n B pl st → zFr 54 59 σ0 σ → (∀ τ, zSh τ n B pl (zpf D St B f a b st) → zFr 54 59 σ0 τ → Q none τ) → zW (d + 2 * e + 5) 43 13 [(0, .ref 54), (1, .ref T), (3, .int (nI b)), (4, .int (nI dp)), (5, .int (nI a)), (6, .int (nI i))] [] σ Q := by
  have h40 := hTr.2.2.1
  have hTs := hTr.1
  intro f
  induction f with
  | zero =>
    intro d e a b dp he hwf hbl i hi σ st Q hSh hF hQ
    have hab : a = b := hwf
    have hq : Q none σ := hQ σ hSh hF
    refine b43_13 ?_
    split
    · exact hq
    · rw [if_pos (nI_le (by omega) (by omega))]; exact hq
  | succ f ih =>
    intro d e a b dp he hwf hbl i hi σ st Q hSh hF hQ
    rw [zpf] at hQ
    have ⟨⟨a1, a2, a3, a4⟩, b1, b2, b3, b4, b5, b6, b7⟩ := hSh
    rcases hwf with hab | ⟨hab, hwf⟩
    · rw [if_pos (Or.inl (by omega))] at hQ
      have hq := hQ σ hSh hF
      refine b43_13 ?_
      split
      · exact hq
      · rw [if_pos (nI_le (by omega) (by omega))]; exact hq
    cases hst : st.1 with
    | true =>
      rw [if_pos (Or.inr hst)] at hQ
      have hq := hQ σ hSh hF
      refine b43_13 ?_
      rw [a1, b2, hst]
      split
      · exact hq
      · split
        · exact hq
        · rw [if_pos (by decide)]; exact ⟨rfl, hq⟩
    | false =>
      rw [if_neg (by rw [hst]; simp; omega)] at hQ
      have hTs' := zTs_fr hF (by omega) hTs
      have hCS := hTr.2.2.2 a (by omega)
      have hCS' := zCS_fr hF (show a < 40 by omega) (by omega) hCS
      have hcla : (nI a).toNatClampNeg = a := zcl a (by omega)
      have hA40 := hCS.2.2.2.1
      have hw12 := hCS.2.2.1
      refine b43_13 ?_
      rw [if_neg (nI_ge (by omega) (by omega)), if_neg (nI_ge hab (by omega)), a1, b2, hst, if_neg (by decide), hTs'.2.1, hTs'.2.2.2.1, hTs'.2.2.2.2.1, hcla, (hTs'.2.2.2.2.2.1 a (by omega)).1, (hTs'.2.2.2.2.2.1 a (by omega)).2, hCS'.1]
      refine ⟨rfl, hTs'.1, Or.inl rfl, vp_in_nI (by omega) (by omega), rfl, ?_⟩
      -- behind the step
      have cont : ∀ (st1 : zPf) (τ : zH), zwf St f (zpA (zSg St a)) b dp → a < zpA (zSg St a) → (∀ υ, zSh υ n B pl (zpf D St B f (zpA (zSg St a)) b (zdn1 st1)) → zFr 54 59 σ0 υ → Q none υ) → zSh τ n B pl st1 → zFr 54 59 σ0 τ → zW (d + 2 * e + 5) 43 120 [(0, .ref 54), (1, .ref T), (3, .int (nI b)), (4, .int (nI dp)), (6, .int (nI i)), (7, .ref (T + 6 + a))] [] τ Q := by
        intro st1 τ hwf1 hlt hQ1 hS1 hF1
        have ⟨⟨a1, a2, a3, a4⟩, b1, b2, b3, b4, b5, b6, b7⟩ := hS1
        have hTs1 := zTs_fr hF1 (by omega) hTs
        refine b43_120 ?_
        rw [a1, (hTs1.2.2.2.2.2.1 a (by omega)).2, b2, b3]
        refine ⟨rfl, rfl, ?_⟩
        have e1 : nI st1.2.2.2 + (if nI (zbn1 st1.1) = 0 then nI 1 else nI 0) = nI (zdn1 st1).2.2.2 := by
          unfold zdn1
          cases st1.1 with
          | true => rw [if_neg (by decide), nI_add]; rfl
          | false => rw [if_pos (by decide), nI_add]; rfl
        rw [e1]
        have hF2 : zFr 54 59 σ0 (zsI τ 54 5 (nI (zdn1 st1).2.2.2)) := zFr_t hF1 (zFr_sI 5 _ (by omega) (by omega))
        have hS2 : zSh (zsI τ 54 5 (nI (zdn1 st1).2.2.2)) n B pl (zdn1 st1) := by
          have hz : (zdn1 st1).1 = st1.1 ∧ (zdn1 st1).2.1 = st1.2.1 ∧ (zdn1 st1).2.2.1 = st1.2.2.1 := by
            unfold zdn1
            cases hq : st1.1 <;> simp [hq]
          unfold zSh
          rw [hz.1, hz.2.1, hz.2.2]
          refine ⟨⟨a1, a2, a3, a4⟩, ?_, ?_, ?_, ?_, zTc_sI b5 (by omega), b6, b7⟩ <;> simp only [zh] <;> simp <;> assumption
        generalize zsI τ 54 5 (nI (zdn1 st1).2.2.2) = τ2 at hF2 hS2 ⊢
        rw [(zCS_fr hF2 (show a < 40 by omega) (by omega) hCS).2.1, nI_add]
        exact ih d e (zpA (zSg St a)) b dp he hwf1 hbl (i + 1) (by omega) τ2 (zdn1 st1) Q hS2 hF2 hQ1
      rcases hwf with ⟨w10, wA, hwf1⟩ | ⟨w11, hdp, g1, g2, hwf1, hwf2⟩ | ⟨w12, hdp, g1, g2, g3, hwf1, hwf2, hwf3⟩
      · rw [if_pos (fun q => by have := (nI_eq (by omega) (by omega)).mp q; omega), if_pos (fun q => by have := (nI_eq (by omega) (by omega)).mp q; omega)]
        rw [if_neg (by omega), if_neg (by omega)] at hQ
        obtain ⟨hSr, hSw⟩ := hCS'.2.2.2.2.2.1 w10
        refine p_splain (d := d + 2 * e) (by omega) hSr hSw (zTp_fr hF (by omega) hB) hSh hst (fun τ hS1 hF1 => ?_)
        rw [zqv_s]
        exact cont _ τ (by rw [wA]; exact hwf1) (by omega) hQ hS1 (zFr_t hF hF1)
      · rw [if_neg (by rw [w11]; exact fun q => q rfl)]
        rw [if_pos w11] at hQ
        obtain ⟨e', rfl⟩ : ∃ e', e = e' + 1 := ⟨e - 1, by omega⟩
        obtain ⟨hI4, hh1, hh2⟩ := hCS.2.2.2.2.2.2.1 w11
        have loop : ∀ (m j : Nat), j + m = zpH (zSg St a) → ∀ τ st1, zSh τ n B pl st1 → zFr 54 59 σ0 τ → zit (fun s => zpf D St B f (a + 1) (zpA (zSg St a)) s) (zpH (zSg St a)) st = zit (fun s => zpf D St B f (a + 1) (zpA (zSg St a)) s) m st1 → zW (d + 2 * (e' + 1) + 5) 43 55 [(0, .ref 54), (1, .ref T), (3, .int (nI b)), (4, .int (nI dp)), (5, .int (nI a)), (6, .int (nI i)), (7, .ref (T + 6 + a)), (8, .int (nI j))] [] τ Q := by
          intro m
          induction m with
          | zero =>
            intro j hj τ st1 hS1 hF1 hr
            have hTs1 := zTs_fr hF1 (by omega) hTs
            have hCS1 := zCS_fr hF1 (show a < 40 by omega) (by omega) hCS
            refine b43_55 ?_
            rw [(hTs1.2.2.2.2.2.1 a (by omega)).2, (hCS1.2.2.2.2.2.2.1 w11).1, if_pos (nI_le (by omega) (by omega))]
            rw [hr, zit] at hQ
            exact ⟨rfl, cont st1 τ hwf2 g1 hQ hS1 hF1⟩
          | succ m ihm =>
            intro j hj τ st1 hS1 hF1 hr
            have hTs1 := zTs_fr hF1 (by omega) hTs
            have hCS1 := zCS_fr hF1 (show a < 40 by omega) (by omega) hCS
            refine b43_55 ?_
            rw [(hTs1.2.2.2.2.2.1 a (by omega)).2, (hCS1.2.2.2.2.2.2.1 w11).1, if_neg (nI_ge (by omega) (by omega)), hCS1.2.1, nI_add, nI_add, nI_add]
            refine ⟨rfl, hS1.1.1, ?_⟩
            rw [show d + 2 * (e' + 1) + 4 = (d + 1) + 2 * e' + 5 by omega]
            refine b43 ?_
            rw [if_pos (nI_le (by omega) (by omega))]
            refine ih (d + 1) e' (a + 1) (zpA (zSg St a)) (dp + 1) (by omega) hwf1 (by omega) 0 (by omega) τ st1 _ hS1 hF1 (fun υ hS2 hF2 => ?_)
            rw [zqv_s, show d + 1 + 2 * e' + 5 + 1 = d + 2 * (e' + 1) + 5 by omega]
            exact ihm (j + 1) (by omega) υ _ hS2 hF2 (by rw [hr, zit])
        exact loop (zpH (zSg St a)) 0 (by omega) σ st hSh hF rfl
      · rw [if_pos (by rw [w12]; decide), if_neg (by rw [w12]; exact fun q => q rfl)]
        rw [if_neg (by omega), if_pos w12] at hQ
        obtain ⟨e', rfl⟩ : ∃ e', e = e' + 1 := ⟨e - 1, by omega⟩
        have ds : ∀ a' b', zwf St f a' b' (dp + 1) → b' ≤ St.length → zDP D St B σ0 T n d e' f a' b' (dp + 1) pl := by
          intro a' b' hw' hb' σ' st' Q' hS' hF' hQ'
          refine b43 ?_
          rw [if_pos (nI_le (by omega) (by omega))]
          exact ih d e' a' b' (dp + 1) (by omega) hw' hb' 0 (by omega) σ' st' Q' hS' hF' hQ'
        rw [show d + 2 * (e' + 1) + 4 = d + 2 * e' + 6 by omega]
        obtain ⟨i0, j, i1, i2, i3, i4, i5, i6⟩ := hCS'.2.2.2.2.2.2.2 w12
        refine b44 ?_
        rw [hTs'.2.1, hTs'.2.2.1, hTs'.2.2.2.1, hTs'.2.2.2.2.1, hcla, (hTs'.2.2.2.2.2.1 a (by omega)).1, (hTs'.2.2.2.2.2.1 a (by omega)).2, i1, i2, a4, nI_add, nI_add]
        refine ⟨hTs'.1, Or.inl rfl, vp_in_nI (by omega) (by omega), a1, rfl, hTs'.2.2.2.2.2.2.1, ?_⟩
        refine p_met (d := d + 2 * e' + 1) b5 (by omega) (zDk_fr hF (by omega) hD) b7 hb hTs'.2.2.2.2.2.2 (by omega) i3 i4 i5 i6 ?_
        rw [zqi_s, show ztop (zev (zct D (zmk st.2.1) (zpl st.2.1)) (zpC (zSg St a)) []) = zmeet D (zpC (zSg St a)) st.2.1 from rfl, i0, hCS'.2.1]
        have h26 : d + 2 * (e' + 1) + 5 = d + 2 * e' + 6 + 1 := by omega
        rw [h26] at cont
        cases hm : zmeet D (zpC (zSg St a)) st.2.1 with
        | true =>
          rw [hm, if_pos rfl] at hQ
          rw [if_neg (by decide)]
          refine ⟨(hTs'.2.2.2.2.2.1 a (by omega)).2, a1, ds _ _ hwf1 (by omega) σ st _ hSh hF (fun τ hS1 hF1 => ?_)⟩
          rw [zqv_s, zqv_s]
          exact cont _ τ hwf3 (by omega) hQ hS1 hF1
        | false =>
          rw [hm, if_neg (by decide)] at hQ
          rw [if_pos (by decide)]
          refine ⟨(hTs'.2.2.2.2.2.1 a (by omega)).2, a1, ds _ _ hwf2 (by omega) σ st _ hSh hF (fun τ hS1 hF1 => ?_)⟩
          rw [zqv_s, zqv_s]
          exact cont _ τ hwf3 (by omega) hQ hS1 hF1
