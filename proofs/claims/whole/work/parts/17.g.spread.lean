theorem zPos_r {σ0 σ : zH} {dp n k nw nx : Nat} {wt : Nat → Nat} {C : Nat → List (Nat × Nat)} {lg : Bool} {res : Option zSt} (h1 : zSp σ nw nx wt C lg) (h2 : zFr 18 54 σ0 σ) (h3 : zDis dp nw nx wt) (h4 : match res with | some M => lg = false ∧ C nw = zeC M ∧ zSok n k M | none => lg = true) : zPos σ0 σ dp n k nw nx wt C res nw nx wt C lg := ⟨h1, h2, h3, fun _ _ => rfl, fun _ h => h, fun _ _ _ => rfl, h4⟩
theorem zPos_dn {σ0 τ : zH} {dp n k nw nx nw1 nx1 : Nat} {wt wt1 : Nat → Nat} {C C1 : Nat → List (Nat × Nat)} {lg1 : Bool} {res : Option zSt} (hdp : dp < 4) (hD : zDis dp nw nx wt) (h : zPos σ0 τ (dp + 1) n k nw nx wt C res nw1 nx1 wt1 C1 lg1) : zPos σ0 τ dp n k nw nx wt C res nw1 nx1 wt1 C1 lg1 := by
  obtain ⟨a1, a2, a3, a4, a5, a6, a7⟩ := h
  have hup : ∀ w, zAct (dp + 1) nw nx wt w → zAct dp nw nx wt w := by
    rintro w (h | h | ⟨j, h1, h2, h3⟩)
    · exact Or.inl h
    · exact Or.inr (Or.inl h)
    · exact Or.inr (Or.inr ⟨j, by omega, h2, h3⟩)
  have hno : ¬ zAct (dp + 1) nw nx wt (wt dp) := by
    rintro (h | h | ⟨j, h1, h2, h3⟩)
    · exact (hD.2.1 dp (by omega) hdp).1 h
    · exact (hD.2.1 dp (by omega) hdp).2 h
    · have := hD.2.2 dp j (by omega) hdp (by omega) h2 h3
      omega
  have hwd : wt1 dp = wt dp := a4 dp (by omega)
  refine ⟨a1, a2, ⟨a3.1, fun j h1 h2 => ?_, fun i j h1 h2 h3 h4 => ?_⟩, fun j hj => a4 j (by omega), ?_, fun w hw hn => a6 w hw (fun q => hn (hup w q)), a7⟩
  · by_cases e : j = dp
    · rw [e, hwd]
      exact ⟨fun q => hno (by rw [q]; exact a5 _ (Or.inl rfl)), fun q => hno (by rw [q]; exact a5 _ (Or.inr (Or.inl rfl)))⟩
    · exact a3.2.1 j (by omega) h2
  · intro hij
    by_cases ei : i = dp
    · by_cases ej : j = dp
      · omega
      · rw [ei, hwd] at hij
        exact absurd (a5 _ (Or.inr (Or.inr ⟨j, by omega, h4, rfl⟩))) (by rw [← hij]; exact hno)
    · by_cases ej : j = dp
      · rw [ej, hwd] at hij
        exact absurd (a5 _ (Or.inr (Or.inr ⟨i, by omega, h2, rfl⟩))) (by rw [hij]; exact hno)
      · exact a3.2.2 i j (by omega) h2 (by omega) h4 hij
  · rintro w (h | h | ⟨j, h1, h2, h3⟩)
    · exact hup _ (a5 w (Or.inl h))
    · exact hup _ (a5 w (Or.inr (Or.inl h)))
    · by_cases e : j = dp
      · rw [e, hwd] at h3
        exact Or.inr (Or.inr ⟨dp, by omega, hdp, h3⟩)
      · exact hup _ (a5 w (Or.inr (Or.inr ⟨j, by omega, h2, h3⟩)))
set_option maxHeartbeats 4000000 in
theorem l_dos {n T : Nat} {σ0 : zH} {D : zDT} {St : List zStp} (hb : zDb D) (hT54 : 54 ≤ T) (hTr : zTrk σ0 T St) (hD : zDk σ0 D n) : ∀ (f d e a b dp : Nat), e + dp = 4 → zwf St f a b dp → b ≤ St.length → ∀ (i : Nat), i ≤ a → ∀ (k : Nat) (L : zSt) (σ : zH) (nw nx : Nat) (wt : Nat → Nat) (C : Nat → List (Nat × Nat)) (lg : Bool) (Q : Option Value → zH → Prop), zPre σ0 σ dp n k nw nx wt C lg L → k + zch St f a b ≤ 8 → (∀ τ nw' nx' wt' C' lg', zPos σ0 τ dp n (k + zch St f a b) nw nx wt C (if lg then none else zgo D St f a b L) nw' nx' wt' C' lg' → Q none τ) → zW (d + 2 * e + 5) 49 13 [(0, .ref 18), (1, .ref T), (3, .int (nI b)), (4, .int (nI dp)), (5, .int (nI a)), (6, .int (nI i))] [] σ Q := by
  have h40 := hTr.2.2.1
  have hTs := hTr.1
  intro f
  induction f with
  | zero =>
    intro d e a b dp he hwf hbl i hi k L σ nw nx wt C lg Q hP hk hQ
    obtain ⟨hSp, hF, hDis, hL⟩ := hP
    have hab : a = b := hwf
    have hq : Q none σ := by
      refine hQ σ nw nx wt C lg (zPos_r hSp hF hDis ?_)
      cases lg with
      | true => simp
      | false => simp only [Bool.false_eq_true, if_false, zgo, zch, Nat.add_zero]; exact ⟨trivial, hL rfl⟩
    refine b49_13 ?_
    split
    · exact hq
    · rw [if_pos (nI_le (by omega) (by omega))]; exact hq
  | succ f ih =>
    intro d e a b dp he hwf hbl i hi k L σ nw nx wt C lg Q hP hk hQ
    have hP0 := hP
    obtain ⟨hSp, hF, hDis, hL⟩ := hP
    have ⟨⟨a1, a2, a3, a4, a5⟩, b1, ⟨c1, c2, c3⟩, ⟨d1, d2, d3⟩, e1, f1⟩ := hSp
    have stop : (if lg then none else zgo D St (f + 1) a b L) = (if lg then none else some L) → Q none σ := by
      intro hs
      refine hQ σ nw nx wt C lg (zPos_r hSp hF hDis ?_)
      rw [hs]
      cases lg with
      | true => simp
      | false => simp only [Bool.false_eq_true, if_false]; exact ⟨trivial, (hL rfl).1, zSok_m (hL rfl).2 (by omega)⟩
    rcases hwf with hab | ⟨hab, hwf⟩
    · have hz : zgo D St (f + 1) a b L = some L := by rw [zgo, if_pos (by omega)]
      have hq := stop (by rw [hz])
      refine b49_13 ?_
      split
      · exact hq
      · rw [if_pos (nI_le (by omega) (by omega))]; exact hq
    cases lg with
    | true =>
      refine b49_13 ?_
      have hq := stop rfl
      rw [a1, f1]
      split
      · exact hq
      · split
        · exact hq
        · rw [if_pos (by decide)]; exact ⟨rfl, hq⟩
    | false =>
      obtain ⟨hL0, hLk⟩ := hL rfl
      have hWn := e1 nw d1
      rw [hL0] at hWn
      obtain ⟨wn1, wn2, wn3⟩ := zWc_get hWn
      have hTs' := zTs_fr hF (by omega) hTs
      have hCS := hTr.2.2.2 a (by omega)
      have hCS' := zCS_fr hF (show a < 40 by omega) (by omega) hCS
      have hcla : (nI a).toNatClampNeg = a := zcl a (by omega)
      refine b49_13 ?_
      rw [if_neg (nI_ge (by omega) (by omega)), if_neg (nI_ge hab (by omega)), a1, f1, c1, hWn.1.1, wn1, if_neg (by decide)]
      refine ⟨rfl, rfl, ?_⟩
      by_cases hLe : L.length = 0
      · rw [if_pos (by rw [hLe]; decide)]
        refine stop ?_
        rw [List.length_eq_zero_iff.mp hLe, zgo_nil]
      rw [if_neg (nI_nle (by omega) (by omega)), hTs'.2.1, hTs'.2.2.2.1, hTs'.2.2.2.2.1, hcla, (hTs'.2.2.2.2.2.1 a (by omega)).1, (hTs'.2.2.2.2.2.1 a (by omega)).2, hCS'.1]
      refine ⟨hTs'.1, Or.inl rfl, vp_in_nI (by omega) (by omega), rfl, ?_⟩
      simp only [Bool.false_eq_true, if_false] at hQ
      have hw12 := hCS.2.2.1
      have hA40 := hCS.2.2.2.1
      have hM40 := hCS.2.2.2.2.1
      -- behind the step
      have cont : ∀ (c1 : Nat) (res1 : Option zSt), zwf St f (zpA (zSg St a)) b dp → a < zpA (zSg St a) → zgo D St (f + 1) a b L = (match res1 with | none => none | some L' => zgo D St f (zpA (zSg St a)) b L') → zch St (f + 1) a b = c1 + zch St f (zpA (zSg St a)) b → ∀ τ nw1 nx1 wt1 C1 lg1, zPos σ0 τ dp n (k + c1) nw nx wt C res1 nw1 nx1 wt1 C1 lg1 → zW (d + 2 * e + 5) 49 13 [(0, .ref 18), (1, .ref T), (3, .int (nI b)), (4, .int (nI dp)), (5, .int (nI (zpA (zSg St a)))), (6, .int (nI (i + 1)))] [] τ Q := by
        intro c1 res1 hwf1 hlt hg hc τ nw1 nx1 wt1 C1 lg1 hp1
        refine ih d e (zpA (zSg St a)) b dp he hwf1 hbl (i + 1) (by omega) (k + c1) (res1.getD []) τ nw1 nx1 wt1 C1 lg1 Q (zPos_pre hp1 _ (fun M' hM' => by rw [hM']; rfl)) (by omega) (fun υ nw2 nx2 wt2 C2 lg2 hp2 => hQ υ nw2 nx2 wt2 C2 lg2 ?_)
        have := zPos_t hp1 hp2
        rw [hg, hc, ← Nat.add_assoc]
        have h7 := hp1.2.2.2.2.2.2
        cases res1 with
        | none => simp only at h7 this ⊢; rw [h7] at this; simpa using this
        | some L' => simp only at h7 this ⊢; rw [h7.1] at this; simpa using this
      rcases hwf with ⟨w10, wA, hwf1⟩ | ⟨w11, hdp, g1, g2, hwf1, hwf2⟩ | ⟨w12, hdp, g1, g2, g3, hwf1, hwf2, hwf3⟩
      · -- a plain step
        rw [if_pos (fun q => by have := (nI_eq (by omega) (by omega)).mp q; omega), if_pos (fun q => by have := (nI_eq (by omega) (by omega)).mp q; omega)]
        obtain ⟨hSr, hSw⟩ := hCS'.2.2.2.2.2.1 w10
        have hz : zch St (f + 1) a b = zfr1 (zSg St a) + zch St f (zpA (zSg St a)) b := by rw [zch, if_neg (by omega), if_neg (by omega), if_neg (by omega)]
        refine p_plain (d := d + 2 * e) (k := k) (by omega) hSr hSw (zDk_fr hF (by omega) hD) hDis.1 hSp hL0 hLk (by omega) (fun τ C' lg' q1 q2 q3 q4 => ?_)
        have hF' := zFr_t hF q2
        rw [zqv_s, (zTs_fr hF' (by omega) hTs).2.2.2.2.2.1 a (by omega) |>.2, (zCS_fr hF' (show a < 40 by omega) (by omega) hCS).2.1, nI_add]
        refine ⟨rfl, cont (zfr1 (zSg St a)) (zall (zSg St a) L []) (by rw [wA]; exact hwf1) (by omega) (by rw [zgo, if_neg (by omega), if_neg (by omega), if_neg (by omega)]; cases zall (zSg St a) L [] <;> rfl) hz τ nx nw wt C' lg' ⟨q1, hF', ⟨fun q => hDis.1 q.symm, fun j h1 h2 => ⟨(hDis.2.1 j h1 h2).2, (hDis.2.1 j h1 h2).1⟩, hDis.2.2⟩, fun _ _ => rfl, ?_, fun w hw hn => q3 w hw (fun q => hn (Or.inr (Or.inl q))), q4⟩⟩
        rintro w (h | h | h)
        · exact Or.inr (Or.inl h)
        · exact Or.inl h
        · exact Or.inr (Or.inr h)
      · -- times
        rw [if_neg (by rw [w11]; exact fun q => q rfl)]
        obtain ⟨e', rfl⟩ : ∃ e', e = e' + 1 := ⟨e - 1, by omega⟩
        obtain ⟨hI4, hh1, hh2⟩ := hCS.2.2.2.2.2.2.1 w11
        have hz : zch St (f + 1) a b = zpH (zSg St a) * zch St f (a + 1) (zpA (zSg St a)) + zch St f (zpA (zSg St a)) b := by rw [zch, if_neg (by omega), if_pos w11]
        have hrest := cont (zpH (zSg St a) * zch St f (a + 1) (zpA (zSg St a))) (zrep (fun L => zgo D St f (a + 1) (zpA (zSg St a)) L) (zpH (zSg St a)) L) hwf2 g1 (by rw [zgo, if_neg (by omega), if_pos w11]; cases zrep (fun L => zgo D St f (a + 1) (zpA (zSg St a)) L) (zpH (zSg St a)) L <;> rfl) hz
        have loop : ∀ (m j : Nat), j + m = zpH (zSg St a) → ∀ τ nw1 nx1 wt1 C1 lg1 res1, zPos σ0 τ dp n (k + j * zch St f (a + 1) (zpA (zSg St a))) nw nx wt C res1 nw1 nx1 wt1 C1 lg1 → zrep (fun L => zgo D St f (a + 1) (zpA (zSg St a)) L) (zpH (zSg St a)) L = (match res1 with | none => none | some L' => zrep (fun L => zgo D St f (a + 1) (zpA (zSg St a)) L) m L') → zW (d + 2 * (e' + 1) + 5) 49 65 [(0, .ref 18), (1, .ref T), (3, .int (nI b)), (4, .int (nI dp)), (5, .int (nI a)), (6, .int (nI i)), (7, .ref (T + 6 + a)), (8, .int (nI j))] [] τ Q := by
          intro m
          induction m with
          | zero =>
            intro j hj τ nw1 nx1 wt1 C1 lg1 res1 hp1 hr
            have hTs1 := zTs_fr hp1.2.1 (by omega) hTs
            have hCS1 := zCS_fr hp1.2.1 (show a < 40 by omega) (by omega) hCS
            refine b49_65 ?_
            rw [(hTs1.2.2.2.2.2.1 a (by omega)).2, (hCS1.2.2.2.2.2.2.1 w11).1, if_pos (nI_le (by omega) (by omega)), hCS1.2.1, nI_add]
            refine ⟨rfl, hrest τ nw1 nx1 wt1 C1 lg1 ?_⟩
            rw [hr]
            have hj' : j = zpH (zSg St a) := by omega
            rw [hj'] at hp1
            cases res1 <;> exact hp1
          | succ m ihm =>
            intro j hj τ nw1 nx1 wt1 C1 lg1 res1 hp1 hr
            have hTs1 := zTs_fr hp1.2.1 (by omega) hTs
            have hCS1 := zCS_fr hp1.2.1 (show a < 40 by omega) (by omega) hCS
            refine b49_65 ?_
            rw [(hTs1.2.2.2.2.2.1 a (by omega)).2, (hCS1.2.2.2.2.2.2.1 w11).1, if_neg (nI_ge (by omega) (by omega)), hCS1.2.1, nI_add, nI_add, nI_add]
            refine ⟨rfl, hp1.1.1.1, ?_⟩
            have hjm : (j + 1) * zch St f (a + 1) (zpA (zSg St a)) ≤ zpH (zSg St a) * zch St f (a + 1) (zpA (zSg St a)) := Nat.mul_le_mul_right _ (by omega)
            rw [Nat.add_mul] at hjm
            rw [show d + 2 * (e' + 1) + 4 = (d + 1) + 2 * e' + 5 by omega]
            refine b49 ?_
            rw [if_pos (nI_le (by omega) (by omega))]
            have hpre := zPos_pre hp1 (res1.getD []) (fun M' hM' => by rw [hM']; rfl)
            refine ih (d + 1) e' (a + 1) (zpA (zSg St a)) (dp + 1) (by omega) hwf1 (by omega) 0 (by omega) (k + j * zch St f (a + 1) (zpA (zSg St a))) _ τ nw1 nx1 wt1 C1 lg1 _ ⟨hpre.1, hpre.2.1, zDis_up hpre.2.2.1, hpre.2.2.2⟩ (by omega) (fun υ nw2 nx2 wt2 C2 lg2 hp2 => ?_)
            have hp3 := zPos_t hp1 (zPos_dn hdp hp1.2.2.1 hp2)
            rw [zqv_s]
            have h7 := hp1.2.2.2.2.2.2
            rw [show d + 1 + 2 * e' + 5 + 1 = d + 2 * (e' + 1) + 5 by omega]
            refine ihm (j + 1) (by omega) υ nw2 nx2 wt2 C2 lg2 _ (by rw [Nat.add_mul, Nat.one_mul, ← Nat.add_assoc]; exact hp3) ?_
            rw [hr]
            cases res1 with
            | none => simp only at h7; rw [h7]; rfl
            | some L' => simp only at h7; rw [h7.1]; simp only [Bool.false_eq_true, if_false, zrep, Option.getD_some]; cases zgo D St f (a + 1) (zpA (zSg St a)) L' <;> rfl
        refine loop (zpH (zSg St a)) 0 (by omega) σ nw nx wt C false (some L) (zPos_r hSp hF hDis ?_) rfl
        exact ⟨rfl, hL0, zSok_m hLk (by omega)⟩
      · -- if
        rw [if_pos (by rw [w12]; decide), if_neg (by rw [w12]; exact fun q => q rfl)]
        obtain ⟨e', rfl⟩ : ∃ e', e = e' + 1 := ⟨e - 1, by omega⟩
        have hz : zch St (f + 1) a b = (zch St f (a + 1) (zpM (zSg St a)) + zch St f (zpM (zSg St a)) (zpA (zSg St a))) + zch St f (zpA (zSg St a)) b := by rw [zch, if_neg (by omega), if_neg (by omega), if_pos w12]
        have ds : ∀ a' b', zwf St f a' b' (dp + 1) → b' ≤ St.length → zDS D St σ0 T n d e' f a' b' (dp + 1) := by
          intro a' b' hw' hb' k' L' σ' nw' nx' wt' C' lg' Q' hP' hk' hQ'
          refine b49 ?_
          rw [if_pos (nI_le (by omega) (by omega))]
          exact ih d e' a' b' (dp + 1) (by omega) hw' hb' 0 (by omega) k' L' σ' nw' nx' wt' C' lg' Q' hP' hk' hQ'
        rw [show d + 2 * (e' + 1) + 4 = d + 2 * e' + 6 by omega]
        refine p_doIf (f := f) (k := k) (L := L) hb hT54 (by omega) hTs hCS w12 hD hdp (ds _ _ hwf1 (by omega)) (ds _ _ hwf2 (by omega)) hP0 (by omega) (fun τ nw1 nx1 wt1 C1 lg1 hp1 => ?_)
        rw [zqv_s, (zTs_fr hp1.2.1 (by omega) hTs).2.2.2.2.2.1 a (by omega) |>.2, (zCS_fr hp1.2.1 (show a < 40 by omega) (by omega) hCS).2.1, nI_add]
        refine ⟨rfl, cont _ _ hwf3 (by omega) ?_ hz τ nw1 nx1 wt1 C1 lg1 hp1⟩
        rw [zgo, if_neg (by omega), if_neg (by omega), if_pos w12]
        cases zgo D St f (a + 1) (zpM (zSg St a)) (L.filter (fun e => zmeet D (zpC (zSg St a)) e.1)) with
        | none => rfl
        | some M1 =>
          simp only
          cases zgo D St f (zpM (zSg St a)) (zpA (zSg St a)) (L.filter (fun e => !zmeet D (zpC (zSg St a)) e.1)) with
          | none => rfl
          | some M2 =>
            simp only
            cases zjn M2 M1 <;> rfl
