theorem zDis_up {dp nw nx : Nat} {wt : Nat → Nat} (h : zDis dp nw nx wt) : zDis (dp + 1) nw nx wt := ⟨h.1, fun j h1 h2 => h.2.1 j (by omega) h2, fun i j h1 h2 h3 h4 => h.2.2 i j (by omega) h2 (by omega) h4⟩
theorem zfilter_ok {n k : Nat} {L : zSt} (h : zSok n k L) (p : zTS × List Nat → Bool) : zSok n k (L.filter p) := fun e he => h e (List.mem_filter.mp he).1
set_option maxHeartbeats 4000000 in
theorem p_doIf {d e f n k T a dp nw nx : Nat} {wt : Nat → Nat} {C : Nat → List (Nat × Nat)} {σ0 σ : zH} {D : zDT} {St : List zStp} {L : zSt} (hb : zDb D) (hT54 : 54 ≤ T) (ha40 : a < 40) (hTs : zTs σ0 T) (hCS : zCS σ0 T a (zSg St a)) (h12 : zpW (zSg St a) = 12) (hD : zDk σ0 D n) (hdp : dp < 4) (H1 : zDS D St σ0 T n d e f (a + 1) (zpM (zSg St a)) (dp + 1)) (H2 : zDS D St σ0 T n d e f (zpM (zSg St a)) (zpA (zSg St a)) (dp + 1)) (hP : zPre σ0 σ dp n k nw nx wt C false L) (hk : k + (zch St f (a + 1) (zpM (zSg St a)) + zch St f (zpM (zSg St a)) (zpA (zSg St a))) ≤ 8) {Q : Option Value → zH → Prop} (hQ : ∀ τ nw' nx' wt' C' lg', zPos σ0 τ dp n (k + (zch St f (a + 1) (zpM (zSg St a)) + zch St f (zpM (zSg St a)) (zpA (zSg St a)))) nw nx wt C (match zgo D St f (a + 1) (zpM (zSg St a)) (L.filter (fun e => zmeet D (zpC (zSg St a)) e.1)) with | none => none | some M1 => match zgo D St f (zpM (zSg St a)) (zpA (zSg St a)) (L.filter (fun e => !zmeet D (zpC (zSg St a)) e.1)) with | none => none | some M2 => zjn M2 M1) nw' nx' wt' C' lg' → Q none τ) : zM (d + 2 * e + 6) 52 [.ref 18, .ref T, .int (nI a), .int (nI dp)] σ Q := by
  obtain ⟨hSp, hF, hDis, hL⟩ := hP
  obtain ⟨hL0, hLk⟩ := hL rfl
  have ⟨⟨a1, a2, a3, a4, a5⟩, b1, ⟨c1, c2, c3⟩, ⟨d1, d2, d3⟩, e1, f1⟩ := hSp
  obtain ⟨ot, hot⟩ : ∃ ot, ot = wt dp := ⟨_, rfl⟩
  have hwo : zWs ot := by rw [hot]; exact d3 dp hdp
  have hno : nw ≠ ot := fun q => (hDis.2.1 dp (by omega) hdp).1 (by rw [← hot]; exact q.symm)
  have hxo : nx ≠ ot := fun q => (hDis.2.1 dp (by omega) hdp).2 (by rw [← hot]; exact q.symm)
  have hTs' := zTs_fr hF (by omega) hTs
  have hwx' := zWs_t d2
  have hwo' := zWs_t hwo
  have hcl : (nI dp).toNatClampNeg = dp := zcl dp (by omega)
  have hcla : (nI a).toNatClampNeg = a := zcl a (by omega)
  refine b52 ?_
  rw [if_pos (nI_lt hdp (by omega)), hTs'.2.1, hTs'.2.2.2.1, hTs'.2.2.2.2.1, a3, a4, a5, hcl, hcla, c3 dp hdp, (hTs'.2.2.2.2.2.1 a ha40).1, ← hot]
  refine ⟨hTs'.1, Or.inl rfl, vp_in_nI (by omega) (by omega), a1, Or.inr rfl, vp_in_nI (by omega) (by omega), (e1 ot hwo).1.1, ?_⟩
  refine p_wclear (e1 ot hwo) (fun σ1 hF1 hW1 => ?_)
  have hSp1 := zSp_w hSp hwo hF1 (L := zeC []) hW1
  rw [zqv_s, hSp1.2.2.1.2.1]
  refine ⟨hSp1.1.1, (hSp1.2.2.2.2.1 nx d2).1.1, p_wclear (hSp1.2.2.2.2.1 nx d2) (fun σ2 hF2 hW2 => ?_)⟩
  rw [zqv_s]
  have hSp2 := zSp_w hSp1 d2 hF2 (L := zeC []) hW2
  have hF2' : zFr 18 54 σ0 σ2 := zFr_t hF (zFr_t (zFr_m hF1 (by omega) (by omega)) (zFr_m hF2 (by omega) (by omega)))
  refine l_part (d := d + 2 * e + 1) (C0 := C) (k := k) hb hT54 ha40 hTs hCS h12 hD d1 d2 hwo hDis.1 hno hxo hL0 hLk (by omega) (fun τ C' q1 q2 q3 q4 q5 => ?_) L.length 0 (by omega) σ2 _ hSp2 hF2' (fun w h1 h2 h3 => by rw [zu_ne _ _ h2, zu_ne _ _ h3]) (zu_same _ _ _) (by rw [zu_ne _ _ (fun q => hxo q.symm), zu_same]; rfl)
  -- both sides are there: the first one
  have ⟨⟨a1', a2', a3', a4', a5'⟩, b1', ⟨c1', c2', c3'⟩, d1', e1', f1'⟩ := q1
  have hWn := e1' nw d1
  rw [q3 nw d1 hDis.1 hno, hL0] at hWn
  obtain ⟨wn1, wn2, wn3⟩ := zWc_get hWn
  refine b52_37 ?_
  rw [a1', c1', hWn.1.1, wn1, if_pos (nI_le (Nat.le_refl _) (by omega))]
  refine ⟨rfl, rfl, b51 ?_⟩
  rw [c1', c2']
  refine ⟨a1', ?_⟩
  rw [zqv_s]
  have hSp3 := zSp_ex q1
  have hF3 : zFr 18 54 σ0 (zsQ (zsQ τ 18 1 nx) 18 2 nw) := zFr_t q2 (zFr_t (zFr_sQ 1 _ (by omega) (by omega)) (zFr_sQ 2 _ (by omega) (by omega)))
  generalize zsQ (zsQ τ 18 1 nx) 18 2 nw = τ3 at hSp3 hF3 ⊢
  have hTs3 := zTs_fr hF3 (by omega) hTs
  have hCS3 := zCS_fr hF3 ha40 (by omega) hCS
  rw [(hCS3.2.2.2.2.2.2.2 h12).1, nI_add, nI_add]
  refine ⟨(hTs3.2.2.2.2.2.1 a ha40).2, hSp3.1.1, ?_⟩
  have hDis3 : zDis (dp + 1) nx nw wt := by
    have h := zDis_up hDis
    exact ⟨fun q => h.1 q.symm, fun j h1 h2 => ⟨(h.2.1 j h1 h2).2, (h.2.1 j h1 h2).1⟩, h.2.2⟩
  have hoa : ¬ zAct (dp + 1) nx nw wt ot := by
    rintro (h | h | ⟨j, h1, h2, h3⟩)
    · exact hxo h.symm
    · exact hno h.symm
    · have := hDis.2.2 dp j (by omega) hdp (by omega) h2 (by rw [← hot]; exact h3)
      omega
  refine H1 k _ τ3 nx nw wt C' false _ ⟨hSp3, hF3, hDis3, fun _ => ⟨q4, zfilter_ok hLk _⟩⟩ (by omega) (fun σ4 nw1 nx1 wt1 C1 lg1 p1 => ?_)
  simp only [Bool.false_eq_true, if_false] at p1
  have ⟨s1, s2, s3, s4, s5, s6, s7⟩ := p1
  have hC1o : C1 ot = zeC (L.filter (fun e => !zmeet D (zpC (zSg St a)) e.1)) := by rw [s6 ot hwo hoa]; exact q5
  have hwt1 : wt1 dp = ot := by rw [s4 dp (by omega), hot]
  have act1 : ∀ w, zAct (dp + 1) nw1 nx1 wt1 w → zAct dp nw nx wt w ∧ w ≠ ot := by
    intro w hw
    have h := s5 w hw
    refine ⟨?_, fun q => hoa (by rw [← q]; exact h)⟩
    rcases h with h | h | ⟨j, h1, h2, h3⟩
    · exact Or.inr (Or.inl h)
    · exact Or.inl h
    · exact Or.inr (Or.inr ⟨j, by omega, h2, h3⟩)
  have hn1 : zWs nw1 := s1.2.2.2.1.1
  have hx1 : zWs nx1 := s1.2.2.2.1.2.1
  have hn1o : nw1 ≠ ot := (act1 nw1 (Or.inl rfl)).2
  have hx1o : nx1 ≠ ot := (act1 nx1 (Or.inr (Or.inl rfl))).2
  have hj1o : ∀ j, dp + 1 ≤ j → j < 4 → wt1 j ≠ ot := fun j h1 h2 => (act1 (wt1 j) (Or.inr (Or.inr ⟨j, h1, h2, rfl⟩))).2
  have hTs4 := zTs_fr s2 (by omega) hTs
  have hCS4 := zCS_fr s2 ha40 (by omega) hCS
  rw [zqv_s, (hCS4.2.2.2.2.2.2.2 h12).1, hCS4.2.1, s1.2.2.1.1]
  refine ⟨s1.1.1, (hTs4.2.2.2.2.2.1 a ha40).2, ?_⟩
  have hSp5 := zSp_nw s1 hwo
  have hF5 : zFr 18 54 σ0 (zsQ σ4 18 1 ot) := zFr_t s2 (zFr_sQ 1 _ (by omega) (by omega))
  generalize zsQ σ4 18 1 ot = σ5 at hSp5 hF5 ⊢
  have hDis5 : zDis (dp + 1) ot nx1 wt1 := ⟨fun q => hx1o q.symm, fun j h1 h2 => ⟨hj1o j h1 h2, (s3.2.1 j h1 h2).2⟩, s3.2.2⟩
  have hna : ¬ zAct (dp + 1) ot nx1 wt1 nw1 := by
    rintro (h | h | ⟨j, h1, h2, h3⟩)
    · exact hn1o h
    · exact s3.1 h
    · exact (s3.2.1 j h1 h2).1 h3.symm
  refine H2 k (L.filter (fun e => !zmeet D (zpC (zSg St a)) e.1)) σ5 ot nx1 wt1 C1 lg1 _ ⟨hSp5, hF5, hDis5, fun _ => ⟨hC1o, zfilter_ok hLk _⟩⟩ (by omega) (fun σ6 nw2 nx2 wt2 C2 lg2 p2 => ?_)
  have ⟨t1, t2, t3, t4, t5, t6, t7⟩ := p2
  have hC2n : C2 nw1 = C1 nw1 := t6 nw1 hn1 hna
  have hn2 : zWs nw2 := t1.2.2.2.1.1
  have act2 : ∀ w, zAct (dp + 1) nw2 nx2 wt2 w → zAct dp nw nx wt w ∧ w ≠ nw1 := by
    intro w hw
    have h := t5 w hw
    refine ⟨?_, fun q => hna (by rw [← q]; exact h)⟩
    rcases h with h | h | ⟨j, h1, h2, h3⟩
    · exact Or.inr (Or.inr ⟨dp, by omega, hdp, by rw [h]; exact hot⟩)
    · exact (act1 w (Or.inr (Or.inl h))).1
    · exact (act1 w (Or.inr (Or.inr ⟨j, h1, h2, h3⟩))).1
  have hn21 : nw2 ≠ nw1 := (act2 nw2 (Or.inl rfl)).2
  have fin : ∀ σ7 C3 lg3, zSp σ7 nw2 nx2 wt2 C3 lg3 → zFr 18 54 σ0 σ7 → (∀ w, zWs w → w ≠ nw1 → C3 w = C2 w) → (match (match zgo D St f (a + 1) (zpM (zSg St a)) (L.filter (fun e => zmeet D (zpC (zSg St a)) e.1)) with | none => none | some M1 => match zgo D St f (zpM (zSg St a)) (zpA (zSg St a)) (L.filter (fun e => !zmeet D (zpC (zSg St a)) e.1)) with | none => none | some M2 => zjn M2 M1) with | some M => lg3 = false ∧ C3 nw1 = zeC M ∧ zSok n (k + (zch St f (a + 1) (zpM (zSg St a)) + zch St f (zpM (zSg St a)) (zpA (zSg St a)))) M | none => lg3 = true) → zW (d + 2 * e + 6) 52 252 [(0, .ref 18), (3, .int (nI dp)), (6, .ref nw1)] [] σ7 Q := by
    intro σ7 C3 lg3 u1 u2 u3 u4
    refine b52_252 ?_
    rw [u1.1.2.2.1, u1.2.2.1.1, u1.1.2.2.2.1, u1.1.2.2.2.2, (u1.2.2.2.2.1 nw2 hn2).1.1, hcl]
    refine ⟨u1.1.1, Or.inr ⟨rfl, rfl⟩, vp_in_nI (by omega) (by omega), ?_⟩
    have hSp8 := zSp_nw (zSp_wt (i := dp) u1 hn2) hn1
    refine hQ _ nw1 nx2 (zu wt2 dp nw2) C3 lg3 ⟨hSp8, ?_, ?_, ?_, ?_, ?_, u4⟩
    · refine zFr_t u2 (zFr_t ?_ (zFr_sQ 1 _ (by omega) (by omega)))
      rw [zsS_w]
      exact zFr_wS _ (by omega) (by omega)
    · refine ⟨fun q => (act2 nx2 (Or.inr (Or.inl rfl))).2 q.symm, fun j h1 h2 => ?_, fun i j h1 h2 h3 h4 => ?_⟩
      · by_cases ej : j = dp
        · rw [ej, zu_same]
          exact ⟨hn21, t3.1⟩
        · rw [zu_ne _ _ ej]
          exact ⟨(act2 (wt2 j) (Or.inr (Or.inr ⟨j, by omega, h2, rfl⟩))).2, (t3.2.1 j (by omega) h2).2⟩
      · intro hij
        by_cases ei : i = dp
        · by_cases ej : j = dp
          · omega
          · rw [ei, zu_same, zu_ne _ _ ej] at hij
            exact absurd hij.symm (t3.2.1 j (by omega) h4).1
        · by_cases ej : j = dp
          · rw [ej, zu_same, zu_ne _ _ ei] at hij
            exact absurd hij (t3.2.1 i (by omega) h2).1
          · rw [zu_ne _ _ ei, zu_ne _ _ ej] at hij
            exact t3.2.2 i j (by omega) h2 (by omega) h4 hij
    · intro j hj
      rw [zu_ne _ _ (by omega), t4 j (by omega), s4 j (by omega)]
    · rintro w (h | h | ⟨j, h1, h2, h3⟩)
      · rw [h]; exact (act1 nw1 (Or.inl rfl)).1
      · rw [h]; exact (act2 nx2 (Or.inr (Or.inl rfl))).1
      · by_cases ej : j = dp
        · rw [ej, zu_same] at h3
          rw [h3]; exact (act2 nw2 (Or.inl rfl)).1
        · rw [zu_ne _ _ ej] at h3
          rw [h3]; exact (act2 (wt2 j) (Or.inr (Or.inr ⟨j, by omega, h2, rfl⟩))).1
    · intro w hw hn
      have w1 : w ≠ nw1 := fun q => hn (by rw [q]; exact (act1 nw1 (Or.inl rfl)).1)
      have w2 : ¬ zAct (dp + 1) ot nx1 wt1 w := by
        rintro (h | h | ⟨j, h1, h2, h3⟩)
        · exact hn (Or.inr (Or.inr ⟨dp, by omega, hdp, by rw [h]; exact hot⟩))
        · exact hn (act1 w (Or.inr (Or.inl h))).1
        · exact hn (act1 w (Or.inr (Or.inr ⟨j, h1, h2, h3⟩))).1
      have w3 : ¬ zAct (dp + 1) nx nw wt w := by
        rintro (h | h | ⟨j, h1, h2, h3⟩)
        · exact hn (Or.inr (Or.inl h))
        · exact hn (Or.inl h)
        · exact hn (Or.inr (Or.inr ⟨j, by omega, h2, h3⟩))
      rw [u3 w hw w1, t6 w hw w2, s6 w hw w3, q3 w hw (fun q => hn (Or.inr (Or.inl q))) (fun q => hn (Or.inr (Or.inr ⟨dp, by omega, hdp, by rw [q]; exact hot⟩)))]
  rw [zqv_s]
  cases hz1 : zgo D St f (a + 1) (zpM (zSg St a)) (L.filter (fun e => zmeet D (zpC (zSg St a)) e.1)) with
  | none =>
    rw [hz1] at s7 fin
    simp only at s7 fin
    rw [s7] at p2 t7
    simp only [if_true] at t7
    have ⟨⟨g1, g2, g3, g4, g5⟩, g6, ⟨g7, g8, g9⟩, g10, g11, g12⟩ := t1
    refine b52_190 ?_
    rw [g1, g7, (g11 nw2 hn2).1.1, g12, t7]
    refine ⟨rfl, rfl, ?_⟩
    have := fin σ6 C2 lg2 t1 t2 (fun w h1 h2 => rfl) t7
    split
    · exact this
    · rw [if_pos (by decide)]; exact this
  | some M1 =>
    rw [hz1] at s7 fin
    simp only at s7 fin
    rw [s7.1] at t7
    simp only [Bool.false_eq_true, if_false] at t7
    cases hz2 : zgo D St f (zpM (zSg St a)) (zpA (zSg St a)) (L.filter (fun e => !zmeet D (zpC (zSg St a)) e.1)) with
    | none =>
      rw [hz2] at t7 fin
      simp only at t7 fin
      have ⟨⟨g1, g2, g3, g4, g5⟩, g6, ⟨g7, g8, g9⟩, g10, g11, g12⟩ := t1
      refine b52_190 ?_
      rw [g1, g7, (g11 nw2 hn2).1.1, g12, t7]
      refine ⟨rfl, rfl, ?_⟩
      have := fin σ6 C2 lg2 t1 t2 (fun w h1 h2 => rfl) t7
      split
      · exact this
      · rw [if_pos (by decide)]; exact this
    | some M2 =>
      rw [hz2] at t7 fin
      simp only at t7 fin
      rw [t7.1] at t1
      refine l_join (d := d + 2 * e + 1) (C0 := C2) (k := k + (zch St f (a + 1) (zpM (zSg St a)) + zch St f (zpM (zSg St a)) (zpA (zSg St a)))) (M0 := M1) hn2 hn1 hn21 t7.2.1 (zSok_m t7.2.2 (by omega)) hk (fun τ C' lg' v1 v2 v3 v4 => fin τ C' lg' v1 v2 v3 v4) M2 0 M1 σ6 C2 false (by omega) rfl t1 t2 (fun w h1 h2 => rfl) ?_
      simp only [Bool.false_eq_true, if_false]
      exact ⟨by rw [hC2n]; exact s7.2.1, zSok_m s7.2.2 (by omega), trivial⟩
