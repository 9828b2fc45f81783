/-! the class's split -/
theorem zif01 (b : Bool) : (if nI (zbn1 b) = 0 then nI 0 else nI 1) = nI (zbn1 b) := by cases b <;> decide
theorem zwdk_x {w : List Nat} (h : w.all zcR = true) : zwdk w = (if w.any zcD = false ∧ w.length ≤ 8 then zWL.idxOf w else if w.any zcA = false ∧ w.length ≤ 2 then 36 else 48) ∧ zwdv w = (if w.any zcA = false ∧ w.length ≤ 2 then w.foldl (fun a c => a * 10 + (c - 48)) 0 else 0) := by
  obtain ⟨h1, h2⟩ := zall_A h
  unfold zwdk zwdv
  rw [h1, h2]
  simp only [Bool.not_eq_true']
  exact ⟨trivial, trivial⟩
set_option maxHeartbeats 2000000 in
theorem p_run {d i : Nat} {σ : zH} {B : List Nat} {T : List zTok} (hB : zTp σ B) (hT : zTks σ T) (hl : T.length ≤ 900) (hi : i < B.length) (hR : zcR (B.getD i 0) = true) {Q : Option Value → zH → Prop} (hQ : ∀ τ, zTks τ (T ++ [(ztk B i).1]) → zFr 10 14 σ τ → Q (some (.int (nI (ztk B i).2))) τ) : zM (d + 7) 89 [.ref 10, .ref 2, .int (nI i)] σ Q := by
  have ⟨t1, t2, t3, t4, t5, t6, t7, t8⟩ := hB
  have k9 := hT.1.1
  have hz : ztk B i = ((zwdk (zWd B i), zwdv (zWd B i), i), i + (zWd B i).length) := by unfold ztk; rw [if_pos hR]
  rw [hz] at hQ
  simp only at hQ
  have hwa : (zWd B i).all zcR = true := ztw_all _
  have hwl := zWd_le B i (by omega)
  have hw0 : ∃ c w', zWd B i = c :: w' := ⟨_, _, (zWd_u B i).trans (if_pos ⟨hi, hR⟩)⟩
  obtain ⟨w, hw⟩ : ∃ w, w = zWd B i := ⟨_, rfl⟩
  rw [← hw] at hQ hwa hwl hw0
  obtain ⟨x1, x2⟩ := zwdk_x hwa
  obtain ⟨y1, y2⟩ := zall_A hwa
  -- the end
  have at172 : zwdk w = 48 → zwdv w = 0 → zW (d + 7) 89 172 [(0, .ref 10), (2, .int (nI i)), (6, .int (nI (i + w.length)))] [] σ Q := by
    intro e1 e2
    refine b89_172 ?_
    refine ⟨k9, p_tadd (v := 0) hT hl (fun τ h1 h2 => ?_)⟩
    rw [zqv_s]
    rw [e1, e2] at hQ
    exact hQ τ h1 h2
  have at148 : (w.any zcD = false → 8 < w.length) → zW (d + 7) 89 148 [(0, .ref 10), (2, .int (nI i)), (3, .int (nI (zbn1 (w.any zcA)))), (5, .int (znf w)), (6, .int (nI (i + w.length)))] [] σ Q := by
    intro h8
    rw [if_neg (fun q => by have := h8 q.1; omega)] at x1
    refine b89_148 ?_
    rw [pk_sub (by omega), Nat.add_sub_cancel_left]
    cases ha : w.any zcA with
    | true =>
      rw [if_pos (by decide)]
      rw [ha, if_neg (fun q => absurd q.1 (by decide))] at x1 x2
      exact at172 x1 x2
    | false =>
      rw [if_neg (by decide)]
      by_cases h2 : 2 < w.length
      · rw [if_pos (nI_lt h2 (by omega))]
        rw [if_neg (by omega)] at x1 x2
        exact at172 x1 x2
      · rw [if_neg (nI_nlt (by omega) (by omega))]
        rw [if_pos ⟨ha, by omega⟩] at x1 x2
        rw [ha] at y2
        rw [znf_n y2, ← x2]
        refine ⟨k9, p_tadd hT hl (fun τ h1 h3 => ?_)⟩
        rw [zqv_s]
        rw [x1] at hQ
        exact hQ τ h1 h3
  have at118 : zW (d + 7) 89 118 [(0, .ref 10), (1, .ref 2), (2, .int (nI i)), (3, .int (nI (zbn1 (w.any zcA)))), (4, .int (nI (zbn1 (w.any zcD)))), (5, .int (znf w)), (6, .int (nI (i + w.length)))] [] σ Q := by
    refine b89_118 ?_
    rw [pk_sub (by omega), Nat.add_sub_cancel_left]
    cases hd : w.any zcD with
    | true =>
      rw [if_pos (by decide)]
      exact at148 (fun q => absurd (hd.symm.trans q) (by decide))
    | false =>
      rw [if_neg (by decide)]
      by_cases h8 : 8 < w.length
      · rw [if_pos (nI_lt h8 (by omega))]
        exact at148 (fun _ => h8)
      · rw [if_neg (nI_nlt (by omega) (by omega))]
        rw [if_pos ⟨hd, by omega⟩] at x1
        rw [hd] at y1
        have ha : w.any zcA = true := by
          obtain ⟨c, w', e⟩ := hw0
          rw [e] at y1 ⊢
          rw [List.all_cons, Bool.not_false, Bool.and_eq_true] at y1
          rw [List.any_cons, y1.1]
          rfl
        rw [ha, if_neg (fun q => absurd q.1 (by decide))] at x2
        refine e_wk hB hw y1 (by omega) hwl ?_
        rw [zqi_s]
        refine ⟨k9, p_tadd (v := 0) hT hl (fun τ h1 h2 => ?_)⟩
        rw [zqv_s]
        rw [x1, x2] at hQ
        exact hQ τ h1 h2
  have loop : ∀ (m j : Nat) (u : List Nat), j + m = B.length → i + u.length = j → u ++ zWd B j = w → zW (d + 7) 89 11 [(0, .ref 10), (1, .ref 2), (2, .int (nI i)), (3, .int (nI (zbn1 (u.any zcA)))), (4, .int (nI (zbn1 (u.any zcD)))), (5, .int (znf u)), (6, .int (nI j))] [] σ Q := by
    intro m
    induction m with
    | zero =>
      intro j u hj hu he
      rw [zWd_u, if_neg (by omega), List.append_nil] at he
      rw [he] at hu ⊢
      refine b89_11 ?_
      rw [t5, if_pos (nI_le (by omega) (by omega)), ← hu]
      exact ⟨t1, at118⟩
    | succ m ih =>
      intro j u hj hu he
      have h256 : B.getD j 0 < 256 := t8 _ (zgd_mem (by omega))
      rw [zWd_u] at he
      obtain ⟨c, hc⟩ : ∃ c, c = B.getD j 0 := ⟨_, rfl⟩
      have hclj : (nI j).toNatClampNeg = j := zcl j (by omega)
      have hA := t7 j (by omega)
      rw [← hc] at h256 he hA
      refine b89_11 ?_
      rw [t1, t2, t3, t4, t5, if_neg (nI_ge (by omega) (by omega)), hclj, hA]
      refine ⟨rfl, rfl, vp_in_nI (by omega) (by omega), e_let h256 ?_⟩
      have ext : zcR c = false → zW (d + 7) 89 118 [(0, .ref 10), (1, .ref 2), (2, .int (nI i)), (3, .int (nI (zbn1 (u.any zcA)))), (4, .int (nI (zbn1 (u.any zcD)))), (5, .int (znf u)), (6, .int (nI j))] [] σ Q := by
        intro hr
        rw [if_neg (fun q => by rw [hr] at q; exact absurd q.2 (by decide)), List.append_nil] at he
        rw [he] at hu ⊢
        rw [← hu]
        exact at118
      have at46 : zcR c = true → zW (d + 7) 89 46 [(0, .ref 10), (1, .ref 2), (2, .int (nI i)), (3, .int (nI (zbn1 (u.any zcA)))), (4, .int (nI (zbn1 (u.any zcD)))), (5, .int (znf u)), (6, .int (nI j))] [] σ Q := by
        intro hr
        rw [if_pos ⟨by omega, hr⟩] at he
        have nxt : ∀ X3 X4, X3 = nI (zbn1 (u.any zcA || zcA c)) → X4 = nI (zbn1 (u.any zcD || zcD c)) → zW (d + 7) 89 11 [(0, .ref 10), (1, .ref 2), (2, .int (nI i)), (3, .int X3), (4, .int X4), (5, .int (((znf u * nI 10) + nI c) - nI 48)), (6, .int (nI j + nI 1))] [] σ Q := by
          intro X3 X4 e3 e4
          have ea : (u ++ [c]).any zcA = (u.any zcA || zcA c) := by simp
          have ed : (u ++ [c]).any zcD = (u.any zcD || zcD c) := by simp
          rw [e3, e4, ← znf_s, ← ea, ← ed, nI_add]
          exact ih (j + 1) (u ++ [c]) (by omega) (by simp; omega) (by rw [List.append_assoc]; exact he)
        refine b89_46 ?_
        rw [t1, t2, t3, t4, hclj, hA]
        cases ha : u.any zcA with
        | true =>
          rw [if_pos (by decide)]
          refine b89_68 ?_
          rw [t1, t2, t3, t4, hclj, hA]
          cases hd : u.any zcD with
          | true =>
            rw [if_pos (by decide)]
            exact ⟨rfl, rfl, vp_in_nI (by omega) (by omega), nxt _ _ (by rw [ha]; rfl) (by rw [hd]; rfl)⟩
          | false =>
            rw [if_neg (by decide)]
            refine ⟨rfl, rfl, vp_in_nI (by omega) (by omega), e_dgt h256 ?_⟩
            rw [zqi_s, t1, t2, t3, t4, zif01]
            exact ⟨rfl, rfl, vp_in_nI (by omega) (by omega), by rw [hA]; exact nxt _ _ (by rw [ha]; rfl) (by rw [hd]; rfl)⟩
        | false =>
          rw [if_neg (by decide)]
          refine ⟨rfl, rfl, vp_in_nI (by omega) (by omega), e_let h256 ?_⟩
          rw [zqi_s]
          cases hd : u.any zcD with
          | true =>
            rw [if_pos (by decide)]
            refine b89_92 ?_
            rw [t1, t2, t3, t4, hclj, hA, zif01]
            exact ⟨rfl, rfl, vp_in_nI (by omega) (by omega), nxt _ _ (by rw [ha]; rfl) (by rw [hd]; rfl)⟩
          | false =>
            rw [if_neg (by decide), t1, t2, t3, t4, hA]
            refine ⟨rfl, rfl, vp_in_nI (by omega) (by omega), e_dgt h256 ?_⟩
            rw [zqi_s, t1, t2, t3, t4, hA, zif01, zif01]
            exact ⟨rfl, rfl, vp_in_nI (by omega) (by omega), nxt _ _ (by rw [ha]; rfl) (by rw [hd]; rfl)⟩
      rw [zqi_s]
      cases ca : zcA c with
      | true =>
        rw [if_pos (by decide)]
        exact at46 (by unfold zcR; rw [ca]; rfl)
      | false =>
        rw [if_neg (by decide), t1, t2, t3, t4, hA]
        refine ⟨rfl, rfl, vp_in_nI (by omega) (by omega), e_dgt h256 ?_⟩
        rw [zqi_s]
        cases cd : zcD c with
        | true =>
          rw [if_neg (by decide)]
          exact at46 (by unfold zcR; rw [ca, cd]; rfl)
        | false =>
          rw [if_pos (by decide)]
          exact ext (by unfold zcR; rw [ca, cd]; rfl)
  refine b89 ?_
  exact loop (B.length - i) i [] (by omega) (by simp) (by rw [hw]; rfl)
