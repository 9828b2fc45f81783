/-! longerRow; a plain step over the set -/
theorem zrok_m {a b : Nat} {r : List Nat} (h : zrok a r) (hab : a ≤ b) : zrok b r := ⟨by have := h.1; omega, h.2⟩
theorem zSok_m {n a b : Nat} {L : zSt} (h : zSok n a L) (hab : a ≤ b) : zSok n b L := fun e he => ⟨(h e he).1, zrok_m (h e he).2 hab⟩
theorem z128 {k : Nat} (h : k < 8) : 16 * 128 ^ (8 - 1 - k) = 2 ^ (53 - 7 * k) := by
  rcases (show k = 0 ∨ k = 1 ∨ k = 2 ∨ k = 3 ∨ k = 4 ∨ k = 5 ∨ k = 6 ∨ k = 7 by omega) with rfl | rfl | rfl | rfl | rfl | rfl | rfl | rfl <;> decide
theorem zrC_app {r : List Nat} {c : Nat} (h : r.length < 8) : zrC (r ++ [c]) = zrC r + (c + 1) * 2 ^ (53 - 7 * r.length) + 1 := by
  unfold zrC
  rw [zdv_app c 8 r h, ← z128 h, Nat.mul_add, List.length_append]
  simp only [List.length_cons, List.length_nil]
  rw [show 16 * ((c + 1) * 128 ^ (8 - 1 - r.length)) = (c + 1) * (16 * 128 ^ (8 - 1 - r.length)) by rw [Nat.mul_left_comm]]
  omega
set_option maxHeartbeats 1000000 in
theorem e_longer {d c : Nat} {r : List Nat} {σ : zH} (hr : r.length < 8) (hc : c ≤ 125) {Q : Option Value → zH → Prop} (hQ : Q (some (.long (lN (zrC (r ++ [c]))))) σ) : zM (d + 1) 104 [.long (lN (zrC r)), .int (nI c)] σ Q := by
  have e1 : zrC r % 16 = r.length := by unfold zrC; omega
  refine b104 ?_
  refine b102 ?_
  rw [lN_i, zand15, e1, zqi_s, if_pos (nI_lt hr (by omega)), nI_add, nI_l (by omega), pk_mul, pk_sub (by omega), zlsl_N _ (by omega), lN_add, lN_add, ← zrC_app hr]
  exact hQ
theorem zeC_get {L : zSt} {i : Nat} {x : zTS} {r : List Nat} (h : L[i]? = some (x, r)) : (zeC L).getD i (0, 0) = (zkC x, zrC r) ∧ i < L.length := by
  have hi : i < L.length := by
    rcases Nat.lt_or_ge i L.length with h2 | h2
    · exact h2
    · rw [List.getElem?_eq_none h2] at h; simp at h
  refine ⟨?_, hi⟩
  unfold zeC
  rw [List.getD_eq_getElem?_getD, List.getElem?_map, h]
  rfl
theorem zWc_get {σ : zH} {w : Nat} {L : zSt} (h : zWc σ w (zeC L)) : zI σ w 4 = nI L.length ∧ L.length ≤ 3000 ∧ ∀ i x r, L[i]? = some (x, r) → zB σ (w + 1) i = lN (zkC x) ∧ zB σ (w + 2) i = lN (zrC r) ∧ i < L.length := by
  obtain ⟨-, h1, h2, h3, h4, h5, -⟩ := h
  have e : (zeC L).length = L.length := by unfold zeC; simp
  rw [e] at h1 h2 h5
  refine ⟨h1, h2, fun i x r hi => ?_⟩
  obtain ⟨g1, g2⟩ := zeC_get hi
  obtain ⟨a1, a2⟩ := h5 i g2
  rw [g1] at a1 a2
  exact ⟨a1, a2, g2⟩
theorem zasks_le {n : Nat} {w p q g h : Nat} (hw : zSw w p q g h) {P : Nat → List Nat} {mk : Nat} (hV : zVP n P mk) : zasks w p q P ≤ 126 := by
  have h9 := zVP_9 hV
  unfold zasks
  split
  · rename_i e
    obtain ⟨hq, hpq⟩ := hw.2.2.1 (Or.inl e)
    have := h9 p hw.2.1
    have := h9 q hq
    exact zbn_le _ (by omega) _ (by omega)
  · have := h9 p hw.2.1
    split <;> omega
def zfr1 (s : zStp) : Nat := if zfree (zpW s) (zpH s) then 1 else 0
set_option maxHeartbeats 4000000 in
theorem l_inn {d n k so i nw nx : Nat} {wt : Nat → Nat} {C0 : Nat → List (Nat × Nat)} {σ0 : zH} {D : zDT} {s : zStp} {L : zSt} {x : zTS} {r : List Nat} (hso : 54 ≤ so) (hS : zSr σ0 so (zpW s) (zpP s) (zpQ s) (zpG s) (zpH s)) (hw : zSw (zpW s) (zpP s) (zpQ s) (zpG s) (zpH s)) (hD : zDk σ0 D n) (hwn : zWs nw) (hwx : zWs nx) (hnx : nw ≠ nx) (hL0 : C0 nw = zeC L) (hx : zVS n x) (hr : zrok k r) (hk : k + zfr1 s ≤ 8) (hLi : L[i]? = some (x, r)) {Q : Option Value → zH → Prop} : ∀ (m c : Nat), c + m = zchs s x → ∀ (M : zSt) (σ : zH) (C : Nat → List (Nat × Nat)), zSp σ nw nx wt C false → C nx = zeC M → zSok n (k + zfr1 s) M → (c = 0 → zTc σ 30 (zpl x) (zmk x)) → zFr 18 54 σ0 σ → (∀ w, zWs w → w ≠ nx → C w = C0 w) → (∀ τ C' lg', zSp τ nw nx wt C' lg' → zFr 18 54 σ0 τ → (∀ w, zWs w → w ≠ nx → C' w = C0 w) → (match zinn s x r m c M with | some M' => lg' = false ∧ C' nx = zeC M' ∧ zSok n (k + zfr1 s) M' | none => lg' = true) → zW (d + 4) 50 14 [(0, .ref 18), (1, .ref so), (2, .int (nI (if zfree (zpW s) (zpH s) then 1 else 0))), (3, .int (nI (i + 1)))] [] τ Q) → zW (d + 4) 50 69 [(0, .ref 18), (1, .ref so), (2, .int (nI (if zfree (zpW s) (zpH s) then 1 else 0))), (3, .int (nI i)), (4, .int (nI (zchs s x))), (5, .int (nI c))] [] σ Q := by
  have hch : zchs s x ≤ 126 := by
    unfold zchs
    split
    · exact zasks_le hw hx
    · omega
  have hwn' := zWs_t hwn
  have hwx' := zWs_t hwx
  intro m
  induction m with
  | zero =>
    intro c hc M σ C hSp hM hok hT hF hC hQ
    refine b50_69 ?_
    rw [if_pos (nI_le (by omega) (by omega)), nI_add]
    exact hQ σ C false hSp hF hC ⟨rfl, hM, hok⟩
  | succ m ih =>
    intro c hc M σ C hSp hM hok hT hF hC hQ
    -- the step itself, from a table that holds x
    have go : ∀ σ1, zSp σ1 nw nx wt C false → zTc σ1 30 (zpl x) (zmk x) → zFr 18 54 σ0 σ1 → zW (d + 4) 50 104 [(0, .ref 18), (1, .ref so), (2, .int (nI (if zfree (zpW s) (zpH s) then 1 else 0))), (3, .int (nI i)), (4, .int (nI (zchs s x))), (5, .int (nI c))] [] σ1 Q := by
      intro σ1 hSp1 hT1 hF1
      have hV : zVP n (zpl x) (zmk x) := hx
      have ⟨⟨a1, a2, a3, a4, a5⟩, b1, ⟨c1, c2, c3⟩, d1, e1, f1⟩ := hSp1
      refine b50_104 ?_
      rw [a1, a2]
      refine ⟨rfl, b1.1, ?_⟩
      refine p_act (d := d) hT1 (by omega) (zSr_fr hF1 (by omega) hS) hw (by have := hV.1; have := hV.2.1; omega) hV.2.2.1 (by omega) (fun e6 => ?_) (fun σ2 hF2 hT2 => ?_)
      · have : zchs s x = zbn ((zpl x) (zpP s)).length ((zpl x) (zpQ s)).length := by
          unfold zchs zfree zasks
          simp [e6]
        omega
      have hSp2 := zSp_t hSp1 hF2 hT2.1
      have hF2' := zFr_t hF1 (zFr_m hF2 (by omega) (by omega))
      have ⟨⟨a1', a2', a3', a4', a5'⟩, b1', ⟨c1', c2', c3'⟩, d1', e1', f1'⟩ := hSp2
      have hV2 := zact_V (c := c) hw hV
      -- put what lies now
      have put : ∀ r', r' = zrw s r c → zW (d + 4) 50 144 [(0, .ref 18), (1, .ref so), (2, .int (nI (if zfree (zpW s) (zpH s) then 1 else 0))), (3, .int (nI i)), (4, .int (nI (zchs s x))), (5, .int (nI c))] [.long (lN (zrC r'))] σ2 Q := by
        intro r' hr'
        have hr8 : zrok (k + zfr1 s) r' := by
          rw [hr']
          unfold zrw zfr1
          split
          · refine ⟨by have := hr.1; simp; omega, fun y hy => ?_⟩
            rcases List.mem_append.mp hy with hy | hy
            · exact hr.2 y hy
            · simp only [List.mem_singleton] at hy; omega
          · exact zrok_m hr (by omega)
        refine b50_144 ?_
        rw [a1', a2']
        refine ⟨rfl, b1'.1, p_packed hT2 hV2 ?_⟩
        rw [zql_s, c2']
        have hWx := e1' nx hwx
        rw [hM] at hWx
        have hVS := zVS_ts hV2
        refine ⟨hWx.1.1, ?_⟩
        rw [← zkC_ts]
        have hpm := zput_C (zSok_m hok hk) hVS (zrok_m hr8 hk)
        refine p_wput (d := d + 2) hWx (zkC_lt hVS) (Nat.lt_trans (zrC_lt (zrok_m hr8 hk)) (by decide)) (fun L' hL' σ3 hF3 hW3 => ?_) (fun hL' => ?_)
        · rw [hpm] at hL'
          obtain ⟨M', hM', rfl⟩ := Option.map_eq_some_iff.mp hL'
          have hSp3 := zSp_w hSp2 hwx hF3 hW3
          have hok' : zSok n (k + zfr1 s) M' := by
            unfold zputS at hM'
            split at hM'
            · rw [← Option.some.inj hM']; exact zinsS_ok hVS hr8 hok
            · simp at hM'
          rw [zqi_s]
          refine ⟨hSp3.1.1, ?_⟩
          have e01 : (if ¬ nI 1 = 0 then nI 0 else nI 1) = nI (zbn1 false) := by decide
          rw [e01, nI_add]
          refine ih (c + 1) (by omega) M' _ _ (zSp_lg hSp3 false) (zu_same _ _ _) hok' (fun h => absurd h (by omega)) (zFr_t hF2' (zFr_t (zFr_m hF3 (by omega) (by omega)) (zFr_sI 4 _ (by omega) (by omega)))) (fun w hw1 hw2 => by rw [zu_ne _ _ hw2]; exact hC w hw1 hw2) (fun τ C' lg' g1 g2 g3 g4 => hQ τ C' lg' g1 g2 g3 ?_)
          rw [zinn, show zacS s x c = zts (zact (zpW s) (zpP s) (zpQ s) (zpG s) (zpH s) c (zpl x) (zmk x)) from rfl, ← hr', hM']
          exact g4
        · rw [hpm] at hL'
          have hM' := Option.map_eq_none_iff.mp hL'
          rw [zqi_s]
          refine ⟨hSp2.1.1, ?_⟩
          have e01 : (if ¬ nI 0 = 0 then nI 0 else nI 1) = nI (zbn1 true) := by decide
          rw [e01, nI_add]
          have hSp3 := zSp_lg hSp2 true
          have hF3 : zFr 18 54 σ0 (zsI σ2 18 4 (nI (zbn1 true))) := zFr_t hF2' (zFr_sI 4 _ (by omega) (by omega))
          have hz : zinn s x r (m + 1) c M = none := by rw [zinn, show zacS s x c = zts (zact (zpW s) (zpP s) (zpQ s) (zpG s) (zpH s) c (zpl x) (zmk x)) from rfl, ← hr', hM']
          refine b50_69 ?_
          have hlg : zI (zsI σ2 18 4 (nI (zbn1 true))) 18 4 = nI (zbn1 true) := hSp3.2.2.2.2.2
          have hfin := hQ _ C true hSp3 hF3 hC (by rw [hz])
          by_cases hc1 : zchs s x ≤ c + 1
          · rw [if_pos (nI_le hc1 (by omega)), nI_add]
            exact hfin
          · rw [if_neg (fun q => hc1 ((nI_leI (by omega) (by omega)).mp q)), hlg, if_pos (by decide), nI_add]
            exact ⟨hSp3.1.1, hfin⟩
      rw [zqv_s]
      have hWn := e1' nw hwn
      rw [hC nw hwn hnx, hL0] at hWn
      obtain ⟨wn1, wn2, wn3⟩ := zWc_get hWn
      obtain ⟨g1, g2, g3⟩ := wn3 i x r hLi
      have hb := hWn.1
      have hcl : (nI i).toNatClampNeg = i := zcl i (by omega)
      rw [a1', c1', hb.1, hb.2.2.1, hb.2.2.2.2.2.2.1, hb.2.2.2.2.2.2.2.2.2.2.1, hcl, g2]
      by_cases hfr : zfree (zpW s) (zpH s) = true
      · rw [if_pos hfr, if_neg (by decide)]
        rw [if_pos hfr] at put
        refine ⟨rfl, rfl, rfl, vp_in_nI (by omega) (by omega), ?_⟩
        have hk1 : zfr1 s = 1 := by unfold zfr1; rw [if_pos hfr]
        refine e_longer (by have := hr.1; omega) (by omega) ?_
        rw [zql_s]
        exact put _ (by unfold zrw; rw [if_pos hfr])
      · rw [if_neg hfr, if_pos (by decide)]
        rw [if_neg hfr] at put
        exact ⟨rfl, rfl, rfl, vp_in_nI (by omega) (by omega), put _ (by unfold zrw; rw [if_neg hfr])⟩
    refine b50_69 ?_
    have ⟨⟨a1, a2, a3, a4, a5⟩, b1, ⟨c1, c2, c3⟩, d1, e1, f1⟩ := hSp
    rw [if_neg (fun q => by have := (nI_leI (by omega) (by omega)).mp q; omega), f1, a1]
    refine ⟨rfl, ?_⟩
    rw [if_neg (by decide)]
    by_cases hc0 : c = 0
    · subst hc0
      rw [if_pos (by decide)]
      exact go σ hSp (hT rfl) hF
    · rw [if_neg (nI_nle (by omega) (by omega)), a2, c1]
      have hWn := e1 nw hwn
      rw [hC nw hwn hnx, hL0] at hWn
      obtain ⟨wn1, wn2, wn3⟩ := zWc_get hWn
      obtain ⟨g1, g2, g3⟩ := wn3 i x r hLi
      have hb := hWn.1
      have hcl : (nI i).toNatClampNeg = i := zcl i (by omega)
      rw [hb.1, hb.2.1, hb.2.2.2.2.2.1, hb.2.2.2.2.2.2.2.2.2.1, hcl, g1]
      refine ⟨rfl, rfl, vp_in_nI (by omega) (by omega), b1.1, ?_⟩
      refine p_lay b1 (zDk_fr hF (by omega) hD) (by omega) hx (fun σ1 hF1 hT1 => ?_)
      rw [zqv_s]
      exact go σ1 (zSp_t hSp hF1 hT1.1) hT1 (zFr_t hF (zFr_m hF1 (by omega) (by omega)))
