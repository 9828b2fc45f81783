/-! doIf -/
theorem zeC_app (M : zSt) (x : zTS) (r : List Nat) : zeC (M ++ [(x, r)]) = zeC M ++ [(zkC x, zrC r)] := by simp [zeC]
theorem zkeys_eC (M : zSt) : zkeys (zeC M) = M.map (fun e => zkC e.1) := by simp [zkeys, zeC]
theorem ztake_s {α : Type} {L : List α} {i : Nat} {a : α} (h : L[i]? = some a) : L.take (i + 1) = L.take i ++ [a] := by
  rw [List.take_succ, h]
  rfl
theorem znew_of {L : zSt} {i : Nat} {x : zTS} {r : List Nat} (hn : (zkeys (zeC L)).Nodup) (h : L[i]? = some (x, r)) (p : zTS × List Nat → Bool) : zkC x ∉ zkeys (zeC ((L.take i).filter p)) := by
  intro hm
  rw [zkeys_eC] at hn hm
  obtain ⟨e, he, hq⟩ := List.mem_map.mp hm
  have he2 := (List.mem_filter.mp he).1
  have hi : i < L.length := (zeC_get h).2
  have hL : L = L.take i ++ L.drop i := (List.take_append_drop i L).symm
  rw [hL, List.map_append, List.nodup_append] at hn
  have h2 : x ∈ (L.drop i).map (fun e => e.1) := by
    have : L.drop i = (x, r) :: L.drop (i + 1) := by
      rw [List.drop_eq_getElem_cons hi]
      congr 1
      rw [List.getElem?_eq_getElem hi] at h
      exact Option.some.inj h
    rw [this]
    simp
  obtain ⟨e', he', rfl⟩ := List.mem_map.mp h2
  exact hn.2.2 (zkC e.1) (List.mem_map_of_mem he2) (zkC e'.1) (List.mem_map_of_mem he') hq
set_option maxHeartbeats 4000000 in
theorem l_part {d n k T a dp ot nw nx : Nat} {wt : Nat → Nat} {C0 : Nat → List (Nat × Nat)} {σ0 : zH} {D : zDT} {s : zStp} {L : zSt} {lg : Bool} (hb : zDb D) (hT54 : 54 ≤ T) (ha40 : a < 40) (hTs : zTs σ0 T) (hCS : zCS σ0 T a s) (h12 : zpW s = 12) (hD : zDk σ0 D n) (hwn : zWs nw) (hwx : zWs nx) (hwo : zWs ot) (hnx : nw ≠ nx) (hno : nw ≠ ot) (hxo : nx ≠ ot) (hL0 : C0 nw = zeC L) (hLk : zSok n k L) (hk8 : k ≤ 8) {Q : Option Value → zH → Prop} (hQ : ∀ τ C', zSp τ nw nx wt C' lg → zFr 18 54 σ0 τ → (∀ w, zWs w → w ≠ nx → w ≠ ot → C' w = C0 w) → C' nx = zeC (L.filter (fun e => zmeet D (zpC s) e.1)) → C' ot = zeC (L.filter (fun e => !zmeet D (zpC s) e.1)) → zW (d + 5) 52 37 [(0, .ref 18), (1, .ref T), (2, .int (nI a)), (3, .int (nI dp)), (4, .ref (T + 6 + a)), (5, .ref ot), (6, .int (nI L.length))] [] τ Q) : ∀ (m i : Nat), i + m = L.length → ∀ (σ : zH) (C : Nat → List (Nat × Nat)), zSp σ nw nx wt C lg → zFr 18 54 σ0 σ → (∀ w, zWs w → w ≠ nx → w ≠ ot → C w = C0 w) → C nx = zeC ((L.take i).filter (fun e => zmeet D (zpC s) e.1)) → C ot = zeC ((L.take i).filter (fun e => !zmeet D (zpC s) e.1)) → zW (d + 5) 52 37 [(0, .ref 18), (1, .ref T), (2, .int (nI a)), (3, .int (nI dp)), (4, .ref (T + 6 + a)), (5, .ref ot), (6, .int (nI i))] [] σ Q := by
  intro m
  induction m with
  | zero =>
    intro i hi σ C hSp hF hC hx ho
    have hi' : i = L.length := by omega
    rw [hi', List.take_length] at hx ho
    rw [hi']
    exact hQ σ C hSp hF hC hx ho
  | succ m ih =>
    intro i hi σ C hSp hF hC hx ho
    have ⟨⟨a1, a2, a3, a4, a5⟩, b1, ⟨c1, c2, c3⟩, d1, e1, f1⟩ := hSp
    have hWn := e1 nw hwn
    rw [hC nw hwn hnx hno, hL0] at hWn
    obtain ⟨wn1, wn2, wn3⟩ := zWc_get hWn
    obtain ⟨⟨x, r⟩, hLi⟩ : ∃ e, L[i]? = some e := ⟨L[i]'(by omega), List.getElem?_eq_getElem (by omega)⟩
    obtain ⟨g1, g2, g3⟩ := wn3 i x r hLi
    have hnd : (zkeys (zeC L)).Nodup := hWn.2.2.2.1
    have hb' := hWn.1
    have hcl : (nI i).toNatClampNeg = i := zcl i (by omega)
    have hxr := hLk (x, r) (List.mem_of_getElem? hLi)
    have hTs' := zTs_fr hF (by omega) hTs
    have hCS' := zCS_fr hF ha40 (by omega) hCS
    refine b52_37 ?_
    rw [a1, c1, hWn.1.1, wn1, if_neg (fun q => by have := (nI_leI (by omega) (by omega)).mp q; omega)]
    refine ⟨rfl, rfl, ?_⟩
    rw [a2, hb'.2.1, hb'.2.2.2.2.2.1, hb'.2.2.2.2.2.2.2.2.2.1, hcl, g1]
    refine ⟨rfl, vp_in_nI (by omega) (by omega), b1.1, ?_⟩
    refine p_lay b1 (zDk_fr hF (by omega) hD) (by omega) hxr.1 (fun σ1 hF1 hT1 => ?_)
    have hSp1 := zSp_t hSp hF1 hT1.1
    have hF1' := zFr_t hF (zFr_m hF1 (by omega) (by omega))
    have hTs1 := zTs_fr hF1' (by omega) hTs
    have hCS1 := zCS_fr hF1' ha40 (by omega) hCS
    obtain ⟨-, j, i1, i2, i3, i4, i5, i6⟩ := hCS1.2.2.2.2.2.2.2 h12
    rw [zqv_s, hTs1.2.2.1, hSp1.1.2.1, i1, i2]
    refine ⟨hTs1.1, hSp1.1.1, (hTs1.2.2.2.2.2.1 a ha40).2, hTs1.2.2.2.2.2.2.1, ?_⟩
    refine p_met (d := d) hT1 (by omega) (zDk_fr hF1' (by omega) hD) hxr.1 hb hTs1.2.2.2.2.2.2 (by omega) i3 i4 i5 i6 ?_
    rw [zqi_s]
    have put : ∀ v, zWs v → v ≠ nw → (v = nx ∨ v = ot) → ∀ (p : zTS × List Nat → Bool), C v = zeC ((L.take i).filter p) → p (x, r) = true → (∀ τ C', zSp τ nw nx wt C' lg → zFr 18 54 σ0 τ → C' v = zeC ((L.take (i + 1)).filter p) → (∀ w, zWs w → w ≠ v → C' w = C w) → zW (d + 5) 52 37 [(0, .ref 18), (1, .ref T), (2, .int (nI a)), (3, .int (nI dp)), (4, .ref (T + 6 + a)), (5, .ref ot), (6, .int (nI (i + 1)))] [] τ Q) → zW (d + 5) 52 103 [(0, .ref 18), (1, .ref T), (2, .int (nI a)), (3, .int (nI dp)), (4, .ref (T + 6 + a)), (5, .ref ot), (6, .int (nI i))] [.ref v] σ1 Q := by
      intro v hv hvn hvv p hCv hp hK
      have hv' := zWs_t hv
      have ⟨⟨a1, a2, a3, a4, a5⟩, b1, ⟨c1, c2, c3⟩, d1, e1, f1⟩ := hSp1
      have hWn := e1 nw hwn
      rw [hC nw hwn hnx hno, hL0] at hWn
      obtain ⟨wn1, wn2, wn3⟩ := zWc_get hWn
      obtain ⟨g1, g2, g3⟩ := wn3 i x r hLi
      have hb' := hWn.1
      have hWv := e1 v hv
      rw [hCv] at hWv
      refine b52_103 ?_
      rw [a1, c1, hb'.1, hb'.2.1, hb'.2.2.1, hb'.2.2.2.2.2.1, hb'.2.2.2.2.2.2.1, hb'.2.2.2.2.2.2.2.2.2.1, hb'.2.2.2.2.2.2.2.2.2.2.1, hcl, g1, g2]
      refine ⟨rfl, rfl, rfl, vp_in_nI (by omega) (by omega), rfl, vp_in_nI (by omega) (by omega), hWv.1.1, ?_⟩
      have hnew := znew_of hnd hLi p
      have hlen : ((L.take i).filter p).length ≤ i := Nat.le_trans (List.length_filter_le _ _) (by rw [List.length_take]; omega)
      have hput : zput (zeC ((L.take i).filter p)) (zkC x) (zrC r) = some (zeC ((L.take (i + 1)).filter p)) := by
        unfold zput
        rw [if_pos (Or.inr (by rw [show (zeC ((L.take i).filter p)).length = ((L.take i).filter p).length by simp [zeC]]; omega)), zins_new hnew, ztake_s hLi, List.filter_append, List.filter_cons, if_pos hp, List.filter_nil, zeC_app]
      refine p_wput (d := d + 3) hWv (zkC_lt hxr.1) (Nat.lt_trans (zrC_lt (zrok_m hxr.2 hk8)) (by decide)) (fun L' hL' σ3 hF3 hW3 => ?_) (fun hL' => ?_)
      · rw [hput] at hL'
        have hL'' := Option.some.inj hL'
        subst hL''
        rw [zqi_s, nI_add]
        exact hK σ3 _ (zSp_w hSp1 hv hF3 hW3) (zFr_t hF1' (zFr_m hF3 (by omega) (by omega))) (zu_same _ _ _) (fun w h1 h2 => zu_ne _ _ h2)
      · rw [hput] at hL'
        simp at hL'
    have hkeep : ∀ (p : zTS × List Nat → Bool), p (x, r) = false → (L.take (i + 1)).filter p = (L.take i).filter p := by
      intro p hp
      rw [ztake_s hLi, List.filter_append, List.filter_cons, hp]
      simp
    have hz : ztop (zev (zct D (zmk x) (zpl x)) (zpC s) []) = zmeet D (zpC s) x := rfl
    rw [hz]
    cases hm : zmeet D (zpC s) x with
    | true =>
      rw [if_neg (by decide), hSp1.1.1, hSp1.2.2.1.2.1]
      refine ⟨rfl, put nx hwx (fun q => hnx q.symm) (Or.inl rfl) (fun e => zmeet D (zpC s) e.1) hx hm (fun τ C' q1 q2 q3 q4 => ih (i + 1) (by omega) τ C' q1 q2 (fun w h1 h2 h3 => ?_) q3 ?_)⟩
      · rw [q4 w h1 h2]; exact hC w h1 h2 h3
      · rw [q4 ot hwo (fun q => hxo q.symm), ho, hkeep]
        simp [hm]
    | false =>
      rw [if_pos (by decide)]
      refine put ot hwo (fun q => hno q.symm) (Or.inr rfl) (fun e => !zmeet D (zpC s) e.1) ho (by simp [hm]) (fun τ C' q1 q2 q3 q4 => ih (i + 1) (by omega) τ C' q1 q2 (fun w h1 h2 h3 => ?_) ?_ q3)
      · rw [q4 w h1 h3]; exact hC w h1 h2 h3
      · rw [q4 nx hwx hxo, hx, hkeep]
        simp [hm]
set_option maxHeartbeats 4000000 in
theorem l_join {d n k dp dn nw nx : Nat} {wt : Nat → Nat} {C0 : Nat → List (Nat × Nat)} {σ0 : zH} {L M0 : zSt} (hwn : zWs nw) (hwd : zWs dn) (hnd : nw ≠ dn) (hL0 : C0 nw = zeC L) (hLk : zSok n k L) (hk8 : k ≤ 8) {Q : Option Value → zH → Prop} (hQ : ∀ τ C' lg', zSp τ nw nx wt C' lg' → zFr 18 54 σ0 τ → (∀ w, zWs w → w ≠ dn → C' w = C0 w) → (match zjn L M0 with | some M => lg' = false ∧ C' dn = zeC M ∧ zSok n k M | none => lg' = true) → zW (d + 5) 52 252 [(0, .ref 18), (3, .int (nI dp)), (6, .ref dn)] [] τ Q) : ∀ (E : zSt) (i : Nat) (M : zSt) (σ : zH) (C : Nat → List (Nat × Nat)) (lg : Bool), i ≤ L.length → L.drop i = E → zSp σ nw nx wt C lg → zFr 18 54 σ0 σ → (∀ w, zWs w → w ≠ dn → C w = C0 w) → (if lg then zjn L M0 = none else C dn = zeC M ∧ zSok n k M ∧ zjn L M0 = zjn E M) → zW (d + 5) 52 190 [(0, .ref 18), (3, .int (nI dp)), (6, .ref dn), (7, .int (nI i))] [] σ Q := by
  have hwd' := zWs_t hwd
  intro E
  induction E with
  | nil =>
    intro i M σ C lg hiL hE hSp hF hC hlg
    have ⟨⟨a1, a2, a3, a4, a5⟩, b1, ⟨c1, c2, c3⟩, d1, e1, f1⟩ := hSp
    have hWn := e1 nw hwn
    rw [hC nw hwn hnd, hL0] at hWn
    obtain ⟨wn1, wn2, wn3⟩ := zWc_get hWn
    have hi : L.length ≤ i := List.drop_eq_nil_iff.mp hE
    refine b52_190 ?_
    rw [a1, c1, hWn.1.1, wn1, if_pos (nI_le hi (by omega))]
    refine ⟨rfl, rfl, hQ σ C lg hSp hF hC ?_⟩
    cases lg with
    | true => simp only [if_true] at hlg; rw [hlg]
    | false =>
      simp only [Bool.false_eq_true, if_false] at hlg
      rw [hlg.2.2, zjn]
      exact ⟨rfl, hlg.1, hlg.2.1⟩
  | cons e E ih =>
    intro i M σ C lg hiL hE hSp hF hC hlg
    obtain ⟨x, r⟩ := e
    obtain ⟨hLi, hE2⟩ := zdrop_get hE
    have ⟨⟨a1, a2, a3, a4, a5⟩, b1, ⟨c1, c2, c3⟩, d1, e1, f1⟩ := hSp
    have hWn := e1 nw hwn
    rw [hC nw hwn hnd, hL0] at hWn
    obtain ⟨wn1, wn2, wn3⟩ := zWc_get hWn
    obtain ⟨g1, g2, g3⟩ := wn3 i x r hLi
    have hb' := hWn.1
    have hcl : (nI i).toNatClampNeg = i := zcl i (by omega)
    have hxr := hLk (x, r) (List.mem_of_getElem? hLi)
    refine b52_190 ?_
    rw [a1, c1, hWn.1.1, wn1, if_neg (fun q => by have := (nI_leI (by omega) (by omega)).mp q; omega), f1]
    refine ⟨rfl, rfl, ?_⟩
    cases lg with
    | true =>
      simp only [if_true] at hlg
      rw [if_pos (by decide)]
      refine hQ σ C true hSp hF hC ?_
      rw [hlg]
    | false =>
      simp only [Bool.false_eq_true, if_false] at hlg
      obtain ⟨m1, m2, m3⟩ := hlg
      have hWd := e1 dn hwd
      rw [m1] at hWd
      rw [if_neg (by decide), hb'.2.1, hb'.2.2.1, hb'.2.2.2.2.2.1, hb'.2.2.2.2.2.2.1, hb'.2.2.2.2.2.2.2.2.2.1, hb'.2.2.2.2.2.2.2.2.2.2.1, hcl, g1, g2]
      refine ⟨rfl, vp_in_nI (by omega) (by omega), rfl, vp_in_nI (by omega) (by omega), hWd.1.1, ?_⟩
      have hpm := zput_C (zSok_m m2 hk8) hxr.1 (zrok_m hxr.2 hk8)
      refine p_wput (d := d + 3) hWd (zkC_lt hxr.1) (Nat.lt_trans (zrC_lt (zrok_m hxr.2 hk8)) (by decide)) (fun L' hL' σ3 hF3 hW3 => ?_) (fun hL' => ?_)
      · rw [hpm] at hL'
        obtain ⟨M', hM', rfl⟩ := Option.map_eq_some_iff.mp hL'
        have hSp3 := zSp_w hSp hwd hF3 hW3
        have hok' : zSok n k M' := by
          unfold zputS at hM'
          split at hM'
          · rw [← Option.some.inj hM']; exact zinsS_ok hxr.1 hxr.2 m2
          · simp at hM'
        rw [zqi_s]
        refine ⟨hSp3.1.1, ?_⟩
        have e01 : (if ¬ nI 1 = 0 then nI 0 else nI 1) = nI (zbn1 false) := by decide
        rw [e01, nI_add]
        refine ih (i + 1) M' _ _ false (by omega) hE2 (zSp_lg hSp3 false) (zFr_t hF (zFr_t (zFr_m hF3 (by omega) (by omega)) (zFr_sI 4 _ (by omega) (by omega)))) (fun w hw1 hw2 => by rw [zu_ne _ _ hw2]; exact hC w hw1 hw2) ?_
        simp only [Bool.false_eq_true, if_false]
        refine ⟨zu_same _ _ _, hok', ?_⟩
        rw [m3, zjn, hM']
      · rw [hpm] at hL'
        have hM' := Option.map_eq_none_iff.mp hL'
        rw [zqi_s]
        refine ⟨hSp.1.1, ?_⟩
        have e01 : (if ¬ nI 0 = 0 then nI 0 else nI 1) = nI (zbn1 true) := by decide
        rw [e01, nI_add]
        have hz : zjn L M0 = none := by rw [m3, zjn, hM']
        refine ih (i + 1) [] _ C true (by omega) hE2 (zSp_lg hSp true) (zFr_t hF (zFr_sI 4 _ (by omega) (by omega))) hC ?_
        simp only [if_true]
        exact hz
