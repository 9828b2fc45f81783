theorem zdrop_get {α : Type} {L : List α} {i : Nat} {a : α} {E : List α} (h : L.drop i = a :: E) : L[i]? = some a ∧ L.drop (i + 1) = E := by
  have h1 : L[i]? = (L.drop i)[0]? := by rw [List.getElem?_drop, Nat.add_zero]
  rw [h] at h1
  refine ⟨h1, ?_⟩
  rw [← List.drop_drop, h]
  rfl
theorem zinn_ok {n k : Nat} {s : zStp} {x : zTS} {r : List Nat} (hw : zSw (zpW s) (zpP s) (zpQ s) (zpG s) (zpH s)) (hx : zVS n x) (hr : zrok k r) : ∀ (m c : Nat) (M M' : zSt), c + m ≤ 126 → zSok n (k + zfr1 s) M → zinn s x r m c M = some M' → zSok n (k + zfr1 s) M'
  | 0, c, M, M', _, h, e => by rw [zinn] at e; rw [← Option.some.inj e]; exact h
  | m + 1, c, M, M', hc, h, e => by
    rw [zinn] at e
    cases hp : zputS M (zacS s x c) (zrw s r c) with
    | none => rw [hp] at e; simp at e
    | some M1 =>
      rw [hp] at e
      refine zinn_ok hw hx hr m (c + 1) M1 M' (by omega) ?_ e
      unfold zputS at hp
      split at hp
      · rw [← Option.some.inj hp]
        refine zinsS_ok (zVS_ts (zact_V hw hx)) ?_ h
        unfold zrw zfr1
        split
        · refine ⟨by have := hr.1; simp; omega, fun y hy => ?_⟩
          rcases List.mem_append.mp hy with hy | hy
          · exact hr.2 y hy
          · simp only [List.mem_singleton] at hy; omega
        · exact zrok_m hr (by omega)
      · simp at hp
set_option maxHeartbeats 4000000 in
theorem l_all {d n k so nw nx : Nat} {wt : Nat → Nat} {C0 : Nat → List (Nat × Nat)} {σ0 : zH} {D : zDT} {s : zStp} {L : zSt} (hso : 54 ≤ so) (hS : zSr σ0 so (zpW s) (zpP s) (zpQ s) (zpG s) (zpH s)) (hw : zSw (zpW s) (zpP s) (zpQ s) (zpG s) (zpH s)) (hD : zDk σ0 D n) (hwn : zWs nw) (hwx : zWs nx) (hnx : nw ≠ nx) (hL0 : C0 nw = zeC L) (hLk : zSok n k L) (hk : k + zfr1 s ≤ 8) {Q : Option Value → zH → Prop} (hQ : ∀ τ C' lg', zSp τ nw nx wt C' lg' → zFr 18 54 σ0 τ → (∀ w, zWs w → w ≠ nx → C' w = C0 w) → (match zall s L [] with | some M' => lg' = false ∧ C' nx = zeC M' ∧ zSok n (k + zfr1 s) M' | none => lg' = true) → Q none (zsQ (zsQ τ 18 1 nx) 18 2 nw)) : ∀ (E : zSt) (i : Nat) (M : zSt) (σ : zH) (C : Nat → List (Nat × Nat)) (lg : Bool), i ≤ L.length → L.drop i = E → zSp σ nw nx wt C lg → zFr 18 54 σ0 σ → (∀ w, zWs w → w ≠ nx → C w = C0 w) → (if lg then zall s L [] = none else C nx = zeC M ∧ zSok n (k + zfr1 s) M ∧ zall s L [] = zall s E M) → zW (d + 4) 50 14 [(0, .ref 18), (1, .ref so), (2, .int (nI (if zfree (zpW s) (zpH s) then 1 else 0))), (3, .int (nI i))] [] σ Q := by
  have exch : ∀ τ C' lg', zSp τ nw nx wt C' lg' → Q none (zsQ (zsQ τ 18 1 nx) 18 2 nw) → zM (d + 3) 51 [.ref 18] τ (fun r σ104 => zqv r (Q none σ104)) := by
    intro τ C' lg' h hq
    refine b51 ?_
    rw [h.2.2.1.1, h.2.2.1.2.1]
    exact ⟨h.1.1, hq⟩
  intro E
  induction E with
  | nil =>
    intro i M σ C lg hiL hE hSp hF hC hlg
    have ⟨⟨a1, a2, a3, a4, a5⟩, b1, ⟨c1, c2, c3⟩, d1, e1, f1⟩ := hSp
    have hWn := e1 nw hwn
    rw [hC nw hwn hnx, hL0] at hWn
    obtain ⟨wn1, wn2, wn3⟩ := zWc_get hWn
    have hi : L.length ≤ i := List.drop_eq_nil_iff.mp hE
    refine b50_14 ?_
    rw [a1, c1, hWn.1.1, wn1]
    refine ⟨rfl, rfl, ?_⟩
    have hfin : Q none (zsQ (zsQ σ 18 1 nx) 18 2 nw) := by
      refine hQ σ C lg hSp hF hC ?_
      cases lg with
      | true => simp only [if_true] at hlg; rw [hlg]
      | false =>
        simp only [Bool.false_eq_true, if_false] at hlg
        rw [hlg.2.2, zall]
        exact ⟨rfl, hlg.1, hlg.2.1⟩
    rw [if_pos (nI_le hi (by omega))]
    exact exch σ C lg hSp hfin
  | cons e E ih =>
    intro i M σ C lg hiL hE hSp hF hC hlg
    obtain ⟨x, r⟩ := e
    obtain ⟨hLi, hE2⟩ := zdrop_get hE
    have ⟨⟨a1, a2, a3, a4, a5⟩, b1, ⟨c1, c2, c3⟩, d1, e1, f1⟩ := hSp
    have hWn := e1 nw hwn
    rw [hC nw hwn hnx, hL0] at hWn
    obtain ⟨wn1, wn2, wn3⟩ := zWc_get hWn
    obtain ⟨g1, g2, g3⟩ := wn3 i x r hLi
    have hb := hWn.1
    have hcl : (nI i).toNatClampNeg = i := zcl i (by omega)
    refine b50_14 ?_
    rw [a1, c1, hWn.1.1, wn1, if_neg (fun q => by have := (nI_leI (by omega) (by omega)).mp q; omega), f1]
    refine ⟨rfl, rfl, ?_⟩
    cases lg with
    | true =>
      simp only [if_true] at hlg
      rw [if_pos (by decide)]
      refine exch σ C true hSp (hQ σ C true hSp hF hC ?_)
      rw [hlg]
    | false =>
      simp only [Bool.false_eq_true, if_false] at hlg
      obtain ⟨m1, m2, m3⟩ := hlg
      rw [if_neg (by decide)]
      have hxr := hLk (x, r) (List.mem_of_getElem? hLi)
      rw [a2, hb.2.1, hb.2.2.2.2.2.1, hb.2.2.2.2.2.2.2.2.2.1, hcl, g1]
      refine ⟨rfl, vp_in_nI (by omega) (by omega), b1.1, ?_⟩
      refine p_lay b1 (zDk_fr hF (by omega) hD) (by omega) hxr.1 (fun σ1 hF1 hT1 => ?_)
      have hSp1 := zSp_t hSp hF1 hT1.1
      have hF1' := zFr_t hF (zFr_m hF1 (by omega) (by omega))
      have inner : zW (d + 4) 50 69 [(0, .ref 18), (1, .ref so), (2, .int (nI (if zfree (zpW s) (zpH s) then 1 else 0))), (3, .int (nI i)), (4, .int (nI (zchs s x))), (5, .int (nI 0))] [] σ1 Q := by
        refine l_inn (x := x) (r := r) hso hS hw hD hwn hwx hnx hL0 hxr.1 hxr.2 hk hLi (zchs s x) 0 (by omega) M σ1 C hSp1 m1 m2 (fun _ => hT1) hF1' hC (fun τ C' lg' q1 q2 q3 q4 => ?_)
        refine ih (i + 1) (match zinn s x r (zchs s x) 0 M with | some M' => M' | none => []) τ C' lg' (by omega) hE2 q1 q2 q3 ?_
        rw [m3, zall]
        cases hz : zinn s x r (zchs s x) 0 M with
        | none =>
          rw [hz] at q4
          simp only at q4
          rw [q4]
          simp
        | some M' =>
          rw [hz] at q4
          simp only at q4
          rw [q4.1]
          simp only [Bool.false_eq_true, if_false]
          exact ⟨q4.2.1, q4.2.2, trivial⟩
      rw [zqv_s]
      by_cases hfr : zfree (zpW s) (zpH s) = true
      · have hch : zchs s x = zasks (zpW s) (zpP s) (zpQ s) (zpl x) := by unfold zchs; rw [if_pos hfr]
        rw [if_pos hfr] at inner ⊢
        rw [if_neg (by decide), hSp1.1.1, hSp1.1.2.1]
        refine ⟨rfl, hT1.1.1, ?_⟩
        refine p_choicesAt hT1 (by omega) (zSr_fr hF1' (by omega) hS) hw (by have := hxr.1.1; have := hxr.1.2.1; omega) ?_
        rw [zqi_s, ← hch]
        exact inner
      · have hch : zchs s x = 1 := by unfold zchs; rw [if_neg hfr]
        rw [if_neg hfr] at inner ⊢
        rw [hch] at inner
        rw [if_pos (by decide)]
        exact inner

/-- two names changed places -/
theorem zSp_ex {τ : zH} {nw nx : Nat} {wt : Nat → Nat} {C : Nat → List (Nat × Nat)} {lg : Bool} (h : zSp τ nw nx wt C lg) : zSp (zsQ (zsQ τ 18 1 nx) 18 2 nw) nx nw wt C lg := zSp_nx (zSp_nw h h.2.2.2.1.2.1) h.2.2.2.1.1
set_option maxHeartbeats 1000000 in
theorem p_plain {d n k so nw nx : Nat} {wt : Nat → Nat} {C : Nat → List (Nat × Nat)} {σ : zH} {D : zDT} {s : zStp} {L : zSt} (hso : 54 ≤ so) (hS : zSr σ so (zpW s) (zpP s) (zpQ s) (zpG s) (zpH s)) (hw : zSw (zpW s) (zpP s) (zpQ s) (zpG s) (zpH s)) (hD : zDk σ D n) (hnx : nw ≠ nx) (hSp : zSp σ nw nx wt C false) (hL0 : C nw = zeC L) (hLk : zSok n k L) (hk : k + zfr1 s ≤ 8) {Q : Option Value → zH → Prop} (hQ : ∀ τ C' lg', zSp τ nx nw wt C' lg' → zFr 18 54 σ τ → (∀ w, zWs w → w ≠ nx → C' w = C w) → (match zall s L [] with | some M' => lg' = false ∧ C' nx = zeC M' ∧ zSok n (k + zfr1 s) M' | none => lg' = true) → Q none τ) : zM (d + 4) 50 [.ref 18, .ref so] σ Q := by
  have ⟨⟨a1, a2, a3, a4, a5⟩, b1, ⟨c1, c2, c3⟩, ⟨d1, d2, d3⟩, e1, f1⟩ := hSp
  refine b50 ?_
  refine ⟨hS.1, e_isFree hS hw ?_⟩
  rw [zqi_s, a1, c2]
  refine ⟨rfl, (e1 nx d2).1.1, p_wclear (e1 nx d2) (fun σ1 hF1 hW1 => ?_)⟩
  rw [zqv_s]
  have hx' := zWs_t d2
  have hSp1 := zSp_w hSp d2 hF1 (L := zeC []) hW1
  have hF : zFr 18 54 σ σ1 := zFr_m hF1 (by omega) (by omega)
  refine l_all hso hS hw hD d1 d2 hnx hL0 hLk hk (fun τ C' lg' q1 q2 q3 q4 => ?_) L 0 [] σ1 _ false (by omega) rfl hSp1 hF (fun w h1 h2 => zu_ne _ _ h2) ?_
  · exact hQ _ C' lg' (zSp_ex q1) (zFr_t q2 (zFr_t (zFr_sQ 1 _ (by omega) (by omega)) (zFr_sQ 2 _ (by omega) (by omega)))) q3 q4
  · simp only [Bool.false_eq_true, if_false]
    exact ⟨zu_same _ _ _, fun e he => by simp at he, trivial⟩
