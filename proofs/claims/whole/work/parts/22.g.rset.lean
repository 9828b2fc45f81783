/-! no way twice -/
def zSnd (L : zSt) : Prop := (L.map (fun e => e.1)).Nodup
theorem zinsS_keys {x : zTS} {r : List Nat} : ∀ (L : zSt), (zinsS L x r).map (fun e => e.1) = if x ∈ L.map (fun e => e.1) then L.map (fun e => e.1) else L.map (fun e => e.1) ++ [x]
  | [] => by simp [zinsS]
  | (y, s) :: L => by
    rw [zinsS]
    by_cases e : y = x
    · subst e
      simp
    · rw [if_neg e, List.map_cons, zinsS_keys L, List.map_cons]
      by_cases h : x ∈ L.map (fun e => e.1)
      · rw [if_pos h, if_pos (List.mem_cons_of_mem _ h)]
      · rw [if_neg h, if_neg (by simp only [List.mem_cons, not_or]; exact ⟨fun q => e q.symm, h⟩)]
        rfl
theorem zputS_nd {L M : zSt} {x : zTS} {r : List Nat} (h : zSnd L) (hp : zputS L x r = some M) : zSnd M := by
  unfold zputS at hp
  split at hp
  · rw [← Option.some.inj hp]
    unfold zSnd at *
    rw [zinsS_keys]
    split
    · exact h
    · rename_i hx
      rw [List.nodup_append]
      refine ⟨h, by simp, fun a ha b hb => ?_⟩
      simp only [List.mem_singleton] at hb
      rw [hb]
      exact fun q => hx (by rw [← q]; exact ha)
  · simp at hp
theorem zinn_nd {s : zStp} {x : zTS} {r : List Nat} : ∀ (m c : Nat) (M M' : zSt), zSnd M → zinn s x r m c M = some M' → zSnd M'
  | 0, _, M, M', h, e => by rw [zinn] at e; rw [← Option.some.inj e]; exact h
  | m + 1, c, M, M', h, e => by
    rw [zinn] at e
    cases hp : zputS M (zacS s x c) (zrw s r c) with
    | none => rw [hp] at e; simp at e
    | some M1 => rw [hp] at e; exact zinn_nd m (c + 1) M1 M' (zputS_nd h hp) e
theorem zall_nd {s : zStp} : ∀ (E M M' : zSt), zSnd M → zall s E M = some M' → zSnd M'
  | [], M, M', h, e => by rw [zall] at e; rw [← Option.some.inj e]; exact h
  | (x, r) :: E, M, M', h, e => by
    rw [zall] at e
    cases hp : zinn s x r (zchs s x) 0 M with
    | none => rw [hp] at e; simp at e
    | some M1 => rw [hp] at e; exact zall_nd E M1 M' (zinn_nd _ _ _ _ h hp) e
theorem zjn_nd : ∀ (E M M' : zSt), zSnd M → zjn E M = some M' → zSnd M'
  | [], M, M', h, e => by rw [zjn] at e; rw [← Option.some.inj e]; exact h
  | (x, r) :: E, M, M', h, e => by
    rw [zjn] at e
    cases hp : zputS M x r with
    | none => rw [hp] at e; simp at e
    | some M1 => rw [hp] at e; exact zjn_nd E M1 M' (zputS_nd h hp) e
theorem zSnd_f {L : zSt} (h : zSnd L) (p : zTS × List Nat → Bool) : zSnd (L.filter p) := by
  unfold zSnd at *
  exact List.Nodup.sublist (List.Sublist.map _ List.filter_sublist) h
theorem zSnd_nil : zSnd [] := by simp [zSnd]
theorem zgo_nd {D : zDT} {St : List zStp} : ∀ (f a b : Nat) (L M : zSt), zSnd L → zgo D St f a b L = some M → zSnd M
  | 0, _, _, L, M, h, e => by rw [zgo] at e; rw [← Option.some.inj e]; exact h
  | f + 1, a, b, L, M, h, e => by
    rw [zgo] at e
    split at e
    · rw [← Option.some.inj e]; exact h
    · split at e
      · have hrep : ∀ (m : Nat) (L L' : zSt), zSnd L → zrep (fun L => zgo D St f (a + 1) (zpA (zSg St a)) L) m L = some L' → zSnd L' := by
          intro m
          induction m with
          | zero => intro L L' h e; rw [zrep] at e; rw [← Option.some.inj e]; exact h
          | succ m ih =>
            intro L L' h e
            rw [zrep] at e
            cases hp : zgo D St f (a + 1) (zpA (zSg St a)) L with
            | none => rw [hp] at e; simp at e
            | some M1 => rw [hp] at e; exact ih M1 L' (zgo_nd f _ _ _ _ h hp) e
        cases hp : zrep (fun L => zgo D St f (a + 1) (zpA (zSg St a)) L) (zpH (zSg St a)) L with
        | none => rw [hp] at e; simp at e
        | some M1 => rw [hp] at e; exact zgo_nd f _ _ _ _ (hrep _ _ _ h hp) e
      · split at e
        · cases h1 : zgo D St f (a + 1) (zpM (zSg St a)) (L.filter (fun e => zmeet D (zpC (zSg St a)) e.1)) with
          | none => rw [h1] at e; simp at e
          | some M1 =>
            rw [h1] at e
            simp only at e
            cases h2 : zgo D St f (zpM (zSg St a)) (zpA (zSg St a)) (L.filter (fun e => !zmeet D (zpC (zSg St a)) e.1)) with
            | none => rw [h2] at e; simp at e
            | some M2 =>
              rw [h2] at e
              simp only at e
              cases h3 : zjn M2 M1 with
              | none => rw [h3] at e; simp at e
              | some M3 =>
                rw [h3] at e
                exact zgo_nd f _ _ _ _ (zjn_nd _ _ _ (zgo_nd f _ _ _ _ (zSnd_f h _) h1) h3) e
        · cases hp : zall (zSg St a) L [] with
          | none => rw [hp] at e; simp at e
          | some M1 => rw [hp] at e; exact zgo_nd f _ _ _ _ (zall_nd _ _ _ zSnd_nil hp) e
/-- the first ones of a set, put one by one -/
theorem zjn_self : ∀ (E M : zSt), zSnd (M ++ E) → (M ++ E).length ≤ 3000 → zjn E M = some (M ++ E)
  | [], M, _, _ => by rw [zjn, List.append_nil]
  | (x, r) :: E, M, hn, hl => by
    have hx : x ∉ M.map (fun e => e.1) := by
      unfold zSnd at hn
      rw [List.map_append, List.nodup_append] at hn
      intro q
      exact hn.2.2 x q x (by simp) rfl
    have hp : zputS M x r = some (M ++ [(x, r)]) := by
      unfold zputS
      rw [List.length_append, List.length_cons] at hl
      rw [if_pos (Or.inr (by omega))]
      have : ∀ L : zSt, x ∉ L.map (fun e => e.1) → zinsS L x r = L ++ [(x, r)] := by
        intro L
        induction L with
        | nil => intro _; rfl
        | cons y L ih =>
          intro h
          obtain ⟨y1, y2⟩ := y
          simp only [List.map_cons, List.mem_cons, not_or] at h
          rw [zinsS, if_neg (fun q => h.1 q.symm), ih h.2]
          rfl
      rw [this M hx]
    rw [zjn, hp]
    have e : M ++ (x, r) :: E = M ++ [(x, r)] ++ E := by simp
    rw [e] at hn hl ⊢
    exact zjn_self E _ hn hl
set_option maxHeartbeats 4000000 in
theorem p_rjoin {d n k st ot : Nat} {σ : zH} {L1 L2 : zSt} (hM : zMb σ) (hst : st < 11) (hot : ot < 11) (h1 : zQS σ st (zeR L1)) (h2 : zQS σ ot (zeR L2)) (hk1 : zSok n k L1) (hk2 : zSok n k L2) (hk8 : k ≤ 8) (hnd : zSnd L1) (h46 : zI σ 160 46 = nI 0) {Q : Option Value → zH → Prop} (hQ : ∀ τ lg', zFq σ τ → (∀ s', s' < 11 → s' ≠ st → zSame σ τ s') → zI τ 160 46 = nI (zbn1 lg') → (match zjn L2 L1 with | some M => lg' = false ∧ zQS τ st (zeR M) ∧ zSok n k M | none => lg' = true) → Q none τ) : zM (d + 2) 191 [.ref 160, .int (nI st), .int (nI ot)] σ Q := by
  obtain ⟨l1, l2, l3⟩ := zQS_get h1
  obtain ⟨r1, r2, r3⟩ := zQS_get h2
  have hcls : (nI st).toNatClampNeg = st := zcl st (by omega)
  have hclo : (nI ot).toNatClampNeg = ot := zcl ot (by omega)
  have hself := zjn_self L1 [] hnd (by simpa using l2)
  rw [List.nil_append] at hself
  have copy : ∀ τ lg' M', zFil τ n k lg' M' → zFq σ τ → (∀ s', s' < 11 → zSame σ τ s') → (match zjn L2 L1 with | some M => lg' = false ∧ M' = M | none => lg' = true) → zM (d + 1) 189 [.ref 160, .int (nI 11), .int (nI st)] τ (fun r σ105 => zqv r (Q none σ105)) := by
    intro τ lg' M' hFil hF hSm hres
    obtain ⟨h1, h2, h3, L', h4, h5⟩ := hFil
    cases lg' with
    | true =>
      refine p_rcopy (zMb_q hF hM) hst h4 (fun υ q1 q2 q3 q4 q5 => ?_)
      rw [zqv_s]
      refine hQ υ true (zFq_t hF q1) (fun s' h1 h2 => zSame_t (hSm s' h1) (q4 s' h1 h2)) (by rw [q5]; exact h1) ?_
      cases hz : zjn L2 L1 with
      | none => rfl
      | some M => rw [hz] at hres; simp at hres
    | false =>
      obtain ⟨g1, g2, g3⟩ := h3 rfl
      refine p_rcopy (zMb_q hF hM) hst g1 (fun υ q1 q2 q3 q4 q5 => ?_)
      rw [zqv_s]
      refine hQ υ false (zFq_t hF q1) (fun s' h1 h2 => zSame_t (hSm s' h1) (q4 s' h1 h2)) (by rw [q5]; exact h1) ?_
      cases hz : zjn L2 L1 with
      | none => rw [hz] at hres; simp at hres
      | some M =>
        rw [hz] at hres
        simp only at hres
        rw [← hres.2]
        exact ⟨rfl, q3, g3⟩
  -- the second set
  have loop2 : ∀ (E : zSt) (i : Nat) (M : zSt) (lg : Bool) (τ : zH), i ≤ L2.length → L2.drop i = E → zFil τ n k lg M → zFq σ τ → (∀ s', s' < 11 → zSame σ τ s') → (if lg then zjn L2 L1 = none else zjn L2 L1 = zjn E M) → zW (d + 2) 191 68 [(0, .ref 160), (1, .int (nI st)), (2, .int (nI ot)), (3, .int (nI 11)), (4, .int (nI i))] [] τ Q := by
    intro E
    induction E with
    | nil =>
      intro i M lg τ hiL hE hFil hF hSm hlg
      have hM1 := zMb_q hF hM
      have ⟨mK0, mQ1, mK1, mN1, mQ6, mK6, mN6, mQ7, mK7, mN7, mQ8, mK8, mN8, mQ9, mK9, mN9, mQ10, mK10, mN10, mQ11, mK11, mN11, mQ21, mK21, mN21, mQ22, mK22, mN22, mQ23, mK23, mN23, mQ24, mK24, mN24, mQ25, mK25, mN25, mQ26, mK26, mN26, mQ27, mK27, mN27, mQ28, mK28, mN28, mQ32, mK32, mN32, mQ33, mK33, mN33, mQ34, mK34, mN34, mQ35, mK35, mN35, mQ40, mK40, mN40, mQ41, mK41, mN41, mQ42, mK42, mN42, mQ43, mK43, mN43, mQ44, mK44, mN44, mQ45, mK45, mN45, mQ62, mK62, mN62⟩ := hM1
      have hi : L2.length ≤ i := List.drop_eq_nil_iff.mp hE
      have e1 : zA τ 184 ot = nI L2.length := by rw [(hSm ot hot).1]; exact r1
      refine b191_68 ?_
      rw [mQ44, mK44, mN44, hclo, e1, if_pos (nI_le hi (by omega))]
      refine ⟨mK0, rfl, vp_in_nI (by omega) (by omega), copy τ lg M hFil hF hSm ?_⟩
      cases lg with
      | true => simp only [if_true] at hlg; rw [hlg]
      | false => simp only [Bool.false_eq_true, if_false] at hlg; rw [hlg, zjn]; exact ⟨rfl, rfl⟩
    | cons e E ih =>
      intro i M lg τ hiL hE hFil hF hSm hlg
      obtain ⟨x, r⟩ := e
      obtain ⟨hLi, hE2⟩ := zdrop_get hE
      have hM1 := zMb_q hF hM
      have ⟨mK0, mQ1, mK1, mN1, mQ6, mK6, mN6, mQ7, mK7, mN7, mQ8, mK8, mN8, mQ9, mK9, mN9, mQ10, mK10, mN10, mQ11, mK11, mN11, mQ21, mK21, mN21, mQ22, mK22, mN22, mQ23, mK23, mN23, mQ24, mK24, mN24, mQ25, mK25, mN25, mQ26, mK26, mN26, mQ27, mK27, mN27, mQ28, mK28, mN28, mQ32, mK32, mN32, mQ33, mK33, mN33, mQ34, mK34, mN34, mQ35, mK35, mN35, mQ40, mK40, mN40, mQ41, mK41, mN41, mQ42, mK42, mN42, mQ43, mK43, mN43, mQ44, mK44, mN44, mQ45, mK45, mN45, mQ62, mK62, mN62⟩ := hM1
      obtain ⟨e1, e2, e3⟩ := zQS_get (zQS_same (hSm ot hot) h2)
      obtain ⟨g1, g2, g3⟩ := e3 i x r hLi
      have hxr : zVS n x ∧ zrok k r := hk2 (x, r) (List.mem_of_getElem? hLi)
      have hcl2 : (nI 3001 * nI ot + nI i).toNatClampNeg = 3001 * ot + i := by rw [pk_mul, nI_add]; exact zcl _ (by omega)
      have hvp : vp_in (nI 3001 * nI ot + nI i) 36012 := by rw [pk_mul, nI_add]; exact vp_in_nI (by omega) (by omega)
      refine b191_68 ?_
      rw [mQ44, mK44, mN44, hclo, e1, if_neg (nI_ge (by omega) (by omega)), hFil.1]
      refine ⟨mK0, rfl, vp_in_nI (by omega) (by omega), ?_⟩
      cases lg with
      | true =>
        simp only [if_true] at hlg
        rw [if_pos (by decide)]
        refine copy τ true M hFil hF hSm ?_
        rw [hlg]
      | false =>
        simp only [Bool.false_eq_true, if_false] at hlg
        rw [if_neg (by decide), mQ42, mQ43, mK42, mK43, mN42, mN43, hcl2, g1, g2]
        refine ⟨rfl, hvp, rfl, hvp, p_fill hM1 hFil hk8 hxr.1 hxr.2 (fun υ lg' M' p1 p2 p3 p4 p5 => ?_)⟩
        rw [zqv_s, nI_add]
        simp only [Bool.false_eq_true, if_false] at p5
        refine ih (i + 1) M' lg' υ (by omega) hE2 p3 (zFq_t hF p1) (fun s' hs' => zSame_t (hSm s' hs') (p4 s' hs')) ?_
        rw [hlg, zjn]
        cases hz : zputS M x r with
        | none => rw [hz] at p5; simp only at p5; rw [p5]; simp
        | some M1 => rw [hz] at p5; simp only at p5; rw [p5.1, p5.2]; simp
  have loop1 : ∀ (E : zSt) (i : Nat) (M : zSt) (τ : zH), i ≤ L1.length → L1.drop i = E → zFil τ n k false M → zFq σ τ → (∀ s', s' < 11 → zSame σ τ s') → zjn E M = some L1 → zW (d + 2) 191 11 [(0, .ref 160), (1, .int (nI st)), (2, .int (nI ot)), (3, .int (nI 11)), (4, .int (nI i))] [] τ Q := by
    intro E
    induction E with
    | nil =>
      intro i M τ hiL hE hFil hF hSm hlg
      have hM1 := zMb_q hF hM
      have ⟨mK0, mQ1, mK1, mN1, mQ6, mK6, mN6, mQ7, mK7, mN7, mQ8, mK8, mN8, mQ9, mK9, mN9, mQ10, mK10, mN10, mQ11, mK11, mN11, mQ21, mK21, mN21, mQ22, mK22, mN22, mQ23, mK23, mN23, mQ24, mK24, mN24, mQ25, mK25, mN25, mQ26, mK26, mN26, mQ27, mK27, mN27, mQ28, mK28, mN28, mQ32, mK32, mN32, mQ33, mK33, mN33, mQ34, mK34, mN34, mQ35, mK35, mN35, mQ40, mK40, mN40, mQ41, mK41, mN41, mQ42, mK42, mN42, mQ43, mK43, mN43, mQ44, mK44, mN44, mQ45, mK45, mN45, mQ62, mK62, mN62⟩ := hM1
      have hi : L1.length ≤ i := List.drop_eq_nil_iff.mp hE
      have e1 : zA τ 184 st = nI L1.length := by rw [(hSm st hst).1]; exact l1
      rw [zjn] at hlg
      have hM' := Option.some.inj hlg
      subst hM'
      refine b191_11 ?_
      rw [mQ44, mK44, mN44, hcls, e1, if_pos (nI_le hi (by omega))]
      exact ⟨mK0, rfl, vp_in_nI (by omega) (by omega), loop2 L2 0 M false τ (by omega) rfl hFil hF hSm (by simp)⟩
    | cons e E ih =>
      intro i M τ hiL hE hFil hF hSm hlg
      obtain ⟨x, r⟩ := e
      obtain ⟨hLi, hE2⟩ := zdrop_get hE
      have hM1 := zMb_q hF hM
      have ⟨mK0, mQ1, mK1, mN1, mQ6, mK6, mN6, mQ7, mK7, mN7, mQ8, mK8, mN8, mQ9, mK9, mN9, mQ10, mK10, mN10, mQ11, mK11, mN11, mQ21, mK21, mN21, mQ22, mK22, mN22, mQ23, mK23, mN23, mQ24, mK24, mN24, mQ25, mK25, mN25, mQ26, mK26, mN26, mQ27, mK27, mN27, mQ28, mK28, mN28, mQ32, mK32, mN32, mQ33, mK33, mN33, mQ34, mK34, mN34, mQ35, mK35, mN35, mQ40, mK40, mN40, mQ41, mK41, mN41, mQ42, mK42, mN42, mQ43, mK43, mN43, mQ44, mK44, mN44, mQ45, mK45, mN45, mQ62, mK62, mN62⟩ := hM1
      obtain ⟨e1, e2, e3⟩ := zQS_get (zQS_same (hSm st hst) h1)
      obtain ⟨g1, g2, g3⟩ := e3 i x r hLi
      have hxr : zVS n x ∧ zrok k r := hk1 (x, r) (List.mem_of_getElem? hLi)
      have hcl2 : (nI 3001 * nI st + nI i).toNatClampNeg = 3001 * st + i := by rw [pk_mul, nI_add]; exact zcl _ (by omega)
      have hvp : vp_in (nI 3001 * nI st + nI i) 36012 := by rw [pk_mul, nI_add]; exact vp_in_nI (by omega) (by omega)
      refine b191_11 ?_
      rw [mQ44, mK44, mN44, hcls, e1, if_neg (nI_ge (by omega) (by omega)), hFil.1, if_neg (by decide), mQ42, mQ43, mK42, mK43, mN42, mN43, hcl2, g1, g2]
      refine ⟨mK0, rfl, vp_in_nI (by omega) (by omega), rfl, hvp, rfl, hvp, p_fill hM1 hFil hk8 hxr.1 hxr.2 (fun υ lg' M' p1 p2 p3 p4 p5 => ?_)⟩
      rw [zqv_s, nI_add]
      simp only [Bool.false_eq_true, if_false] at p5
      rw [zjn] at hlg
      cases hz : zputS M x r with
      | none => rw [hz] at hlg; simp at hlg
      | some M1 =>
        rw [hz] at p5 hlg
        simp only at p5 hlg
        rw [p5.1, p5.2] at p3
        exact ih (i + 1) M1 υ (by omega) hE2 p3 (zFq_t hF p1) (fun s' hs' => zSame_t (hSm s' hs') (p4 s' hs')) hlg
  refine b191 ?_
  refine ⟨hM.1, p_rbegin (d := d) hM (fun τ q1 q2 q3 q4 q5 q6 q7 => ?_)⟩
  rw [zqv_s]
  exact loop1 L1 0 [] τ (by omega) rfl ⟨by rw [q6]; exact h46, q7, fun _ => ⟨q3, q4, fun e he => by simp at he⟩, [], q3, q4⟩ q1 q5 hself
