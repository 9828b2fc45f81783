/-! the reference's trick; go -/
def zRSt (σ : zH) (bk k : Nat) (s : zStp) : Prop := zB σ 168 (48 * bk + k) = lN (zwdn (zpW s)) ∧ zpW s ≤ 12 ∧ zpA s ≤ 40 ∧ zpM s ≤ 40 ∧ (zpW s ≤ 10 → zRs σ (48 * bk + k) (zpW s) (zpP s) (zpQ s) (zpG s) (zpH s) ∧ zSw (zpW s) (zpP s) (zpQ s) (zpG s) (zpH s)) ∧ (zpW s = 11 → zA σ 172 (48 * bk + k) = nI (zpH s) ∧ 2 ≤ zpH s ∧ zpH s ≤ 9 ∧ zA σ 175 (48 * bk + k) = nI (zpA s)) ∧ (zpW s = 12 → zA σ 174 (48 * bk + k) = nI (zpM s) ∧ zA σ 175 (48 * bk + k) = nI (zpA s) ∧ ∃ v C f lo hi, zA σ 173 (48 * bk + k) = nI v ∧ hi ≤ 3200 ∧ zTr σ lo hi f 19 v C ∧ ∀ g, ztop (zev g (zpC s) []) = C g)
def zRk (σ : zH) (bk : Nat) (St : List zStp) : Prop := zI σ 160 29 = nI bk ∧ bk < 2 ∧ zI σ 160 30 = nI St.length ∧ St.length ≤ 40 ∧ ∀ k, k < St.length → zRSt σ bk k (zSg St k)
theorem zRSt_q {σ τ : zH} (h : zFq σ τ) {bk k : Nat} {s : zStp} (hS : zRSt σ bk k s) : zRSt τ bk k s := by
  obtain ⟨b1, b2, b3, b4, b5, b6, b7⟩ := hS
  have h' := h
  obtain ⟨-, -, -, -, -, -, -, hI, hA, hB⟩ := h
  refine ⟨by rw [hB 168 (by omega)]; exact b1, b2, b3, b4, fun e => ⟨zRs_q h' (b5 e).1, (b5 e).2⟩, fun e => by rw [hA 172 (by omega), hA 175 (by omega)]; exact b6 e, fun e => ?_⟩
  obtain ⟨c1, c2, v, C, f, lo, hi, c3, c4, c5, c6⟩ := b7 e
  rw [hA 174 (by omega), hA 175 (by omega), hA 173 (by omega)]
  exact ⟨c1, c2, v, C, f, lo, hi, c3, c4, zTr_q h' c5, c6⟩
theorem zRk_q {σ τ : zH} (h : zFq σ τ) {bk : Nat} {St : List zStp} (hS : zRk σ bk St) : zRk τ bk St := by
  obtain ⟨a1, a2, a3, a4, a5⟩ := hS
  have hI := h.2.2.2.2.2.2.2.1
  exact ⟨by rw [hI 160 29 (by omega)]; exact a1, a2, by rw [hI 160 30 (by omega)]; exact a3, a4, fun k hk => zRSt_q h (a5 k hk)⟩
def zRes (n k : Nat) (σ τ : zH) (st fr : Nat) (res : Option zSt) (lg' : Bool) : Prop := zFq σ τ ∧ (∀ s', s' < fr → s' ≠ st → zSame σ τ s') ∧ zI τ 160 46 = nI (zbn1 lg') ∧ (match res with | some M => lg' = false ∧ zQS τ st (zeR M) ∧ zSok n k M ∧ zSnd M | none => lg' = true)
theorem zRes_t {n k k2 : Nat} {σ τ υ : zH} {st fr : Nat} {res res2 : Option zSt} {lg lg2 : Bool} (h1 : zRes n k σ τ st fr res lg) (h2 : zRes n k2 τ υ st fr res2 lg2) : zRes n k2 σ υ st fr res2 lg2 := ⟨zFq_t h1.1 h2.1, fun s' a b => zSame_t (h1.2.1 s' a b) (h2.2.1 s' a b), h2.2.2.1, h2.2.2.2⟩
set_option maxHeartbeats 4000000 in
theorem l_rgo {n bk : Nat} {D : zDT} {St : List zStp} (hb : zDb D) (h40 : St.length ≤ 40) : ∀ (f d e a b dp st fr : Nat), e + dp = 4 → zwf St f a b dp → b ≤ St.length → st < fr → fr + e ≤ 10 → ∀ (k : Nat) (L : zSt) (σ : zH) (Q : Option Value → zH → Prop), zMb σ → zDR σ D n → zRk σ bk St → zQS σ st (zeR L) → zSok n k L → zSnd L → zI σ 160 46 = nI 0 → k + zch St f a b ≤ 8 → (∀ τ lg', zRes n (k + zch St f a b) σ τ st fr (zgo D St f a b L) lg' → Q none τ) → zW (d + e + 22) 187 3 [(0, .ref 160), (2, .int (nI b)), (3, .int (nI st)), (4, .int (nI fr)), (5, .int (nI a))] [] σ Q := by
  intro f
  induction f with
  | zero =>
    intro d e a b dp st fr he hwf hbl hsf hfe k L σ Q hM hD hRk hL hLk hnd h46 hk hQ
    have hab : a = b := hwf
    refine b187_3 ?_
    rw [if_pos (nI_le (by omega) (by omega))]
    exact hQ σ false ⟨zFq_r σ, fun _ _ _ => zSame_r _ _, h46, rfl, hL, hLk, hnd⟩
  | succ f ih =>
    intro d e a b dp st fr he hwf hbl hsf hfe k L σ Q hM hD hRk hL hLk hnd h46 hk hQ
    rcases hwf with hab | ⟨hab, hwf⟩
    · refine b187_3 ?_
      rw [if_pos (nI_le (by omega) (by omega))]
      refine hQ σ false ⟨zFq_r σ, fun _ _ _ => zSame_r _ _, h46, ?_⟩
      rw [zgo, if_pos (by omega)]
      exact ⟨rfl, hL, zSok_m hLk (by omega), hnd⟩
    have ⟨mK0, mQ1, mK1, mN1, mQ6, mK6, mN6, mQ7, mK7, mN7, mQ8, mK8, mN8, mQ9, mK9, mN9, mQ10, mK10, mN10, mQ11, mK11, mN11, mQ21, mK21, mN21, mQ22, mK22, mN22, mQ23, mK23, mN23, mQ24, mK24, mN24, mQ25, mK25, mN25, mQ26, mK26, mN26, mQ27, mK27, mN27, mQ28, mK28, mN28, mQ32, mK32, mN32, mQ33, mK33, mN33, mQ34, mK34, mN34, mQ35, mK35, mN35, mQ40, mK40, mN40, mQ41, mK41, mN41, mQ42, mK42, mN42, mQ43, mK43, mN43, mQ44, mK44, mN44, mQ45, mK45, mN45, mQ62, mK62, mN62⟩ := hM
    obtain ⟨k1, k2, k3, k4, k5⟩ := hRk
    have hRk : zRk σ bk St := ⟨k1, k2, k3, k4, k5⟩
    have hRS := k5 a (by omega)
    have hRS0 := hRS
    obtain ⟨b1, b2, b3, b4, b5, b6, b7⟩ := hRS
    obtain ⟨si, hsi⟩ : ∃ si, si = 48 * bk + a := ⟨_, rfl⟩
    have hsi96 : si < 96 := by omega
    have hidx : nI 48 * nI bk + nI a = nI si := by rw [pk_mul, nI_add, hsi]
    have hcl : (nI si).toNatClampNeg = si := zcl si (by omega)
    rw [← hsi] at b1 b5 b6 b7
    have hl11 := zlgl (w := zpW (zSg St a)) 11 499984983411 (by omega) (by decide) (by decide)
    have hl12 := zlgl (w := zpW (zSg St a)) 12 26982 (by omega) (by decide) (by decide)
    rw [nI_0] at hl11 hl12
    refine b187_3 ?_
    rw [if_neg (nI_ge hab (by omega)), h46, if_neg (by decide), k1, hidx, mQ21, mK21, mN21, hcl, b1]
    refine ⟨mK0, rfl, vp_in_nI (by omega) (by omega), ?_⟩
    -- behind the step
    have cont : ∀ (c1 : Nat) (res1 : Option zSt), zwf St f (zpA (zSg St a)) b dp → a < zpA (zSg St a) → zgo D St (f + 1) a b L = (match res1 with | none => none | some L' => zgo D St f (zpA (zSg St a)) b L') → zch St (f + 1) a b = c1 + zch St f (zpA (zSg St a)) b → ∀ τ lg1, zRes n (k + c1) σ τ st fr res1 lg1 → zW (d + e + 22) 187 3 [(0, .ref 160), (2, .int (nI b)), (3, .int (nI st)), (4, .int (nI fr)), (5, .int (nI (zpA (zSg St a))))] [] τ Q := by
      intro c1 res1 hwf1 hlt hg hc τ lg1 hr1
      have hr1' := hr1
      obtain ⟨p1, p2, p3, p4⟩ := hr1
      cases res1 with
      | none =>
        simp only at p4 hg
        rw [p4] at p3
        have hq : Q none τ := hQ τ true ⟨p1, p2, p3, by rw [hg]⟩
        refine b187_3 ?_
        split
        · exact hq
        · rw [p3, if_pos (by decide)]
          exact ⟨(zMb_q p1 hM).1, hq⟩
      | some L' =>
        simp only at p4 hg
        obtain ⟨q1, q2, q3, q4⟩ := p4
        rw [q1] at p3
        refine ih d e (zpA (zSg St a)) b dp st fr he hwf1 hbl hsf hfe (k + c1) L' τ Q (zMb_q p1 hM) (zDR_q p1 hD) (zRk_q p1 hRk) q2 q3 q4 p3 (by omega) (fun υ lg2 hr2 => hQ υ lg2 ?_)
        rw [hg, hc, ← Nat.add_assoc]
        exact zRes_t hr1' hr2
    rcases hwf with ⟨w10, wA, hwf1⟩ | ⟨w11, hdp, g1, g2, hwf1, hwf2⟩ | ⟨w12, hdp, g1, g2, g3, hwf1, hwf2, hwf3⟩
    · -- plain
      rw [if_pos (fun q => by have := hl11.mp q; omega), if_pos (fun q => by have := hl12.mp q; omega), nI_add]
      obtain ⟨hRs, hSw⟩ := b5 w10
      have hz : zch St (f + 1) a b = zfr1 (zSg St a) + zch St f (zpA (zSg St a)) b := by rw [zch, if_neg (by omega), if_neg (by omega), if_neg (by omega)]
      refine p_rall (d := d + e + 18) hM hD hsi96 (by omega) hRs hSw hL hLk (by omega) h46 (fun τ lg1 q1 q2 q3 q4 => ?_)
      rw [zqv_s, ← wA]
      refine cont (zfr1 (zSg St a)) (zall (zSg St a) L []) (by rw [wA]; exact hwf1) (by omega) (by rw [zgo, if_neg (by omega), if_neg (by omega), if_neg (by omega)]; cases zall (zSg St a) L [] <;> rfl) hz τ lg1 ⟨q1, fun s' h1 h2 => q2 s' (by omega) h2, q3, ?_⟩
      cases hza : zall (zSg St a) L [] with
      | none => rw [hza] at q4; exact q4
      | some M => rw [hza] at q4; exact ⟨q4.1, q4.2.1, q4.2.2, zall_nd _ _ _ zSnd_nil hza⟩
    · -- times
      rw [if_neg (by rw [hl11]; exact fun q => q w11)]
      obtain ⟨e', rfl⟩ : ∃ e', e = e' + 1 := ⟨e - 1, by omega⟩
      have hz : zch St (f + 1) a b = zpH (zSg St a) * zch St f (a + 1) (zpA (zSg St a)) + zch St f (zpA (zSg St a)) b := by rw [zch, if_neg (by omega), if_pos w11]
      have hrest := cont (zpH (zSg St a) * zch St f (a + 1) (zpA (zSg St a))) (zrep (fun L => zgo D St f (a + 1) (zpA (zSg St a)) L) (zpH (zSg St a)) L) hwf2 g1 (by rw [zgo, if_neg (by omega), if_pos w11]; cases zrep (fun L => zgo D St f (a + 1) (zpA (zSg St a)) L) (zpH (zSg St a)) L <;> rfl) hz
      have loop : ∀ (m j : Nat), j + m = zpH (zSg St a) → ∀ τ lg1 res1, zRes n (k + j * zch St f (a + 1) (zpA (zSg St a))) σ τ st fr res1 lg1 → zrep (fun L => zgo D St f (a + 1) (zpA (zSg St a)) L) (zpH (zSg St a)) L = (match res1 with | none => none | some L' => zrep (fun L => zgo D St f (a + 1) (zpA (zSg St a)) L) m L') → zW (d + (e' + 1) + 22) 187 45 [(0, .ref 160), (2, .int (nI b)), (3, .int (nI st)), (4, .int (nI fr)), (5, .int (nI a)), (6, .int (nI si)), (7, .int (nI j))] [] τ Q := by
        intro m
        induction m with
        | zero =>
          intro j hj τ lg1 res1 hr1 hrr
          have ⟨mK0, mQ1, mK1, mN1, mQ6, mK6, mN6, mQ7, mK7, mN7, mQ8, mK8, mN8, mQ9, mK9, mN9, mQ10, mK10, mN10, mQ11, mK11, mN11, mQ21, mK21, mN21, mQ22, mK22, mN22, mQ23, mK23, mN23, mQ24, mK24, mN24, mQ25, mK25, mN25, mQ26, mK26, mN26, mQ27, mK27, mN27, mQ28, mK28, mN28, mQ32, mK32, mN32, mQ33, mK33, mN33, mQ34, mK34, mN34, mQ35, mK35, mN35, mQ40, mK40, mN40, mQ41, mK41, mN41, mQ42, mK42, mN42, mQ43, mK43, mN43, mQ44, mK44, mN44, mQ45, mK45, mN45, mQ62, mK62, mN62⟩ := zMb_q hr1.1 hM
          have hRS1 := zRSt_q hr1.1 hRS0
          obtain ⟨-, -, -, -, -, d6, -⟩ := hRS1
          rw [← hsi] at d6
          obtain ⟨i1, i2, i3, i4⟩ := d6 w11
          refine b187_45 ?_
          rw [mQ25, mK25, mN25, mQ28, mK28, mN28, hcl, i1, i4, if_pos (nI_le (by omega) (by omega))]
          refine ⟨mK0, rfl, vp_in_nI (by omega) (by omega), rfl, vp_in_nI (by omega) (by omega), hrest τ lg1 ?_⟩
          rw [hrr]
          have hj' : j = zpH (zSg St a) := by omega
          rw [hj'] at hr1
          cases res1 <;> exact hr1
        | succ m ihm =>
          intro j hj τ lg1 res1 hr1 hrr
          have ⟨mK0, mQ1, mK1, mN1, mQ6, mK6, mN6, mQ7, mK7, mN7, mQ8, mK8, mN8, mQ9, mK9, mN9, mQ10, mK10, mN10, mQ11, mK11, mN11, mQ21, mK21, mN21, mQ22, mK22, mN22, mQ23, mK23, mN23, mQ24, mK24, mN24, mQ25, mK25, mN25, mQ26, mK26, mN26, mQ27, mK27, mN27, mQ28, mK28, mN28, mQ32, mK32, mN32, mQ33, mK33, mN33, mQ34, mK34, mN34, mQ35, mK35, mN35, mQ40, mK40, mN40, mQ41, mK41, mN41, mQ42, mK42, mN42, mQ43, mK43, mN43, mQ44, mK44, mN44, mQ45, mK45, mN45, mQ62, mK62, mN62⟩ := zMb_q hr1.1 hM
          have hRS1 := zRSt_q hr1.1 hRS0
          obtain ⟨-, -, -, -, -, d6, -⟩ := hRS1
          rw [← hsi] at d6
          obtain ⟨i1, i2, i3, i4⟩ := d6 w11
          have hr1' := hr1
          obtain ⟨p1, p2, p3, p4⟩ := hr1
          refine b187_45 ?_
          rw [mQ25, mK25, mN25, mQ28, mK28, mN28, hcl, i1, i4, if_neg (nI_ge (by omega) (by omega)), p3]
          refine ⟨mK0, rfl, vp_in_nI (by omega) (by omega), ?_⟩
          cases res1 with
          | none =>
            simp only at p4 hrr
            rw [p4] at p3 ⊢
            rw [if_pos (by decide)]
            refine ⟨rfl, vp_in_nI (by omega) (by omega), hrest τ true ?_⟩
            rw [hrr]
            exact ⟨p1, p2, p3, rfl⟩
          | some L' =>
            simp only at p4 hrr
            obtain ⟨q1, q2, q3, q4⟩ := p4
            rw [q1] at p3 ⊢
            rw [if_neg (by decide), nI_add, nI_add]
            refine ⟨rfl, vp_in_nI (by omega) (by omega), ?_⟩
            have hjm : (j + 1) * zch St f (a + 1) (zpA (zSg St a)) ≤ zpH (zSg St a) * zch St f (a + 1) (zpA (zSg St a)) := Nat.mul_le_mul_right _ (by omega)
            rw [Nat.add_mul] at hjm
            rw [show d + (e' + 1) + 21 = d + e' + 22 by omega]
            refine b187 ?_
            refine ih d e' (a + 1) (zpA (zSg St a)) (dp + 1) st fr (by omega) hwf1 (by omega) hsf (by omega) (k + j * zch St f (a + 1) (zpA (zSg St a))) L' τ _ (zMb_q p1 hM) (zDR_q p1 hD) (zRk_q p1 hRk) q2 q3 q4 p3 (by omega) (fun υ lg2 hr2 => ?_)
            rw [zqv_s, show d + e' + 22 + 1 = d + (e' + 1) + 22 by omega]
            refine ihm (j + 1) (by omega) υ lg2 _ (by rw [Nat.add_mul, Nat.one_mul, ← Nat.add_assoc]; exact zRes_t hr1' hr2) ?_
            rw [hrr, zrep]
            cases zgo D St f (a + 1) (zpA (zSg St a)) L' <;> rfl
      exact loop (zpH (zSg St a)) 0 (by omega) σ false (some L) ⟨zFq_r σ, fun _ _ _ => zSame_r _ _, h46, rfl, hL, zSok_m hLk (by omega), hnd⟩ rfl
    · -- if
      rw [if_pos (by rw [hl11]; omega), if_neg (by rw [hl12]; exact fun q => q w12)]
      obtain ⟨e', rfl⟩ : ∃ e', e = e' + 1 := ⟨e - 1, by omega⟩
      have hz : zch St (f + 1) a b = (zch St f (a + 1) (zpM (zSg St a)) + zch St f (zpM (zSg St a)) (zpA (zSg St a))) + zch St f (zpA (zSg St a)) b := by rw [zch, if_neg (by omega), if_neg (by omega), if_pos w12]
      obtain ⟨i1, i2, v, C, f', lo, hi, i3, i4, i5, i6⟩ := b7 w12
      have hgo : zgo D St (f + 1) a b L = (match (match zgo D St f (a + 1) (zpM (zSg St a)) (L.filter (fun e => zmeet D (zpC (zSg St a)) e.1)) with | none => none | some M1 => match zgo D St f (zpM (zSg St a)) (zpA (zSg St a)) (L.filter (fun e => !zmeet D (zpC (zSg St a)) e.1)) with | none => none | some M2 => zjn M2 M1) with | none => none | some L' => zgo D St f (zpA (zSg St a)) b L') := by
        rw [zgo, if_neg (by omega), if_neg (by omega), if_pos w12]
        cases zgo D St f (a + 1) (zpM (zSg St a)) (L.filter (fun e => zmeet D (zpC (zSg St a)) e.1)) with
        | none => rfl
        | some M1 =>
          simp only
          cases zgo D St f (zpM (zSg St a)) (zpA (zSg St a)) (L.filter (fun e => !zmeet D (zpC (zSg St a)) e.1)) with
          | none => rfl
          | some M2 =>
            simp only
            cases zjn M2 M1 <;> rfl
      have hrest := cont _ _ hwf3 (by omega) hgo hz
      -- the way behind all of it
      have at181 : ∀ τ lg1, zFq σ τ → (∀ s', s' < fr → s' ≠ st → zSame σ τ s') → zI τ 160 46 = nI (zbn1 lg1) → (if lg1 then (match zgo D St f (a + 1) (zpM (zSg St a)) (L.filter (fun e => zmeet D (zpC (zSg St a)) e.1)) with | none => none | some M1 => match zgo D St f (zpM (zSg St a)) (zpA (zSg St a)) (L.filter (fun e => !zmeet D (zpC (zSg St a)) e.1)) with | none => none | some M2 => zjn M2 M1) = none else ∃ M1 M2, zgo D St f (a + 1) (zpM (zSg St a)) (L.filter (fun e => zmeet D (zpC (zSg St a)) e.1)) = some M1 ∧ zgo D St f (zpM (zSg St a)) (zpA (zSg St a)) (L.filter (fun e => !zmeet D (zpC (zSg St a)) e.1)) = some M2 ∧ zQS τ st (zeR M1) ∧ zQS τ fr (zeR M2) ∧ zSok n (k + zch St f (a + 1) (zpM (zSg St a))) M1 ∧ zSok n (k + zch St f (zpM (zSg St a)) (zpA (zSg St a))) M2 ∧ zSnd M1) → zW (d + (e' + 1) + 22) 187 181 [(0, .ref 160), (2, .int (nI b)), (3, .int (nI st)), (4, .int (nI fr)), (6, .int (nI si))] [] τ Q := by
        intro τ lg1 p1 p2 p3 p4
        have ⟨mK0, mQ1, mK1, mN1, mQ6, mK6, mN6, mQ7, mK7, mN7, mQ8, mK8, mN8, mQ9, mK9, mN9, mQ10, mK10, mN10, mQ11, mK11, mN11, mQ21, mK21, mN21, mQ22, mK22, mN22, mQ23, mK23, mN23, mQ24, mK24, mN24, mQ25, mK25, mN25, mQ26, mK26, mN26, mQ27, mK27, mN27, mQ28, mK28, mN28, mQ32, mK32, mN32, mQ33, mK33, mN33, mQ34, mK34, mN34, mQ35, mK35, mN35, mQ40, mK40, mN40, mQ41, mK41, mN41, mQ42, mK42, mN42, mQ43, mK43, mN43, mQ44, mK44, mN44, mQ45, mK45, mN45, mQ62, mK62, mN62⟩ := zMb_q p1 hM
        obtain ⟨-, -, -, -, -, -, d7⟩ := zRSt_q p1 hRS0
        rw [← hsi] at d7
        have j2 := (d7 w12).2.1
        refine b187_181 ?_
        rw [p3, mQ28, mK28, mN28, hcl, j2]
        refine ⟨mK0, ?_⟩
        cases lg1 with
        | true =>
          simp only [if_true] at p4
          rw [if_pos (by decide)]
          refine ⟨rfl, vp_in_nI (by omega) (by omega), hrest τ true ⟨p1, p2, p3, ?_⟩⟩
          rw [p4]
        | false =>
          simp only [Bool.false_eq_true, if_false] at p4
          obtain ⟨M1, M2, m1, m2, m3, m4, m5, m6, m7⟩ := p4
          rw [if_neg (by decide)]
          refine p_rjoin (d := d + e' + 20) (k := k + (zch St f (a + 1) (zpM (zSg St a)) + zch St f (zpM (zSg St a)) (zpA (zSg St a)))) (zMb_q p1 hM) (by omega) (by omega) m3 m4 (zSok_m m5 (by omega)) (zSok_m m6 (by omega)) (by omega) m7 p3 (fun υ lg2 q1 q2 q3 q4 => ?_)
          have hF2 := zFq_t p1 q1
          have ⟨mK0, mQ1, mK1, mN1, mQ6, mK6, mN6, mQ7, mK7, mN7, mQ8, mK8, mN8, mQ9, mK9, mN9, mQ10, mK10, mN10, mQ11, mK11, mN11, mQ21, mK21, mN21, mQ22, mK22, mN22, mQ23, mK23, mN23, mQ24, mK24, mN24, mQ25, mK25, mN25, mQ26, mK26, mN26, mQ27, mK27, mN27, mQ28, mK28, mN28, mQ32, mK32, mN32, mQ33, mK33, mN33, mQ34, mK34, mN34, mQ35, mK35, mN35, mQ40, mK40, mN40, mQ41, mK41, mN41, mQ42, mK42, mN42, mQ43, mK43, mN43, mQ44, mK44, mN44, mQ45, mK45, mN45, mQ62, mK62, mN62⟩ := zMb_q hF2 hM
          obtain ⟨-, -, -, -, -, -, d7'⟩ := zRSt_q hF2 hRS0
          rw [← hsi] at d7'
          rw [zqv_s, mQ28, mK28, mN28, (d7' w12).2.1]
          refine ⟨mK0, rfl, vp_in_nI (by omega) (by omega), hrest υ lg2 ⟨hF2, fun s' h1 h2 => zSame_t (p2 s' h1 h2) (q2 s' (by omega) h2), q3, ?_⟩⟩
          rw [m1]
          simp only
          rw [m2]
          simp only
          cases hj : zjn M2 M1 with
          | none => rw [hj] at q4; exact q4
          | some M => rw [hj] at q4; exact ⟨q4.1, q4.2.1, q4.2.2, zjn_nd _ _ _ m7 hj⟩
      refine p_rpart (d := d + e' + 1) hM hD hb hsi96 (by omega) (by omega) (by omega) i3 i4 i5 i6 hL hLk (by omega) (fun τ q1 q2 q3 q4 q5 => ?_)
      rw [h46] at q5
      have hM1 := zMb_q q1 hM
      have ⟨mK0, mQ1, mK1, mN1, mQ6, mK6, mN6, mQ7, mK7, mN7, mQ8, mK8, mN8, mQ9, mK9, mN9, mQ10, mK10, mN10, mQ11, mK11, mN11, mQ21, mK21, mN21, mQ22, mK22, mN22, mQ23, mK23, mN23, mQ24, mK24, mN24, mQ25, mK25, mN25, mQ26, mK26, mN26, mQ27, mK27, mN27, mQ28, mK28, mN28, mQ32, mK32, mN32, mQ33, mK33, mN33, mQ34, mK34, mN34, mQ35, mK35, mN35, mQ40, mK40, mN40, mQ41, mK41, mN41, mQ42, mK42, mN42, mQ43, mK43, mN43, mQ44, mK44, mN44, mQ45, mK45, mN45, mQ62, mK62, mN62⟩ := hM1
      obtain ⟨-, -, -, -, -, -, d7⟩ := zRSt_q q1 hRS0
      rw [← hsi] at d7
      rw [zqv_s, q5, if_neg (by decide), mQ27, mK27, mN27, (d7 w12).1, nI_add, nI_add]
      refine ⟨mK0, rfl, vp_in_nI (by omega) (by omega), ?_⟩
      rw [show d + (e' + 1) + 21 = d + e' + 22 by omega]
      refine b187 ?_
      refine ih d e' (a + 1) (zpM (zSg St a)) (dp + 1) st (fr + 1) (by omega) hwf1 (by omega) (by omega) (by omega) k _ τ _ hM1 (zDR_q q1 hD) (zRk_q q1 hRk) q2 (zfilter_ok hLk _) (zSnd_f hnd _) q5 (by omega) (fun υ lg1 hr1 => ?_)
      obtain ⟨p1, p2, p3, p4⟩ := hr1
      have hF1 := zFq_t q1 p1
      have hM2 := zMb_q hF1 hM
      have sm1 : ∀ s', s' < fr → s' ≠ st → zSame σ υ s' := fun s' h1 h2 => zSame_t (q4 s' (by omega) h2 (by omega)) (p2 s' (by omega) h2)
      rw [zqv_s, show d + e' + 22 + 1 = d + (e' + 1) + 22 by omega]
      have ⟨mK0, mQ1, mK1, mN1, mQ6, mK6, mN6, mQ7, mK7, mN7, mQ8, mK8, mN8, mQ9, mK9, mN9, mQ10, mK10, mN10, mQ11, mK11, mN11, mQ21, mK21, mN21, mQ22, mK22, mN22, mQ23, mK23, mN23, mQ24, mK24, mN24, mQ25, mK25, mN25, mQ26, mK26, mN26, mQ27, mK27, mN27, mQ28, mK28, mN28, mQ32, mK32, mN32, mQ33, mK33, mN33, mQ34, mK34, mN34, mQ35, mK35, mN35, mQ40, mK40, mN40, mQ41, mK41, mN41, mQ42, mK42, mN42, mQ43, mK43, mN43, mQ44, mK44, mN44, mQ45, mK45, mN45, mQ62, mK62, mN62⟩ := hM2
      obtain ⟨-, -, -, -, -, -, d7'⟩ := zRSt_q hF1 hRS0
      rw [← hsi] at d7'
      refine b187_150 ?_
      rw [p3, mQ27, mK27, mN27, mQ28, mK28, mN28, hcl, (d7' w12).1, (d7' w12).2.1]
      refine ⟨mK0, ?_⟩
      cases hg1 : zgo D St f (a + 1) (zpM (zSg St a)) (L.filter (fun e => zmeet D (zpC (zSg St a)) e.1)) with
      | none =>
        rw [hg1] at p4
        simp only at p4
        rw [p4, if_pos (by decide)]
        refine at181 υ true hF1 sm1 (by rw [p3, p4]) ?_
        simp only [if_true]
        rw [hg1]
      | some M1 =>
        rw [hg1] at p4
        simp only at p4
        obtain ⟨o1, o2, o3, o4⟩ := p4
        rw [o1] at p3
        rw [o1, if_neg (by decide), nI_add]
        refine ⟨rfl, vp_in_nI (by omega) (by omega), rfl, vp_in_nI (by omega) (by omega), ?_⟩
        rw [show d + (e' + 1) + 21 = d + e' + 22 by omega]
        refine b187 ?_
        refine ih d e' (zpM (zSg St a)) (zpA (zSg St a)) (dp + 1) fr (fr + 1) (by omega) hwf2 (by omega) (by omega) (by omega) k _ υ _ hM2 (zDR_q hF1 hD) (zRk_q hF1 hRk) (zQS_same (p2 fr (by omega) (by omega)) q3) (zfilter_ok hLk _) (zSnd_f hnd _) p3 (by omega) (fun ω lg2 hr2 => ?_)
        obtain ⟨t1, t2, t3, t4⟩ := hr2
        have hF2 := zFq_t hF1 t1
        have sm2 : ∀ s', s' < fr → s' ≠ st → zSame σ ω s' := fun s' h1 h2 => zSame_t (sm1 s' h1 h2) (t2 s' (by omega) (by omega))
        rw [zqv_s, show d + e' + 22 + 1 = d + (e' + 1) + 22 by omega]
        refine at181 ω lg2 hF2 sm2 t3 ?_
        cases hg2 : zgo D St f (zpM (zSg St a)) (zpA (zSg St a)) (L.filter (fun e => !zmeet D (zpC (zSg St a)) e.1)) with
        | none =>
          rw [hg2] at t4
          simp only at t4
          rw [t4, hg1]
          simp
        | some M2 =>
          rw [hg2] at t4
          simp only at t4
          rw [t4.1]
          simp only [Bool.false_eq_true, if_false]
          exact ⟨M1, M2, hg1, rfl, zQS_same (t2 st (by omega) (by omega)) o2, t4.2.1, o3, t4.2.2.1, o4⟩
