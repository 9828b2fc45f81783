/-! cards and card, on -/
def zJcd (i : Nat) : Prop := i = 0 ∨ i = 5 ∨ i = 51 ∨ i = 56 ∨ i = 59
def zAcd (a : Nat) : Prop := 162 ≤ a ∧ a ≤ 165
set_option maxHeartbeats 2000000 in
theorem l_fresh {d n : Nat} {σ : zH} {D : zDT} (hM : zMb σ) {Q : Option Value → zH → Prop} (hQ : ∀ τ, zFm zJcd zN0 zAcd σ τ → zDR τ (zfrD 10 D) n → (∀ i, i < 9 → zA τ 165 i = nI (i + 1)) → zI τ 160 51 = nI 0 → zI τ 160 56 = nI 0 → zI τ 160 59 = nI 0 → Q none τ) : ∀ (e c : Nat) (τ : zH), c + e = 10 → 1 ≤ c → zFm zJcd zN0 zAcd σ τ → zDR τ (zfrD c D) n → (∀ i, i + 1 < c → zA τ 165 i = nI (i + 1)) → zW d 132 2 [(0, .ref 160), (1, .int (nI c))] [] τ Q := by
  intro e
  induction e with
  | zero =>
    intro c τ hc h1 hF hD hR
    have ⟨mK0, mQ1, mK1, mN1, mQ6, mK6, mN6, mQ7, mK7, mN7, mQ8, mK8, mN8, mQ9, mK9, mN9, mQ10, mK10, mN10, mQ11, mK11, mN11, mQ21, mK21, mN21, mQ22, mK22, mN22, mQ23, mK23, mN23, mQ24, mK24, mN24, mQ25, mK25, mN25, mQ26, mK26, mN26, mQ27, mK27, mN27, mQ28, mK28, mN28, mQ32, mK32, mN32, mQ33, mK33, mN33, mQ34, mK34, mN34, mQ35, mK35, mN35, mQ40, mK40, mN40, mQ41, mK41, mN41, mQ42, mK42, mN42, mQ43, mK43, mN43, mQ44, mK44, mN44, mQ45, mK45, mN45, mQ62, mK62, mN62⟩ := zMb_m hF hM
    refine b132_2 ?_
    rw [if_pos (nI_le (by omega) (by omega))]
    have e10 : c = 10 := by omega
    rw [e10] at hD hR
    refine ⟨mK0, hQ _ (zFm_t (zFm_t (zFm_t hF (zFm_I _ (by unfold zJcd; omega))) (zFm_I _ (by unfold zJcd; omega))) (zFm_I _ (by unfold zJcd; omega))) ?_ (fun i hi => hR i (by omega)) ?_ ?_ ?_⟩
    · unfold zDR at *
      rw [zIs (by omega), zIs (by omega), zIs (by omega)]
      exact hD
    · rw [zIs (by omega), zIs (by omega), zIe]
    · rw [zIs (by omega), zIe]
    · rw [zIe]
  | succ e ih =>
    intro c τ hc h1 hF hD hR
    have ⟨mK0, mQ1, mK1, mN1, mQ6, mK6, mN6, mQ7, mK7, mN7, mQ8, mK8, mN8, mQ9, mK9, mN9, mQ10, mK10, mN10, mQ11, mK11, mN11, mQ21, mK21, mN21, mQ22, mK22, mN22, mQ23, mK23, mN23, mQ24, mK24, mN24, mQ25, mK25, mN25, mQ26, mK26, mN26, mQ27, mK27, mN27, mQ28, mK28, mN28, mQ32, mK32, mN32, mQ33, mK33, mN33, mQ34, mK34, mN34, mQ35, mK35, mN35, mQ40, mK40, mN40, mQ41, mK41, mN41, mQ42, mK42, mN42, mQ43, mK43, mN43, mQ44, mK44, mN44, mQ45, mK45, mN45, mQ62, mK62, mN62⟩ := zMb_m hF hM
    refine b132_2 ?_
    obtain ⟨-, -, z3, z4⟩ := zc3 c h1 (by omega)
    rw [if_neg (nI_ge (by omega) (by omega)), mQ6, mK6, mN6, mQ7, mK7, mN7, mQ8, mK8, mN8, mQ9, mK9, mN9, z3, z4, pk_sub (by omega), zcl c (by omega), zcl (c - 1) (by omega), nI_add]
    refine ⟨mK0, rfl, vp_in_nI (by omega) (by omega), by decide, rfl, vp_in_nI (by omega) (by omega), by decide, rfl, vp_in_nI (by omega) (by omega), rfl, vp_in_nI (by omega) (by omega), ?_⟩
    refine ih (c + 1) _ (by omega) (by omega) (zFm_t (zFm_t (zFm_t (zFm_t hF (zFm_A _ (by unfold zAcd; omega))) (zFm_A _ (by unfold zAcd; omega))) (zFm_A _ (by unfold zAcd; omega))) (zFm_A _ (by unfold zAcd; omega))) ?_ (fun i hi => ?_)
    · obtain ⟨d1, d2, d3, d4⟩ := hD
      have up : ∀ (f g : Nat → Nat) (i : Nat), i ≠ c → (if 1 ≤ i ∧ i < c + 1 then f i else g i) = (if 1 ≤ i ∧ i < c then f i else g i) := by
        intro f g i q
        by_cases w : 1 ≤ i ∧ i < c
        · rw [if_pos w, if_pos (by omega)]
        · rw [if_neg w, if_neg (by omega)]
      refine ⟨d1, fun i hi => ?_, fun i hi => ?_, fun i hi => ?_⟩
      · show _ = nI (if 1 ≤ i ∧ i < c + 1 then i else D.1 i)
        rw [zA_o (by omega), zA_o (by omega), zA_o (by omega), zA_sA]
        by_cases q : i = c
        · rw [if_pos ⟨rfl, q⟩, if_pos (by omega), q]
        · rw [if_neg (by omega), up (fun i => i) D.1 i q]
          exact d2 i hi
      · show _ = nI (if 1 ≤ i ∧ i < c + 1 then (i - 1) % 4 else D.2.1 i)
        rw [zA_o (by omega), zA_o (by omega), zA_sA]
        by_cases q : i = c
        · rw [if_pos ⟨rfl, q⟩, if_pos (by omega), q]
        · rw [if_neg (by omega), zA_o (by omega), up (fun i => (i - 1) % 4) D.2.1 i q]
          exact d3 i hi
      · show _ = nI (if 1 ≤ i ∧ i < c + 1 then (i - 1) % 2 else D.2.2 i)
        rw [zA_o (by omega), zA_sA]
        by_cases q : i = c
        · rw [if_pos ⟨rfl, q⟩, if_pos (by omega), q]
        · rw [if_neg (by omega), zA_o (by omega), zA_o (by omega), up (fun i => (i - 1) % 2) D.2.2 i q]
          exact d4 i hi
    · rw [zA_sA]
      by_cases q : i = c - 1
      · rw [if_pos ⟨rfl, q⟩, q]
        congr 1
        omega
      · rw [if_neg (by omega), zA_o (by omega), zA_o (by omega), zA_o (by omega)]
        exact hR i (by omega)
theorem zsR_9 : ∀ i, i < 9 → zsR (i + 1) = i + 1 := by decide
theorem pr_cards {d : Nat} {σ : zH} {m : zMS} {x : Int32} (hI : zIR σ m) {Q : Option Value → zH → Prop} (hQ : ∀ τ, zIR τ (zrs (zscd m x) m) → zFr 160 187 σ τ → Q (some (.int (zra (zscd m x)))) τ) : zM (d + 1) 133 [.ref 160, .int x] σ Q := by
  have hI0 := zIR_0 (nI 0) hI
  obtain ⟨bk, cb, a1, a2, a3, a4, a5, a6, a7, a8⟩ := hI
  have ⟨mK0, mQ1, mK1, mN1, mQ6, mK6, mN6, mQ7, mK7, mN7, mQ8, mK8, mN8, mQ9, mK9, mN9, mQ10, mK10, mN10, mQ11, mK11, mN11, mQ21, mK21, mN21, mQ22, mK22, mN22, mQ23, mK23, mN23, mQ24, mK24, mN24, mQ25, mK25, mN25, mQ26, mK26, mN26, mQ27, mK27, mN27, mQ28, mK28, mN28, mQ32, mK32, mN32, mQ33, mK33, mN33, mQ34, mK34, mN34, mQ35, mK35, mN35, mQ40, mK40, mN40, mQ41, mK41, mN41, mQ42, mK42, mN42, mQ43, mK43, mN43, mQ44, mK44, mN44, mQ45, mK45, mN45, mQ62, mK62, mN62⟩ := a1
  unfold zscd at hQ
  refine b133 ⟨mK0, ?_⟩
  by_cases c2 : x < nI 2
  · rw [if_pos c2] at hQ ⊢
    exact hQ _ hI0 (zFr_16 _)
  rw [if_neg c2] at hQ ⊢
  by_cases c9 : x ≤ nI 9
  · rw [if_pos c9] at hQ ⊢
    obtain ⟨e1, e2, e3⟩ := zI_29 c2 c9
    obtain ⟨n, hn⟩ : ∃ n, n = x.toNatClampNeg := ⟨_, rfl⟩
    rw [← hn] at e1 e2 e3 hQ
    rw [← e1]
    have F0 : zFm zJcd zN0 zAcd σ (zsI (zsI σ 160 0 (nI 0)) 160 5 (nI n)) := zFm_t (zFm_I _ (by unfold zJcd; omega)) (zFm_I _ (by unfold zJcd; omega))
    have hD0 : zDR (zsI (zsI σ 160 0 (nI 0)) 160 5 (nI n)) (zfrD 1 (zmD m)) n := by
      obtain ⟨d1, d2, d3, d4⟩ := a3.1
      refine ⟨zIe, fun i hi => ?_, fun i hi => ?_, fun i hi => ?_⟩
      · show zA σ 162 i = nI (if 1 ≤ i ∧ i < 1 then i else (zmD m).1 i)
        rw [if_neg (by omega)]; exact d2 i hi
      · show zA σ 163 i = nI (if 1 ≤ i ∧ i < 1 then (i - 1) % 4 else (zmD m).2.1 i)
        rw [if_neg (by omega)]; exact d3 i hi
      · show zA σ 164 i = nI (if 1 ≤ i ∧ i < 1 then (i - 1) % 2 else (zmD m).2.2 i)
        rw [if_neg (by omega)]; exact d4 i hi
    refine b132 (l_fresh (D := zmD m) (n := n) a1 (fun τ g1 g2 g3 g4 g5 g6 => ?_) 9 1 _ (by omega) (by omega) F0 hD0 (fun i hi => by omega))
    rw [zqv_s]
    refine hQ τ ⟨bk, cb, zMb_m g1 a1, zrT_m g1 (by unfold zJcd; omega) (by unfold zAcd; omega) a2, ⟨g2, fun i hi => ?_⟩, zrK_m g1 (by unfold zJcd; omega) (fun a _ _ => by unfold zAcd; omega) a4, zrC_m g1 (by unfold zJcd; omega) (fun a _ _ => by unfold zAcd; omega) a5, by rw [g1.2.2.2.2.2.2.2.2.1 16 (by unfold zJcd; omega)]; exact a6, ⟨g6, g5⟩, g4⟩ (zFm_fr g1 (fun a q => by unfold zAcd at q; omega))
    have hi' : i < n := hi
    show zA τ 165 i = nI (zsR ((zrw1 n).getD i 0))
    rw [g3 i (by omega), zrw1_g hi', zsR_9 i (by omega)]
  · rw [if_neg c9] at hQ ⊢
    exact hQ _ hI0 (zFr_16 _)
/-! card -/
def zD1 (D : zDT) (c v s l : Nat) : zDT := (fun i => if i = c then v else D.1 i, fun i => if i = c then s else D.2.1 i, fun i => if i = c then l else D.2.2 i)
def zmsD (D : zDT) (m : zMS) : zMS := (zmB m, zmN m, D, zmr m, zmS m, zmC m, zmf m, zmR m, zmP m, zmT m)
def zsca (m : zMS) (x y z w : Int32) : Option zMS := if x < nI 1 then none else if nI (zmN m) < x then none else if y < nI 1 then none else if nI 13 < y then none else if z < 0 then none else if nI 3 < z then none else if w < 0 then none else if w ≤ nI 1 then some (zmsD (zD1 (zmD m) x.toNatClampNeg y.toNatClampNeg z.toNatClampNeg w.toNatClampNeg) m) else none
theorem zI_le {x : Int32} {b : Nat} (hb : b < 2 ^ 31) (h0 : ¬ x < 0) (h : ¬ nI b < x) : nI x.toNatClampNeg = x ∧ x.toNatClampNeg ≤ b := by
  obtain ⟨e1, e2⟩ := zI_nat h0
  refine ⟨e1, ?_⟩
  by_cases q : x.toNatClampNeg ≤ b
  · exact q
  · exact absurd (by rw [← e1]; exact nI_lt (by omega) (by omega)) h
theorem zI_10 {x : Int32} (h : ¬ x < nI 1) : ¬ x < 0 := fun q => h (by
  rw [Int32.lt_iff_toInt_lt] at q ⊢
  have z : (0 : Int32).toInt = 0 := by decide
  have z1 : (nI 1).toInt = 1 := by decide
  rw [z] at q
  rw [z1]
  omega)
theorem zI_nl {x : Int32} {b : Nat} (h : x ≤ nI b) : ¬ nI b < x := by
  rw [Int32.lt_iff_toInt_lt]
  rw [Int32.le_iff_toInt_le] at h
  omega
theorem zDb_1 {D : zDT} {c v s l : Nat} (hc : 1 ≤ c) (hv : v ≤ 13) (hs : s ≤ 3) (hl : l ≤ 1) (h : zDb D) : zDb (zD1 D c v s l) := by
  obtain ⟨h1, h2, h3, h4⟩ := h
  refine ⟨fun i => ⟨?_, ?_, ?_⟩, ?_, ?_, ?_⟩
  · show (if i = c then v else D.1 i) ≤ 13
    split
    · exact hv
    · exact (h1 i).1
  · show (if i = c then s else D.2.1 i) ≤ 13
    split
    · omega
    · exact (h1 i).2.1
  · show (if i = c then l else D.2.2 i) ≤ 13
    split
    · omega
    · exact (h1 i).2.2
  · show (if 0 = c then v else D.1 0) = 0
    rw [if_neg (by omega)]; exact h2
  · show (if 0 = c then s else D.2.1 0) = 0
    rw [if_neg (by omega)]; exact h3
  · show (if 0 = c then l else D.2.2 0) = 0
    rw [if_neg (by omega)]; exact h4
theorem zmok_card {m : zMS} {x y z w : Int32} (h : zMok m) : zMok (zrs (zsca m x y z w) m) := by
  unfold zsca
  split
  · exact h
  split
  · exact h
  split
  · exact h
  split
  · exact h
  split
  · exact h
  split
  · exact h
  split
  · exact h
  split
  · rename_i x1 x2 y1 y2 z1 z2 w1 w2
    obtain ⟨h1, h2, h3, h4, h5, h6, h7, h8⟩ := h
    have p1 := zI_pos x1
    have p2 := zI_le (b := 13) (by omega) (zI_10 y1) y2
    have p3 := zI_le (b := 3) (by omega) z1 z2
    have p4 := zI_le (b := 1) (by omega) w1 (zI_nl w2)
    exact ⟨h1, h2, zDb_1 p1.2.2 p2.2 p3.2 p4.2 h3, h4, h5, h6, h7, h8⟩
  · exact h
theorem pc_card {d : Nat} {σ : zH} {m : zMS} {x y z w : Int32} (hI : zIC σ m) (hm : zMok m) {Q : Option Value → zH → Prop} (hQ : ∀ τ, zIC τ (zrs (zsca m x y z w) m) → zFr 1 160 σ τ → Q (some (.int (zra (zsca m x y z w)))) τ) : zM (d + 1) 109 [.ref 1, .int x, .int y, .int z, .int w] σ Q := by
  have hI' := hI
  have n9 := hm.2.1.2
  obtain ⟨T, T', o, o', a1, a2, a3, a4, a5, a6, a7, a8, a9, a10⟩ := hI
  have a1' := a1
  obtain ⟨⟨u0, u1, u2, u3, u4, u5, u6, u7, u8, u9, u10, u11⟩, hTT, hoo, urun⟩ := a1
  have e44 : zI σ 4 4 = nI (zmN m) := a3.1.2.2.2.2.2.2.2.2.2.2.2.2.2.1
  unfold zsca at hQ
  refine b109 ?_
  have no : ∀ (f : Option zMS), f = none → (∀ τ, zIC τ (zrs f m) → zFr 1 160 σ τ → Q (some (.int (zra f))) τ) → Q (some (.int (nI 0))) σ := fun f hf h => by
    rw [hf] at h
    exact h σ hI' (zFr_r _ _ _)
  by_cases x1 : x < nI 1
  · rw [if_pos x1] at hQ ⊢; exact no _ rfl hQ
  rw [if_neg x1] at hQ ⊢
  rw [u0, u2, e44]
  refine ⟨rfl, a3.1.1, ?_⟩
  by_cases x2 : nI (zmN m) < x
  · rw [if_pos x2] at hQ ⊢; exact no _ rfl hQ
  rw [if_neg x2] at hQ ⊢
  by_cases y1 : y < nI 1
  · rw [if_pos y1] at hQ ⊢; exact no _ rfl hQ
  rw [if_neg y1] at hQ ⊢
  by_cases y2 : nI 13 < y
  · rw [if_pos y2] at hQ ⊢; exact no _ rfl hQ
  rw [if_neg y2] at hQ ⊢
  by_cases z1 : z < 0
  · rw [if_pos z1] at hQ ⊢; exact no _ rfl hQ
  rw [if_neg z1] at hQ ⊢
  by_cases z2 : nI 3 < z
  · rw [if_pos z2] at hQ ⊢; exact no _ rfl hQ
  rw [if_neg z2] at hQ ⊢
  by_cases w1 : w < 0
  · rw [if_pos w1] at hQ ⊢; exact no _ rfl hQ
  rw [if_neg w1] at hQ ⊢
  by_cases w2 : w ≤ nI 1
  · rw [if_pos w2] at hQ ⊢
    obtain ⟨ex, hx⟩ := zI_le (by omega) (zI_10 x1) x2
    obtain ⟨ey, hy⟩ := zI_le (b := 13) (by omega) (zI_10 y1) y2
    obtain ⟨ez, hz⟩ := zI_le (b := 3) (by omega) z1 z2
    obtain ⟨ew, hw⟩ := zI_le (b := 1) (by omega) w1 (zI_nl w2)
    rw [← ex, ← ey, ← ez, ← ew]
    refine p_desc (by omega) a3.1 ?_
    rw [zqv_s]
    obtain ⟨τ, hτ⟩ : ∃ τ, τ = zsA (zsA (zsA σ 5 x.toNatClampNeg (nI y.toNatClampNeg)) 6 x.toNatClampNeg (nI z.toNatClampNeg)) 7 x.toNatClampNeg (nI w.toNatClampNeg) := ⟨_, rfl⟩
    rw [← hτ]
    have F : zFr 4 9 σ τ := by
      rw [hτ]
      exact zFr_t (zFr_t (zFr_sA _ _ (by omega) (by omega)) (zFr_sA _ _ (by omega) (by omega))) (zFr_sA _ _ (by omega) (by omega))
    have F5 : zFr 5 8 σ τ := by
      rw [hτ]
      exact zFr_t (zFr_t (zFr_sA _ _ (by omega) (by omega)) (zFr_sA _ _ (by omega) (by omega))) (zFr_sA _ _ (by omega) (by omega))
    have hD : zDk τ (zD1 (zmD m) x.toNatClampNeg y.toNatClampNeg z.toNatClampNeg w.toNatClampNeg) (zmN m) := by
      rw [hτ]
      refine zDk_upd (by omega) a3.1 ?_ ?_ ?_ (fun i hi => ⟨if_neg hi, if_neg hi, if_neg hi⟩)
      · show _ = nI (if x.toNatClampNeg = x.toNatClampNeg then _ else _)
        rw [if_pos rfl]
      · show _ = nI (if x.toNatClampNeg = x.toNatClampNeg then _ else _)
        rw [if_pos rfl]
      · show _ = nI (if x.toNatClampNeg = x.toNatClampNeg then _ else _)
        rw [if_pos rfl]
    exact hQ τ ⟨T, T', o, o', zc1_f F (by omega) a1', zTp_f F (by omega) a2, ⟨hD, zRow_fr F5 (by omega) a3.2⟩, zc9_f F (by omega) a4, zTb_fr F (by omega) a5, zc18_f F (by omega) a6, zc54_f F (by omega) a7, zc59_f F a8, zcTr_f F hTT (by omega) a9, zcC_f F hoo (by omega) a10⟩ (zFr_m F (by omega) (by omega))
  · rw [if_neg w2] at hQ ⊢; exact no _ rfl hQ
theorem pr_card {d : Nat} {σ : zH} {m : zMS} {x y z w : Int32} (hI : zIR σ m) (hm : zMok m) {Q : Option Value → zH → Prop} (hQ : ∀ τ, zIR τ (zrs (zsca m x y z w) m) → zFr 160 187 σ τ → Q (some (.int (zra (zsca m x y z w)))) τ) : zM d 134 [.ref 160, .int x, .int y, .int z, .int w] σ Q := by
  have hI0 := zIR_0 (nI 0) hI
  have n9 := hm.2.1.2
  obtain ⟨bk, cb, a1, a2, a3, a4, a5, a6, a7, a8⟩ := hI
  have ⟨mK0, mQ1, mK1, mN1, mQ6, mK6, mN6, mQ7, mK7, mN7, mQ8, mK8, mN8, mQ9, mK9, mN9, mQ10, mK10, mN10, mQ11, mK11, mN11, mQ21, mK21, mN21, mQ22, mK22, mN22, mQ23, mK23, mN23, mQ24, mK24, mN24, mQ25, mK25, mN25, mQ26, mK26, mN26, mQ27, mK27, mN27, mQ28, mK28, mN28, mQ32, mK32, mN32, mQ33, mK33, mN33, mQ34, mK34, mN34, mQ35, mK35, mN35, mQ40, mK40, mN40, mQ41, mK41, mN41, mQ42, mK42, mN42, mQ43, mK43, mN43, mQ44, mK44, mN44, mQ45, mK45, mN45, mQ62, mK62, mN62⟩ := a1
  unfold zsca at hQ
  refine b134 ⟨mK0, ?_⟩
  rw [zIs (by omega), a3.1.1]
  have no : ∀ (f : Option zMS), f = none → (∀ τ, zIR τ (zrs f m) → zFr 160 187 σ τ → Q (some (.int (zra f))) τ) → Q (some (.int (nI 0))) (zsI σ 160 0 (nI 0)) := fun f hf h => by
    rw [hf] at h
    exact h _ hI0 (zFr_16 _)
  by_cases x1 : x < nI 1
  · rw [if_pos x1] at hQ ⊢; exact no _ rfl hQ
  rw [if_neg x1] at hQ ⊢
  by_cases x2 : nI (zmN m) < x
  · rw [if_pos x2] at hQ ⊢; exact no _ rfl hQ
  rw [if_neg x2] at hQ ⊢
  by_cases y1 : y < nI 1
  · rw [if_pos y1] at hQ ⊢; exact no _ rfl hQ
  rw [if_neg y1] at hQ ⊢
  by_cases y2 : nI 13 < y
  · rw [if_pos y2] at hQ ⊢; exact no _ rfl hQ
  rw [if_neg y2] at hQ ⊢
  by_cases z1 : z < 0
  · rw [if_pos z1] at hQ ⊢; exact no _ rfl hQ
  rw [if_neg z1] at hQ ⊢
  by_cases z2 : nI 3 < z
  · rw [if_pos z2] at hQ ⊢; exact no _ rfl hQ
  rw [if_neg z2] at hQ ⊢
  by_cases w1 : w < 0
  · rw [if_pos w1] at hQ ⊢; exact no _ rfl hQ
  rw [if_neg w1] at hQ ⊢
  by_cases w2 : w ≤ nI 1
  · rw [if_pos w2] at hQ ⊢
    obtain ⟨ex, hx⟩ := zI_le (by omega) (zI_10 x1) x2
    obtain ⟨ey, hy⟩ := zI_le (b := 13) (by omega) (zI_10 y1) y2
    obtain ⟨ez, hz⟩ := zI_le (b := 3) (by omega) z1 z2
    obtain ⟨ew, hw⟩ := zI_le (b := 1) (by omega) w1 (zI_nl w2)
    rw [← ex, ← ey, ← ez, ← ew, mQ6, mK6, mN6, mQ7, mK7, mN7, mQ8, mK8, mN8, zcl _ (by omega)]
    refine ⟨rfl, vp_in_nI (by omega) (by omega), rfl, vp_in_nI (by omega) (by omega), rfl, vp_in_nI (by omega) (by omega), ?_⟩
    obtain ⟨τ, hτ⟩ : ∃ τ, τ = zsA (zsA (zsA (zsI σ 160 0 (nI 0)) 162 x.toNatClampNeg (nI y.toNatClampNeg)) 163 x.toNatClampNeg (nI z.toNatClampNeg)) 164 x.toNatClampNeg (nI w.toNatClampNeg) := ⟨_, rfl⟩
    rw [← hτ]
    have F : zFm zJcd zN0 zAcd σ τ := by
      rw [hτ]
      exact zFm_t (zFm_t (zFm_t (zFm_I _ (by unfold zJcd; omega)) (zFm_A _ (by unfold zAcd; omega))) (zFm_A _ (by unfold zAcd; omega))) (zFm_A _ (by unfold zAcd; omega))
    have Fe : zFm (fun i => i = 0) zN0 (fun a => 162 ≤ a ∧ a ≤ 164) σ τ := by
      rw [hτ]
      exact zFm_t (zFm_t (zFm_t (zFm_I _ rfl) (zFm_A _ (by omega))) (zFm_A _ (by omega))) (zFm_A _ (by omega))
    obtain ⟨⟨d1, d2, d3, d4⟩, d5⟩ := a3
    refine hQ τ ⟨bk, cb, zMb_m F a1, zrT_m Fe (by omega) (by omega) a2, ⟨⟨?_, fun i hi => ?_, fun i hi => ?_, fun i hi => ?_⟩, ?_⟩, zrK_m Fe (by omega) (fun a _ _ => by omega) a4, zrC_m Fe (by omega) (fun a _ _ => by omega) a5, by rw [Fe.2.2.2.2.2.2.2.2.1 16 (by omega)]; exact a6, zrP_m Fe (by omega) id a7, zrRn_m Fe (by omega) id a8⟩ (zFm_fr F (fun a q => by unfold zAcd at q; omega))
    · rw [Fe.2.2.2.2.2.2.2.2.1 5 (by omega)]; exact d1
    · show _ = nI (if i = x.toNatClampNeg then y.toNatClampNeg else (zmD m).1 i)
      rw [hτ, zA_o (by omega), zA_o (by omega), zA_sA]
      by_cases q : i = x.toNatClampNeg
      · rw [if_pos ⟨rfl, q⟩, if_pos q]
      · rw [if_neg (by omega), if_neg q]; exact d2 i hi
    · show _ = nI (if i = x.toNatClampNeg then z.toNatClampNeg else (zmD m).2.1 i)
      rw [hτ, zA_o (by omega), zA_sA]
      by_cases q : i = x.toNatClampNeg
      · rw [if_pos ⟨rfl, q⟩, if_pos q]
      · rw [if_neg (by omega), zA_o (by omega), if_neg q]; exact d3 i hi
    · show _ = nI (if i = x.toNatClampNeg then w.toNatClampNeg else (zmD m).2.2 i)
      rw [hτ, zA_sA]
      by_cases q : i = x.toNatClampNeg
      · rw [if_pos ⟨rfl, q⟩, if_pos q]
      · rw [if_neg (by omega), zA_o (by omega), zA_o (by omega), if_neg q]; exact d4 i hi
    · intro i hi
      rw [(Fe.2.2.2.2.2.2.2.2.2 165 (by omega)).1]
      exact d5 i hi
  · rw [if_neg w2] at hQ ⊢; exact no _ rfl hQ
