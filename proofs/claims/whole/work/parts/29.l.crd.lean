/-! cards and card -/
/-- what is printed on new cards, as far as the first k - 1 -/
def zfrD (k : Nat) (D : zDT) : zDT := (fun c => if 1 ≤ c ∧ c < k then c else D.1 c, fun c => if 1 ≤ c ∧ c < k then (c - 1) % 4 else D.2.1 c, fun c => if 1 ≤ c ∧ c < k then (c - 1) % 2 else D.2.2 c)
def zrw1 (n : Nat) : List Nat := (List.range n).map (fun i => i + 1)
theorem zrw1_g {n i : Nat} (h : i < n) : (zrw1 n).getD i 0 = i + 1 := by
  unfold zrw1
  simp [List.getD, h]
theorem zrw1_l (n : Nat) : (zrw1 n).length = n := by unfold zrw1; simp
theorem zrw1_c {n : Nat} (hn : n ≤ 9) : ∀ c ∈ zrw1 n, zco c := by
  intro c hc
  unfold zrw1 at hc
  simp only [List.mem_map, List.mem_range] at hc
  obtain ⟨i, hi, rfl⟩ := hc
  have : ∀ i, i < 9 → zco (i + 1) := by
    intro i hi
    unfold zco
    have : ∀ i, i < 9 → i + 1 < 32 ∧ 1 ≤ (i + 1) &&& 15 ∧ (i + 1) &&& 15 ≤ 9 := by decide
    exact this i hi
  exact this i (by omega)
theorem zDb_fr {D : zDT} (k : Nat) (hk : k ≤ 10) (h : zDb D) : zDb (zfrD k D) := by
  obtain ⟨h1, h2, h3, h4⟩ := h
  refine ⟨fun c => ⟨?_, ?_, ?_⟩, ?_, ?_, ?_⟩
  · show (if 1 ≤ c ∧ c < k then c else D.1 c) ≤ 13
    split
    · omega
    · exact (h1 c).1
  · show (if 1 ≤ c ∧ c < k then (c - 1) % 4 else D.2.1 c) ≤ 13
    split
    · omega
    · exact (h1 c).2.1
  · show (if 1 ≤ c ∧ c < k then (c - 1) % 2 else D.2.2 c) ≤ 13
    split
    · omega
    · exact (h1 c).2.2
  · show (if 1 ≤ 0 ∧ 0 < k then 0 else D.1 0) = 0
    rw [if_neg (by omega)]; exact h2
  · show (if 1 ≤ 0 ∧ 0 < k then (0 - 1) % 4 else D.2.1 0) = 0
    rw [if_neg (by omega)]; exact h3
  · show (if 1 ≤ 0 ∧ 0 < k then (0 - 1) % 2 else D.2.2 0) = 0
    rw [if_neg (by omega)]; exact h4
theorem zc3 : ∀ c, 1 ≤ c → c < 10 → (nI c - nI 1) &&& nI 3 = nI ((c - 1) % 4) ∧ (nI c - nI 1) &&& nI 1 = nI ((c - 1) % 2) ∧ ((nI c - nI 1) - (nI c - nI 1) / nI 4 * nI 4) = nI ((c - 1) % 4) ∧ ((nI c - nI 1) - (nI c - nI 1) / nI 2 * nI 2) = nI ((c - 1) % 2) := by
  have : ∀ c, c < 10 → 1 ≤ c → (nI c - nI 1) &&& nI 3 = nI ((c - 1) % 4) ∧ (nI c - nI 1) &&& nI 1 = nI ((c - 1) % 2) ∧ ((nI c - nI 1) - (nI c - nI 1) / nI 4 * nI 4) = nI ((c - 1) % 4) ∧ ((nI c - nI 1) - (nI c - nI 1) / nI 2 * nI 2) = nI ((c - 1) % 2) := by decide
  exact fun c h1 h2 => this c h2 h1
theorem zDk_upd {σ : zH} {D D' : zDT} {n c : Nat} {x1 x2 x3 : Int32} (hc : c < 16) (h : zDk σ D n) (h1 : x1 = nI (D'.1 c)) (h2 : x2 = nI (D'.2.1 c)) (h3 : x3 = nI (D'.2.2 c)) (ho : ∀ i, i ≠ c → D'.1 i = D.1 i ∧ D'.2.1 i = D.2.1 i ∧ D'.2.2 i = D.2.2 i) : zDk (zsA (zsA (zsA σ 5 c x1) 6 c x2) 7 c x3) D' n := by
  obtain ⟨b1, b2, b3, b4, b5, b6, b7, b8, b9, b10, b11, b12, b13, b14, b15, b16, b17⟩ := h
  refine ⟨b1, b2, b3, b4, b5, b6, b7, b8, b9, b10, b11, b12, b13, b14, fun i hi => ?_, fun i hi => ?_, fun i hi => ?_⟩
  · rw [zA_o (by omega), zA_o (by omega), zA_sA]
    by_cases q : i = c
    · rw [if_pos ⟨rfl, q⟩, h1, q]
    · rw [if_neg (by omega), (ho i q).1]; exact b15 i hi
  · rw [zA_o (by omega), zA_sA]
    by_cases q : i = c
    · rw [if_pos ⟨rfl, q⟩, h2, q]
    · rw [if_neg (by omega), zA_o (by omega), (ho i q).2.1]; exact b16 i hi
  · rw [zA_sA]
    by_cases q : i = c
    · rw [if_pos ⟨rfl, q⟩, h3, q]
    · rw [if_neg (by omega), zA_o (by omega), zA_o (by omega), (ho i q).2.2]; exact b17 i hi
theorem p_desc {d n c : Nat} {σ : zH} {D : zDT} {x2 x3 x4 : Int32} (hc : c < 16) (h : zDk σ D n) {Q : Option Value → zH → Prop} (hQ : Q none (zsA (zsA (zsA σ 5 c x2) 6 c x3) 7 c x4)) : zM d 11 [.ref 4, .int (nI c), .int x2, .int x3, .int x4] σ Q := by
  obtain ⟨t1, t2, t3, t4, t5, t6, t7, t8, t9, t10, t11, t12, t13, t14, -⟩ := h
  refine b11 ?_
  rw [t2, t3, t4, zcl c (by omega), t6, t7, t8, t10, t11, t12]
  exact ⟨t1, rfl, vp_in_nI (by omega) (by omega), rfl, vp_in_nI (by omega) (by omega), rfl, vp_in_nI (by omega) (by omega), hQ⟩
theorem zFr_sA {lo hi a : Nat} {σ : zH} (j : Nat) (v : Int32) (h1 : lo ≤ a) (h2 : a < hi) : zFr lo hi σ (zsA σ a j v) := by
  refine ⟨rfl, rfl, rfl, rfl, fun b hb => ⟨rfl, rfl, rfl, ?_, rfl, rfl⟩⟩
  exact zA_o (by omega)
set_option maxHeartbeats 2000000 in
theorem l_renew {d n : Nat} {σ : zH} {D : zDT} {Q : Option Value → zH → Prop} (hQ : ∀ τ, zFr 4 9 σ τ → zDk τ (zfrD 10 D) n → (∀ i, i < 9 → zA τ 8 i = nI (i + 1)) → Q none τ) : ∀ (e c : Nat) (τ : zH), c + e = 10 → 1 ≤ c → zFr 4 9 σ τ → zDk τ (zfrD c D) n → (∀ i, i + 1 < c → zA τ 8 i = nI (i + 1)) → zW (d + 1) 10 7 [(0, .ref 4), (2, .int (nI c))] [] τ Q := by
  intro e
  induction e with
  | zero =>
    intro c τ hc h1 hF hD hR
    refine b10_7 ?_
    rw [if_pos (nI_lt (by omega) (by omega))]
    have e10 : c = 10 := by omega
    rw [e10] at hD hR
    exact hQ τ hF hD (fun i hi => hR i (by omega))
  | succ e ih =>
    intro c τ hc h1 hF hD hR
    refine b10_7 ?_
    rw [if_neg (nI_nlt (by omega) (by omega))]
    obtain ⟨z1, z2, -, -⟩ := zc3 c h1 (by omega)
    rw [z1, z2]
    refine ⟨hD.1, p_desc (c := c) (by omega) hD ?_⟩
    rw [zqv_s]
    obtain ⟨τ1, hτ1⟩ : ∃ τ1, τ1 = zsA (zsA (zsA τ 5 c (nI c)) 6 c (nI ((c - 1) % 4))) 7 c (nI ((c - 1) % 2)) := ⟨_, rfl⟩
    rw [← hτ1]
    have hD1 : zDk τ1 (zfrD (c + 1) D) n := by
      rw [hτ1]
      refine zDk_upd (by omega) hD ?_ ?_ ?_ (fun i hi => ⟨?_, ?_, ?_⟩)
      · show nI c = nI (if 1 ≤ c ∧ c < c + 1 then c else D.1 c)
        rw [if_pos (by omega)]
      · show nI ((c - 1) % 4) = nI (if 1 ≤ c ∧ c < c + 1 then (c - 1) % 4 else D.2.1 c)
        rw [if_pos (by omega)]
      · show nI ((c - 1) % 2) = nI (if 1 ≤ c ∧ c < c + 1 then (c - 1) % 2 else D.2.2 c)
        rw [if_pos (by omega)]
      · show (if 1 ≤ i ∧ i < c + 1 then i else D.1 i) = (if 1 ≤ i ∧ i < c then i else D.1 i)
        by_cases q : 1 ≤ i ∧ i < c
        · rw [if_pos q, if_pos (by omega)]
        · rw [if_neg q, if_neg (by omega)]
      · show (if 1 ≤ i ∧ i < c + 1 then (i - 1) % 4 else D.2.1 i) = (if 1 ≤ i ∧ i < c then (i - 1) % 4 else D.2.1 i)
        by_cases q : 1 ≤ i ∧ i < c
        · rw [if_pos q, if_pos (by omega)]
        · rw [if_neg q, if_neg (by omega)]
      · show (if 1 ≤ i ∧ i < c + 1 then (i - 1) % 2 else D.2.2 i) = (if 1 ≤ i ∧ i < c then (i - 1) % 2 else D.2.2 i)
        by_cases q : 1 ≤ i ∧ i < c
        · rw [if_pos q, if_pos (by omega)]
        · rw [if_neg q, if_neg (by omega)]
    have hF1 : zFr 4 9 σ τ1 := by
      rw [hτ1]
      exact zFr_t (zFr_t (zFr_t hF (zFr_sA c _ (by omega) (by omega))) (zFr_sA c _ (by omega) (by omega))) (zFr_sA c _ (by omega) (by omega))
    have r8 : ∀ i, zA τ1 8 i = zA τ 8 i := fun i => by rw [hτ1, zA_o (by omega), zA_o (by omega), zA_o (by omega)]
    rw [pk_sub (by omega), zcl (c - 1) (by omega), hD1.2.2.2.2.1, hD1.2.2.2.2.2.2.2.2.1, hD1.2.2.2.2.2.2.2.2.2.2.2.2.1, nI_add]
    refine ⟨hD1.1, rfl, vp_in_nI (by omega) (by omega), ?_⟩
    have F8 : zFr 8 9 τ1 (zsA τ1 8 (c - 1) (nI c)) := zFr_sA _ _ (by omega) (by omega)
    refine ih (c + 1) _ (by omega) (by omega) (zFr_t hF1 (zFr_m F8 (by omega) (by omega))) ?_ (fun i hi => ?_)
    · have h := hD1
      unfold zDk at h ⊢
      rw [zA_o (a := 8) (b := 5) (by omega), zA_o (a := 8) (b := 6) (by omega), zA_o (a := 8) (b := 7) (by omega)]
      exact h
    · rw [zA_sA]
      by_cases q : i = c - 1
      · rw [if_pos ⟨rfl, q⟩, q]
        congr 1
        omega
      · rw [if_neg (by omega), r8]
        exact hR i (by omega)
def zscd (m : zMS) (x : Int32) : Option zMS := if x < nI 2 then none else if x ≤ nI 9 then some (zmB m, x.toNatClampNeg, zfrD 10 (zmD m), zrw1 x.toNatClampNeg, zmS m, zmC m, zmf m, none, none, 0) else none
theorem zI_29 {x : Int32} (h2 : ¬ x < nI 2) (h9 : x ≤ nI 9) : nI x.toNatClampNeg = x ∧ 2 ≤ x.toNatClampNeg ∧ x.toNatClampNeg ≤ 9 := by
  have h1 : ¬ x < nI 1 := fun q => h2 (by
    rw [Int32.lt_iff_toInt_lt] at q ⊢
    have z1 : (nI 1).toInt = 1 := by decide
    have z2 : (nI 2).toInt = 2 := by decide
    omega)
  obtain ⟨e1, e2, e3⟩ := zI_pos h1
  refine ⟨e1, ?_, ?_⟩
  · by_cases q : 2 ≤ x.toNatClampNeg
    · exact q
    · exact absurd (by rw [← e1]; exact nI_lt (by omega) (by omega)) h2
  · by_cases q : x.toNatClampNeg ≤ 9
    · exact q
    · rw [← e1] at h9
      exact absurd h9 (nI_ge (by omega) (by omega))
theorem zmok_cards {m : zMS} {x : Int32} (h : zMok m) : zMok (zrs (zscd m x) m) := by
  unfold zscd
  split
  · exact h
  · split
    · rename_i c2 c9
      obtain ⟨e1, e2, e3⟩ := zI_29 c2 c9
      obtain ⟨h1, h2, h3, h4, h5, h6, h7, h8⟩ := h
      exact ⟨h1, ⟨e2, e3⟩, zDb_fr 10 (by omega) h3, ⟨zrw1_l _, zrw1_c e3⟩, h5, (fun e g br q => by cases q), (fun x q => by cases q), Nat.zero_le _⟩
    · exact h
set_option maxHeartbeats 2000000 in
theorem pc_cards {d : Nat} {σ : zH} {m : zMS} {x : Int32} (hI : zIC σ m) {Q : Option Value → zH → Prop} (hQ : ∀ τ, zIC τ (zrs (zscd m x) m) → zFr 1 160 σ τ → Q (some (.int (zra (zscd m x)))) τ) : zM (d + 2) 108 [.ref 1, .int x] σ Q := by
  have hI' := hI
  obtain ⟨T, T', o, o', a1, a2, a3, a4, a5, a6, a7, a8, a9, a10⟩ := hI
  have a1' := a1
  obtain ⟨⟨u0, u1, u2, u3, u4, u5, u6, u7, u8, u9, u10, u11⟩, hTT, hoo, urun⟩ := a1
  unfold zscd at hQ
  refine b108 ?_
  by_cases c2 : x < nI 2
  · rw [if_pos c2] at hQ ⊢
    exact hQ σ hI' (zFr_r _ _ _)
  rw [if_neg c2] at hQ ⊢
  by_cases c9 : x ≤ nI 9
  · rw [if_pos c9] at hQ ⊢
    obtain ⟨e1, e2, e3⟩ := zI_29 c2 c9
    obtain ⟨n, hn⟩ : ∃ n, n = x.toNatClampNeg := ⟨_, rfl⟩
    rw [← hn] at e1 e2 e3 hQ
    rw [u0, u2, ← e1]
    refine ⟨rfl, a3.1.1, b10 ⟨a3.1.1, ?_⟩⟩
    have F0 : zFr 4 9 σ (zsI σ 4 4 (nI n)) := zFr_sI 4 _ (by omega) (by omega)
    have hD0 : zDk (zsI σ 4 4 (nI n)) (zfrD 1 (zmD m)) n := by
      obtain ⟨b1, b2, b3, b4, b5, b6, b7, b8, b9, b10, b11, b12, b13, b14, b15, b16, b17⟩ := a3.1
      refine ⟨b1, b2, b3, b4, b5, b6, b7, b8, b9, b10, b11, b12, b13, zIe, fun i hi => ?_, fun i hi => ?_, fun i hi => ?_⟩
      · show zA σ 5 i = nI (if 1 ≤ i ∧ i < 1 then i else (zmD m).1 i)
        rw [if_neg (by omega)]; exact b15 i hi
      · show zA σ 6 i = nI (if 1 ≤ i ∧ i < 1 then (i - 1) % 4 else (zmD m).2.1 i)
        rw [if_neg (by omega)]; exact b16 i hi
      · show zA σ 7 i = nI (if 1 ≤ i ∧ i < 1 then (i - 1) % 2 else (zmD m).2.2 i)
        rw [if_neg (by omega)]; exact b17 i hi
    refine l_renew (σ := σ) (D := zmD m) (fun τ g1 g2 g3 => ?_) 9 1 _ (by omega) (by omega) F0 hD0 (fun i hi => by omega)
    rw [zqv_s]
    have o1 := zFr_o g1 (a := 1) (by omega)
    have q5 : zQ τ 1 5 = 54 := by rw [o1.2.2.1]; exact u6
    have b7 := zc54_f g1 (by omega) a7
    rw [q5]
    refine ⟨by rw [g1.1]; exact u0, b7.1.1, b41 ⟨b7.1.1, ?_⟩⟩
    rw [zqv_s]
    obtain ⟨υ, hυ⟩ : ∃ υ, υ = zsI (zsI (zsI (zsI τ 54 3 (nI 0)) 54 4 (nI 0)) 54 5 (nI 0)) 54 6 (nI 0) := ⟨_, rfl⟩
    rw [← hυ]
    have F1 : zFr 54 55 τ υ := by
      rw [hυ]
      exact zFr_t (zFr_t (zFr_t (zFr_sI 3 _ (by omega) (by omega)) (zFr_sI 4 _ (by omega) (by omega))) (zFr_sI 5 _ (by omega) (by omega))) (zFr_sI 6 _ (by omega) (by omega))
    have k1 : zK υ 1 = 12 := by rw [F1.1, g1.1]; exact u0
    refine ⟨k1, b123 ⟨k1, ?_⟩⟩
    rw [zqv_s]
    obtain ⟨κ, hκ⟩ : ∃ κ, κ = zsJ (zsI (zsI (zsI υ 1 11 (nI 0)) 1 12 (nI 0)) 1 13 (nI 0)) 1 14 (Int64.ofInt (-1)) := ⟨_, rfl⟩
    rw [← hκ]
    have F2 : zFr 1 2 υ κ := by
      rw [hκ]
      exact zFr_t (zFr_t (zFr_t (zFr_sI 11 _ (by omega) (by omega)) (zFr_sI 12 _ (by omega) (by omega))) (zFr_sI 13 _ (by omega) (by omega))) (zFr_sJ 14 _ (by omega) (by omega))
    have c4' : zc4 κ n (zfrD 10 (zmD m)) (zrw1 n) := zc4_f F2 (by omega) (zc4_f F1 (by omega) ⟨g2, zrw1_l n, fun i hi => by rw [g3 i (by omega), zrw1_g hi], zrw1_c e3⟩)
    have c54 : zc54 υ none 0 := by
      refine ⟨?_, zTb_fr F1 (by omega) b7.2.1, by rw [hυ, zIe], ?_⟩
      · rw [F1.1, hυ]; exact b7.1
      · show zI υ 54 3 = nI 0
        rw [hυ, zIs (by omega), zIs (by omega), zIs (by omega), zIe]
    refine hQ κ ⟨T, T', o, o', ⟨⟨by rw [F2.1]; exact k1, ?_⟩, hTT, hoo, ?_⟩, zTp_f F2 (by omega) (zTp_f F1 (by omega) (zTp_f g1 (by omega) a2)), c4', zc9_f F2 (by omega) (zc9_f F1 (by omega) (zc9_f g1 (by omega) a4)), zTb_fr F2 (by omega) (zTb_fr F1 (by omega) (zTb_fr g1 (by omega) a5)), zc18_f F2 (by omega) (zc18_f F1 (by omega) (zc18_f g1 (by omega) a6)), zc54_f F2 (by omega) c54, zc59_f F2 (zc59_f F1 (zc59_f g1 a8)), zcTr_f F2 hTT (by omega) (zcTr_f F1 hTT (by omega) (zcTr_f g1 hTT (by omega) a9)), zcC_f F2 hoo (by omega) (zcC_f F1 hoo (by omega) (zcC_f g1 hoo (by omega) a10))⟩ (zFr_t (zFr_m g1 (by omega) (by omega)) (zFr_t (zFr_m F1 (by omega) (by omega)) (zFr_m F2 (by omega) (by omega))))
    · have : zQ κ 1 = zQ σ 1 := by rw [hκ]; show zQ υ 1 = _; rw [hυ]; exact o1.2.2.1
      rw [this]; exact ⟨u1, u2, u3, u4, u5, u6, u7, u8, u9, u10, u11⟩
    · show zI κ 1 11 = nI 0
      rw [hκ, zI_sJ, zIs (by omega), zIs (by omega), zIe]
  · rw [if_neg c9] at hQ ⊢
    exact hQ σ hI' (zFr_r _ _ _)
