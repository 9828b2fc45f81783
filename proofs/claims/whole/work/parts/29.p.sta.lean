/-! start -/
def zstok (n : Nat) : List Nat → List Nat → Bool
  | [], _ => true
  | b :: l, seen => decide (1 ≤ b % 128) && (decide (b % 128 ≤ n) && (!(seen.contains (b % 128)) && zstok n l ((b % 128) :: seen)))
def zrst (b : Nat) : Nat := b % 16 + (if 128 ≤ b then 16 else 0)
def zisS (m : zMS) : Bool := decide ((zmB m).length = zmN m) && zstok (zmN m) (zmB m) []
def zsst (m : zMS) : zMS := if zisS m then ([], zmN m, zmD m, (zmB m).map zrst, zmS m, zmC m, zmf m, zmR m, zmP m, zmT m) else zmsB [] m
theorem zstok_b {n : Nat} : ∀ (l seen : List Nat), zstok n l seen = true → ∀ b ∈ l, 1 ≤ b % 128 ∧ b % 128 ≤ n
  | [], _, _ => fun b hb => absurd hb (by simp)
  | a :: l, seen, h => by
    rw [zstok] at h
    simp only [Bool.and_eq_true, decide_eq_true_eq] at h
    intro b hb
    rcases List.mem_cons.mp hb with rfl | hb
    · exact ⟨h.1, h.2.1⟩
    · exact zstok_b l _ h.2.2.2 b hb
theorem zrst_co {b n : Nat} (h1 : 1 ≤ b % 128) (h2 : b % 128 ≤ n) (hn : n ≤ 9) (hb : b < 256) : zco (zrst b) ∧ zsR (zrst b) = b := by
  have key : ∀ b, b < 256 → 1 ≤ b % 128 → b % 128 ≤ 9 → (zrst b < 32 ∧ 1 ≤ zrst b &&& 15 ∧ zrst b &&& 15 ≤ 9) ∧ zsR (zrst b) = b := by decide +kernel
  exact key b hb h1 (by omega)
theorem zisS_ok {m : zMS} (hm : zMok m) (h : zisS m = true) : (zmB m).length = zmN m ∧ ∀ b ∈ zmB m, zco (zrst b) ∧ zsR (zrst b) = b := by
  unfold zisS at h
  simp only [Bool.and_eq_true, decide_eq_true_eq] at h
  refine ⟨h.1, fun b hb => ?_⟩
  obtain ⟨q1, q2⟩ := zstok_b _ _ h.2 b hb
  exact zrst_co q1 q2 hm.2.1.2 (hm.1.2 b hb)
theorem zmok_start {m : zMS} (hm : zMok m) : zMok (zsst m) := by
  unfold zsst
  by_cases c : zisS m = true
  · rw [if_pos c]
    obtain ⟨q1, q2⟩ := zisS_ok hm c
    obtain ⟨h1, h2, h3, h4, h5, h6, h7, h8⟩ := hm
    refine ⟨zB_nil, h2, h3, ⟨by show ((zmB m).map zrst).length = _; rw [List.length_map]; exact q1, fun c hc => ?_⟩, h5, h6, h7, h8⟩
    have hc' : c ∈ (zmB m).map zrst := hc
    rw [List.mem_map] at hc'
    obtain ⟨b, hb, rfl⟩ := hc'
    exact (q2 b hb).1
  · rw [if_neg c]
    exact zmok_take zB_nil hm
theorem zsm10 : ∀ c, c < 10 → ((nI c &&& 31 : Int32).toBitVec.smod 32).toNat = c := by decide
theorem zmask10 {seen : List Nat} (h : ∀ x ∈ seen, x < 10) : zmask seen < 2 ^ 10 := zmask_lt h
set_option maxHeartbeats 1000000 in
theorem l_tis {d n : Nat} {σ : zH} {B : List Nat} {D : zDT} (hB : zTp σ B) (hD : zDk σ D n) (k1 : zK σ 1 = 12) (q0 : zQ σ 1 0 = 2) (q1 : zQ σ 1 1 = 4) (hn : n ≤ 9) (hl : B.length = n) {Q : Option Value → zH → Prop} : ∀ (l : List Nat) (i : Nat) (seen : List Nat), B.drop i = l → i ≤ n → (∀ x ∈ seen, x < 10) → Q (some (.int (nI (zbn1 (zstok n l seen))))) σ → zW d 124 23 [(0, .ref 1), (1, .int (nI (zmask seen))), (2, .int (nI i))] [] σ Q := by
  have e4 : zI σ 4 4 = nI n := hD.2.2.2.2.2.2.2.2.2.2.2.2.2.1
  have hb := hB.2.2.2.2.2.2.2
  intro l
  induction l with
  | nil =>
    intro i seen hd hi hs hQ
    have : n ≤ i := by
      have := congrArg List.length hd
      rw [List.length_drop] at this
      simp only [List.length_nil] at this
      omega
    refine b124_23 ?_
    rw [k1, q1, e4, if_pos (nI_le (by omega) (by omega))]
    exact ⟨rfl, hD.1, hQ⟩
  | cons b l ih =>
    intro i seen hd hi hs hQ
    have hlt : i < B.length := by
      have := congrArg List.length hd
      rw [List.length_drop] at this
      simp only [List.length_cons] at this
      omega
    have hbi : B.getD i 0 = b := by
      have h2 := List.drop_eq_getElem_cons hlt
      rw [hd] at h2
      simp only [List.cons.injEq] at h2
      simp only [List.getD]
      rw [List.getElem?_eq_getElem hlt]
      exact h2.1.symm
    have hdl : B.drop (i + 1) = l := by
      have h2 := List.drop_eq_getElem_cons hlt
      rw [hd] at h2
      simp only [List.cons.injEq] at h2
      exact h2.2.symm
    have b256 : b < 256 := by rw [← hbi]; exact hb _ (zget_mem hlt)
    refine b124_23 ?_
    rw [k1, q1, e4, q0, hB.1, hB.2.1, hB.2.2.1, hB.2.2.2.1, if_neg (nI_ge (by omega) (by omega)), zcl i (by omega), hB.2.2.2.2.2.2.1 i hlt, hbi, zand127]
    refine ⟨rfl, hD.1, rfl, rfl, vp_in_nI (by omega) (by omega), ?_⟩
    rw [zstok] at hQ
    obtain ⟨c, hc⟩ : ∃ c, c = b % 128 := ⟨_, rfl⟩
    rw [← hc] at hQ ⊢
    by_cases c1 : 1 ≤ c
    · rw [if_neg (nI_nlt c1 (by omega))]
      by_cases c2 : c ≤ n
      · rw [if_neg (nI_nlt c2 (by omega))]
        have hm := zmask10 hs
        have hp : (2 : Nat) ^ c < 2 ^ 10 := Nat.pow_lt_pow_right (by decide) (by omega)
        rw [zIsh c (by omega), zIand (Nat.lt_trans hm (by decide)) (Nat.lt_trans hp (by decide)), zIor (Nat.lt_trans hm (by decide)) (Nat.lt_trans hp (by decide)), nI_add]
        have hz := zmask_z seen c
        have hal : zmask seen &&& 2 ^ c < 2 ^ 10 := Nat.and_lt_two_pow _ hp
        by_cases c3 : seen.contains c = true
        · rw [if_neg (by
            rw [← nI_0, nI_eq (Nat.lt_trans hal (by decide)) (by decide), hz, c3]
            decide)]
          rw [decide_eq_true c1, decide_eq_true c2, c3] at hQ
          exact hQ
        · have c3' : seen.contains c = false := by simpa using c3
          rw [if_pos (by rw [← nI_0, hz.mpr c3'])]
          rw [decide_eq_true c1, decide_eq_true c2, c3'] at hQ
          refine ih (i + 1) (c :: seen) hdl (by omega) (fun x hx => ?_) hQ
          rcases List.mem_cons.mp hx with rfl | hx
          · omega
          · exact hs x hx
      · rw [if_pos (nI_lt (by omega) (by omega))]
        rw [decide_eq_false c2, Bool.false_and, Bool.and_false] at hQ
        exact hQ
    · rw [if_pos (nI_lt (by omega) (by omega))]
      rw [decide_eq_false c1, Bool.false_and] at hQ
      exact hQ
theorem p_tis {d : Nat} {σ : zH} {m : zMS} (hI : zIC σ m) (hm : zMok m) {Q : Option Value → zH → Prop} (hQ : Q (some (.int (nI (zbn1 (zisS m))))) σ) : zM d 124 [.ref 1] σ Q := by
  obtain ⟨T, T', o, o', a1, a2, a3, a4, a5, a6, a7, a8, a9, a10⟩ := hI
  obtain ⟨⟨u0, u1, u2, u3, u4, u5, u6, u7, u8, u9, u10, u11⟩, hTT, hoo, urun⟩ := a1
  have n9 := hm.2.1.2
  have e4 : zI σ 4 4 = nI (zmN m) := a3.1.2.2.2.2.2.2.2.2.2.2.2.2.2.1
  have h9 := a2.2.2.2.2.2.1
  unfold zisS at hQ
  refine b124 ?_
  rw [u0, u1, u2, a2.1, a2.2.2.2.2.1, e4]
  refine ⟨rfl, rfl, a3.1.1, ?_⟩
  by_cases c : (zmB m).length = zmN m
  · rw [if_pos (by rw [c])]
    rw [decide_eq_true c, Bool.true_and] at hQ
    exact l_tis a2 a3.1 u0 u1 u2 n9 c (zmB m) 0 [] (List.drop_zero) (by omega) (fun x hx => absurd hx (by simp)) hQ
  · rw [if_neg (by rw [nI_eq (by omega) (by omega)]; exact c)]
    rw [decide_eq_false c, Bool.false_and] at hQ
    exact hQ
theorem zrst_I : ∀ b, b < 256 → (nI b &&& nI 15) + (if nI b < nI 128 then nI 0 else nI 16) = nI (zrst b) := by decide +kernel
set_option maxHeartbeats 1000000 in
theorem l_sto {d n : Nat} {σ0 : zH} {B : List Nat} {D : zDT} (hB : zTp σ0 B) (hD : zDk σ0 D n) (k1 : zK σ0 1 = 12) (q0 : zQ σ0 1 0 = 2) (q1 : zQ σ0 1 1 = 4) (hn : n ≤ 9) (hl : B.length = n) {Q : Option Value → zH → Prop} (hQ : ∀ τ, zFr 8 9 σ0 τ → (∀ i, i < n → zA τ 8 i = nI (zrst (B.getD i 0))) → Q (some (.int (nI 1))) (zsI τ 2 1 (nI 0))) : ∀ (e i : Nat) (σ : zH), i + e = n → zFr 8 9 σ0 σ → (∀ j, j < i → zA σ 8 j = nI (zrst (B.getD j 0))) → zW (d + 1) 110 11 [(0, .ref 1), (1, .int (nI 1)), (2, .int (nI i))] [] σ Q := by
  intro e
  induction e with
  | zero =>
    intro i σ hi hF hA
    have e1 := zFr_o hF (a := 1) (by omega)
    have e4 := zFr_o hF (a := 4) (by omega)
    have hD4 : zI σ0 4 4 = nI n := hD.2.2.2.2.2.2.2.2.2.2.2.2.2.1
    refine b110_11 ?_
    rw [hF.1, e1.2.2.1, k1, q1, q0, e4.1, hD4, if_pos (nI_le (by omega) (by omega)), hB.1]
    exact ⟨rfl, hD.1, rfl, Or.inr rfl, hQ σ hF (fun j hj => hA j (by omega))⟩
  | succ e ih =>
    intro i σ hi hF hA
    have e1 := zFr_o hF (a := 1) (by omega)
    have e2 := zFr_o hF (a := 2) (by omega)
    have e3 := zFr_o hF (a := 3) (by omega)
    have e4 := zFr_o hF (a := 4) (by omega)
    have hD4 : zI σ0 4 4 = nI n := hD.2.2.2.2.2.2.2.2.2.2.2.2.2.1
    have hb := hB.2.2.2.2.2.2.2 _ (zget_mem (l := B) (i := i) (by omega))
    refine b110_11 ?_
    rw [hF.1, hF.2.1, e1.2.2.1, k1, q1, q0, e4.1, hD4, if_neg (nI_ge (by omega) (by omega)), hB.1, e2.2.2.1, hB.2.1, hB.2.2.1, hB.2.2.2.1, e4.2.2.1, hD.2.2.2.2.1, hD.2.2.2.2.2.2.2.2.1, hD.2.2.2.2.2.2.2.2.2.2.2.2.1, zcl i (by omega), e3.2.2.2.1, hB.2.2.2.2.2.2.1 i (by omega), zrst_I _ hb, nI_add]
    refine ⟨rfl, hD.1, rfl, rfl, vp_in_nI (by omega) (by omega), rfl, vp_in_nI (by omega) (by omega), ?_⟩
    refine ih (i + 1) _ (by omega) (zFr_t hF (zFr_sA _ _ (by omega) (by omega))) (fun j hj => ?_)
    rw [zA_sA]
    by_cases q : j = i
    · rw [if_pos ⟨rfl, q⟩, q]
    · rw [if_neg (by omega)]
      exact hA j (by omega)
theorem zmap_g {B : List Nat} {i : Nat} (h : i < B.length) : (B.map zrst).getD i 0 = zrst (B.getD i 0) := by
  simp only [List.getD]
  rw [List.getElem?_map, List.getElem?_eq_getElem h]
  rfl
set_option maxHeartbeats 1000000 in
theorem pc_start {d : Nat} {σ : zH} {m : zMS} (hI : zIC σ m) (hm : zMok m) {Q : Option Value → zH → Prop} (hQ : ∀ τ, zIC τ (zsst m) → zFr 1 160 σ τ → Q (some (.int (nI (zbn1 (zisS m))))) τ) : zM (d + 1) 110 [.ref 1] σ Q := by
  have hI' := hI
  obtain ⟨T, T', o, o', a1, a2, a3, a4, a5, a6, a7, a8, a9, a10⟩ := hI
  have a1' := a1
  obtain ⟨⟨u0, u1, u2, u3, u4, u5, u6, u7, u8, u9, u10, u11⟩, hTT, hoo, urun⟩ := a1
  have n9 := hm.2.1.2
  unfold zsst at hQ
  refine b110 ⟨u0, p_tis hI' hm ?_⟩
  rw [zqi_s]
  cases hb : zisS m with
  | false =>
    rw [hb] at hQ
    rw [if_pos (by decide), u1]
    have F2 : zFr 2 4 σ (zsI σ 2 1 (nI 0)) := zFr_sI 1 _ (by omega) (by omega)
    exact ⟨u0, a2.1, Or.inl rfl, hQ _ (zIC_tp F2 (zTp_nil a2) hI') (zFr_m F2 (by omega) (by omega))⟩
  | true =>
    obtain ⟨q1, q2⟩ := zisS_ok hm hb
    rw [hb] at hQ
    rw [if_neg (by decide)]
    refine l_sto a2 a3.1 u0 u1 u2 n9 q1 (fun τ g1 g2 => ?_) (zmN m) 0 σ (by omega) (zFr_r _ _ _) (fun j hj => by omega)
    have F2 : zFr 2 4 τ (zsI τ 2 1 (nI 0)) := zFr_sI 1 _ (by omega) (by omega)
    have b2 := zTp_f g1 (by omega) a2
    have hD8 : zDk τ (zmD m) (zmN m) := by
      have h := a3.1
      unfold zDk at h ⊢
      rw [g1.1, g1.2.1, (zFr_o g1 (a := 4) (by omega)).2.2.1, (zFr_o g1 (a := 4) (by omega)).1, (zFr_o g1 (a := 5) (by omega)).2.2.2.1, (zFr_o g1 (a := 6) (by omega)).2.2.2.1, (zFr_o g1 (a := 7) (by omega)).2.2.2.1]
      exact h
    have b3 : zc4 τ (zmN m) (zmD m) ((zmB m).map zrst) := by
      refine ⟨hD8, by rw [List.length_map]; exact q1, fun i hi => ?_, fun c hc => ?_⟩
      · rw [g2 i hi, zmap_g (by omega)]
      · rw [List.mem_map] at hc
        obtain ⟨b, hb', rfl⟩ := hc
        exact (q2 b hb').1
    refine hQ _ ⟨T, T', o, o', zc1_f F2 (by omega) (zc1_f g1 (by omega) a1'), zTp_nil b2, zc4_f F2 (by omega) b3, zc9_f F2 (by omega) (zc9_f g1 (by omega) a4), zTb_fr F2 (by omega) (zTb_fr g1 (by omega) a5), zc18_f F2 (by omega) (zc18_f g1 (by omega) a6), zc54_f F2 (by omega) (zc54_f g1 (by omega) a7), zc59_f F2 (zc59_f g1 a8), zcTr_f F2 hTT (by omega) (zcTr_f g1 hTT (by omega) a9), zcC_f F2 hoo (by omega) (zcC_f g1 hoo (by omega) a10)⟩ (zFr_t (zFr_m g1 (by omega) (by omega)) (zFr_m F2 (by omega) (by omega)))
