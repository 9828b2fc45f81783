/-! plain steps keep the cards -/
def zAc (P : Nat → List Nat) : Prop := ∀ p < 4, ∀ c ∈ P p, zco c
theorem zAc_u {P : Nat → List Nat} (h : zAc P) (p : Nat) {l : List Nat} (hl : ∀ c ∈ l, zco c) : zAc (zu P p l) := by
  intro q hq c hc
  by_cases e : q = p
  · rw [e, zu_same] at hc; exact hl c hc
  · rw [zu_ne _ _ e] at hc; exact h q hq c hc
theorem zco_x {c : Nat} (h : zco c) : zco (c ^^^ 16) := by
  have h1 := h.1
  unfold zco at *
  revert h
  have : ∀ c, c < 32 → (c < 32 ∧ 1 ≤ c &&& 15 ∧ c &&& 15 ≤ 9 → c ^^^ 16 < 32 ∧ 1 ≤ (c ^^^ 16) &&& 15 ∧ (c ^^^ 16) &&& 15 ≤ 9) := by decide
  exact this c h1
theorem zrf_mem : ∀ (m w : Nat) (A B : List Nat), ∀ c ∈ zrf m w A B, c ∈ A ∨ c ∈ B
  | 0, _, _, _, c, h => by simp [zrf] at h
  | m + 1, w, [], [], c, h => by simp [zrf] at h
  | m + 1, w, [], b :: B, c, h => by
    rw [zrf] at h
    rcases List.mem_cons.mp h with h | h
    · right; rw [h]; simp
    · rcases zrf_mem m w [] B c h with h | h
      · simp at h
      · right; simp [h]
  | m + 1, w, a :: A, [], c, h => by
    rw [zrf] at h
    rcases List.mem_cons.mp h with h | h
    · left; rw [h]; simp
    · rcases zrf_mem m w A [] c h with h | h
      · left; simp [h]
      · simp at h
  | m + 1, w, a :: A, b :: B, c, h => by
    rw [zrf] at h
    split at h
    · rcases List.mem_cons.mp h with h | h
      · left; rw [h]; simp
      · rcases zrf_mem m w A (b :: B) c h with h | h
        · left; simp [h]
        · right; exact h
    · rcases List.mem_cons.mp h with h | h
      · right; rw [h]; simp
      · rcases zrf_mem m _ (a :: A) B c h with h | h
        · left; exact h
        · right; simp [h]
theorem zfa_mem : ∀ (m : Nat) (ft : Bool) (A B : List Nat), ∀ c ∈ zfa m ft A B, c ∈ A ∨ c ∈ B
  | 0, _, _, _, c, h => by simp [zfa] at h
  | m + 1, ft, [], [], c, h => by simp [zfa] at h
  | m + 1, ft, [], b :: B, c, h => by
    rw [zfa] at h
    rcases List.mem_cons.mp h with h | h
    · right; rw [h]; simp
    · rcases zfa_mem m _ [] B c h with h | h
      · simp at h
      · right; simp [h]
  | m + 1, ft, a :: A, [], c, h => by
    rw [zfa] at h
    rcases List.mem_cons.mp h with h | h
    · left; rw [h]; simp
    · rcases zfa_mem m _ A [] c h with h | h
      · left; simp [h]
      · simp at h
  | m + 1, ft, a :: A, b :: B, c, h => by
    rw [zfa] at h
    split at h
    · rcases List.mem_cons.mp h with h | h
      · left; rw [h]; simp
      · rcases zfa_mem m _ A (b :: B) c h with h | h
        · left; simp [h]
        · right; exact h
    · rcases List.mem_cons.mp h with h | h
      · right; rw [h]; simp
      · rcases zfa_mem m _ (a :: A) B c h with h | h
        · left; exact h
        · right; simp [h]
theorem zdeal_V {p q : Nat} (hp : p < 4) (hq : q < 4) (hpq : p ≠ q) : ∀ (m : Nat) (P : Nat → List Nat), zAc P → zAc (zdeal m P p q) ∧ zTot (zdeal m P p q) = zTot P
  | 0, P, h => ⟨h, rfl⟩
  | m + 1, P, h => by
    rw [zdeal]
    cases hP : P p with
    | nil => exact ⟨h, rfl⟩
    | cons c l =>
      simp only
      have hc : zco c := h p hp c (by rw [hP]; simp)
      have hl : ∀ x ∈ l, zco x := fun x hx => h p hp x (by rw [hP]; simp [hx])
      have h1 := zAc_u h p hl
      have h2 : zAc (zu (zu P p l) q (c :: zu P p l q)) := zAc_u h1 q (fun x hx => by
        rcases List.mem_cons.mp hx with rfl | hx
        · exact hc
        · exact h1 q hq x hx)
      obtain ⟨g1, g2⟩ := zdeal_V hp hq hpq m _ h2
      refine ⟨g1, ?_⟩
      rw [g2]
      have a1 := zTot_u (P := P) hp l
      have a2 := zTot_u (P := zu P p l) hq (c :: zu P p l q)
      rw [hP] at a1
      simp only [List.length_cons] at a1 a2
      omega
theorem zdown_V {p q : Nat} (hp : p < 4) (hq : q < 4) (hpq : p ≠ q) : ∀ (m : Nat) (P : Nat → List Nat), zAc P → zAc (zdown m P p q) ∧ zTot (zdown m P p q) = zTot P
  | 0, P, h => ⟨h, rfl⟩
  | m + 1, P, h => by
    rw [zdown]
    cases hP : P p with
    | nil => exact ⟨h, rfl⟩
    | cons c l =>
      simp only
      have hc : zco c := h p hp c (by rw [hP]; simp)
      have hl : ∀ x ∈ l, zco x := fun x hx => h p hp x (by rw [hP]; simp [hx])
      have h1 : zAc (zu P q (c :: P q)) := zAc_u h q (fun x hx => by
        rcases List.mem_cons.mp hx with rfl | hx
        · exact hc
        · exact h q hq x hx)
      have h2 : zAc (zu (zu P q (c :: P q)) p (l.drop 1 ++ l.take 1)) := zAc_u h1 p (fun x hx => by
        rcases List.mem_append.mp hx with hx | hx
        · exact hl x (List.mem_of_mem_drop hx)
        · exact hl x (List.mem_of_mem_take hx))
      obtain ⟨g1, g2⟩ := zdown_V hp hq hpq m _ h2
      refine ⟨g1, ?_⟩
      rw [g2]
      have a1 := zTot_u (P := P) hq (c :: P q)
      have a2 := zTot_u (P := zu P q (c :: P q)) hp (l.drop 1 ++ l.take 1)
      rw [zu_ne _ _ hpq, hP] at a2
      simp only [List.length_cons, List.length_append, List.length_drop, List.length_take] at a1 a2
      omega
theorem zgd_mem' {l : List Nat} {i : Nat} (h : i < l.length) : l.getD i 0 ∈ l := zgd_mem h
set_option maxHeartbeats 1000000 in
theorem zact_V {n w p q g h c mk : Nat} {P : Nat → List Nat} (hw : zSw w p q g h) (hV : zVP n P mk) : zVP n (zact w p q g h c P mk).1 (zact w p q g h c P mk).2 := by
  obtain ⟨w1, w2, w3, w4, w5, w6, w7, w8⟩ := hw
  obtain ⟨v1, v2, v3, v4⟩ := hV
  have v3' : zAc P := v3
  have hpm : ∀ c ∈ P p, zco c := v3 p w2
  suffices hs : zAc (zact w p q g h c P mk).1 ∧ zTot (zact w p q g h c P mk).1 = zTot P ∧ (zact w p q g h c P mk).2 ≤ 9 from ⟨by rw [hs.2.1]; exact v1, v2, hs.1, hs.2.2⟩
  have htd : ∀ m, ∀ c ∈ (P p).drop m ++ (P p).take m, zco c := fun m c hc => by
    rcases List.mem_append.mp hc with hc | hc
    · exact hpm c (List.mem_of_mem_drop hc)
    · exact hpm c (List.mem_of_mem_take hc)
  have hml : ∀ a, min a (P p).length ≤ (P p).length := fun a => Nat.min_le_right _ _
  rcases (show w = 0 ∨ w = 1 ∨ w = 2 ∨ w = 3 ∨ w = 4 ∨ w = 5 ∨ w = 6 ∨ w = 7 ∨ w = 8 ∨ w = 9 ∨ w = 10 by omega) with rfl | rfl | rfl | rfl | rfl | rfl | rfl | rfl | rfl | rfl | rfl <;> unfold zact <;> simp only
  · refine ⟨zAc_u v3' p (htd _), ?_, v4⟩
    have a1 := zTot_u (P := P) w2 ((P p).drop (min (if h = 11 then c else h) (P p).length) ++ (P p).take (min (if h = 11 then c else h) (P p).length))
    simp only [List.length_append, List.length_drop, List.length_take] at a1
    omega
  · have := zdeal_V w2 (w4 (by decide)) (w5 (by decide)) (min (if h = 11 then c else h) (P p).length) P v3'
    exact ⟨this.1, this.2, v4⟩
  · have hg := w4 (by decide)
    have hpg := w5 (by decide)
    refine ⟨zAc_u (zAc_u v3' p (fun c hc => hpm c (List.mem_of_mem_drop hc))) g (fun c hc => ?_), ?_, v4⟩
    · rcases List.mem_append.mp hc with hc | hc
      · exact hpm c (List.mem_of_mem_take hc)
      · exact v3 g hg c hc
    · have a1 := zTot_u (P := P) w2 ((P p).drop (min (if h = 11 then c else h) (P p).length))
      have a2 := zTot_u (P := zu P p ((P p).drop (min (if h = 11 then c else h) (P p).length))) hg ((P p).take (min (if h = 11 then c else h) (P p).length) ++ P g)
      rw [zu_ne _ _ (fun q => hpg q.symm)] at a2
      simp only [List.length_append, List.length_drop, List.length_take] at a1 a2
      omega
  · have hg := w4 (by decide)
    have hpg := w5 (by decide)
    generalize (if h = 11 then c + 1 else h) = k
    split
    · rename_i hk
      refine ⟨zAc_u (zAc_u v3' p (fun c hc => hpm c (List.mem_of_mem_eraseIdx hc))) g (fun c hc => ?_), ?_, v4⟩
      · rcases List.mem_cons.mp hc with hc | hc
        · rw [hc]; exact hpm _ (zgd_mem (by omega))
        · exact v3 g hg c hc
      · have a1 := zTot_u (P := P) w2 ((P p).eraseIdx (k - 1))
        have a2 := zTot_u (P := zu P p ((P p).eraseIdx (k - 1))) hg ((P p).getD (k - 1) 0 :: P g)
        rw [zu_ne _ _ (fun q => hpg q.symm)] at a2
        rw [List.length_eraseIdx, if_pos (by omega)] at a1
        simp only [List.length_cons] at a2
        omega
    · exact ⟨v3', rfl, v4⟩
  · refine ⟨zAc_u v3' p (fun c hc => ?_), ?_, v4⟩
    · rcases List.mem_append.mp hc with hc | hc
      · rw [List.mem_reverse, List.mem_map] at hc
        obtain ⟨x, hx, rfl⟩ := hc
        exact zco_x (hpm x (List.mem_of_mem_take hx))
      · exact hpm c (List.mem_of_mem_drop hc)
    · have a1 := zTot_u (P := P) w2 ((((P p).take (min (if h = 11 then c else h) (P p).length)).map (fun c => c ^^^ 16)).reverse ++ (P p).drop (min (if h = 11 then c else h) (P p).length))
      simp only [List.length_append, List.length_reverse, List.length_map, List.length_drop, List.length_take] at a1
      omega
  · generalize (if h = 11 then c + 1 else h) = k
    split
    · rename_i hk
      refine ⟨zAc_u v3' p (fun c hc => ?_), ?_, v4⟩
      · rcases List.mem_or_eq_of_mem_set hc with hc | hc
        · exact hpm c hc
        · rw [hc]; exact zco_x (hpm _ (zgd_mem (by omega)))
      · have a1 := zTot_u (P := P) w2 ((P p).set (k - 1) ((P p).getD (k - 1) 0 ^^^ 16))
        rw [List.length_set] at a1
        omega
    · exact ⟨v3', rfl, v4⟩
  · obtain ⟨hq, hpq⟩ := w3 (by decide)
    have hg := w4 (by decide)
    have h0 := zAc_u (zAc_u v3' p (l := []) (by simp)) q (l := []) (by simp)
    refine ⟨zAc_u h0 g (fun c hc => ?_), ?_, v4⟩
    · rcases List.mem_append.mp hc with hc | hc
      · rcases zrf_mem _ _ _ _ c hc with hc | hc
        · exact hpm c hc
        · exact v3 q hq c hc
      · exact h0 g hg c hc
    · have a1 := zTot_u (P := P) w2 []
      have a2 := zTot_u (P := zu P p []) hq []
      have a3 := zTot_u (P := zu (zu P p []) q []) hg (zrf ((P p).length + (P q).length) c (P p) (P q) ++ zu (zu P p []) q [] g)
      rw [zu_ne (f := P) _ (fun h => hpq h.symm)] at a2
      rw [List.length_append, zrf_len _ _ _ _ rfl] at a3
      simp only [List.length_nil] at a1 a2
      omega
  · obtain ⟨hq, hpq⟩ := w3 (by decide)
    have hg := w4 (by decide)
    have h0 := zAc_u (zAc_u v3' p (l := []) (by simp)) q (l := []) (by simp)
    refine ⟨zAc_u h0 g (fun c hc => ?_), ?_, v4⟩
    · rcases List.mem_append.mp hc with hc | hc
      · rcases zfa_mem _ _ _ _ c hc with hc | hc
        · exact hpm c hc
        · exact v3 q hq c hc
      · exact h0 g hg c hc
    · have a1 := zTot_u (P := P) w2 []
      have a2 := zTot_u (P := zu P p []) hq []
      have a3 := zTot_u (P := zu (zu P p []) q []) hg (zfa ((P p).length + (P q).length) true (P p) (P q) ++ zu (zu P p []) q [] g)
      rw [zu_ne (f := P) _ (fun h => hpq h.symm)] at a2
      rw [List.length_append, zfa_len _ _ _ _ rfl] at a3
      simp only [List.length_nil] at a1 a2
      omega
  · have := zdown_V w2 (w4 (by decide)) (w5 (by decide)) (P p).length P v3'
    exact ⟨this.1, this.2, v4⟩
  · obtain ⟨hq, hpq⟩ := w3 (by decide)
    refine ⟨zAc_u (zAc_u v3' p (v3 q hq)) q hpm, ?_, v4⟩
    have a1 := zTot_u (P := P) w2 (P q)
    have a2 := zTot_u (P := zu P p (P q)) hq (P p)
    rw [zu_ne (f := P) _ (fun h => hpq h.symm)] at a2
    omega
  · refine ⟨v3', trivial, ?_⟩
    generalize (if h = 11 then c + 1 else h) = k
    split
    · rename_i hk
      exact (hpm _ (zgd_mem (by omega))).2.2
    · exact v4
