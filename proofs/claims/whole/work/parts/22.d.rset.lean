def zQS (σ : zH) (s : Nat) (L : List (Nat × Nat)) : Prop := zGS (zB σ 182) (zB σ 183) (zA σ 184) s L
def zQH (σ : zH) (L : List (Nat × Nat)) : Prop := zGH (zA σ 185) L
def zSame (σ τ : zH) (s : Nat) : Prop := zA τ 184 s = zA σ 184 s ∧ ∀ i, i < 3001 → zB τ 182 (3001 * s + i) = zB σ 182 (3001 * s + i) ∧ zB τ 183 (3001 * s + i) = zB σ 183 (3001 * s + i)
theorem zSame_r (σ : zH) (s : Nat) : zSame σ σ s := ⟨rfl, fun _ _ => ⟨rfl, rfl⟩⟩
theorem zSame_t {σ τ υ : zH} {s : Nat} (h1 : zSame σ τ s) (h2 : zSame τ υ s) : zSame σ υ s := ⟨h2.1.trans h1.1, fun i hi => ⟨(h2.2 i hi).1.trans (h1.2 i hi).1, (h2.2 i hi).2.trans (h1.2 i hi).2⟩⟩
theorem zQS_same {σ τ : zH} {s : Nat} (h : zSame σ τ s) {L : List (Nat × Nat)} (hL : zQS σ s L) : zQS τ s L := by
  obtain ⟨g1, g2, g3, g4⟩ := hL
  refine ⟨by rw [h.1]; exact g1, g2, g3, fun i hi => ?_⟩
  rw [(h.2 i (by omega)).1, (h.2 i (by omega)).2]
  exact g4 i hi
theorem zFu_same {σ τ : zH} (h : zFu σ τ) (s : Nat) : zSame σ τ s := by
  obtain ⟨-, -, -, -, -, -, -, hI, hA, hB⟩ := h
  exact ⟨by rw [hA 184 (by omega)], fun i _ => by rw [hB]; exact ⟨rfl, rfl⟩⟩
theorem zFu_H {σ τ : zH} (h : zFu σ τ) {L : List (Nat × Nat)} (hL : zQH σ L) : zQH τ L := by
  unfold zQH at *
  rw [h.2.2.2.2.2.2.2.2.1 185 (by omega)]
  exact hL
theorem zFu_I {σ τ : zH} (h : zFu σ τ) : zI τ 160 46 = zI σ 160 46 ∧ zI τ 160 47 = zI σ 160 47 := ⟨h.2.2.2.2.2.2.2.1 160 46 (by omega), h.2.2.2.2.2.2.2.1 160 47 (by omega)⟩
/-- the table stays -/
def zTsm (σ τ : zH) : Prop := zA τ 166 = zA σ 166 ∧ zA τ 167 = zA σ 167 ∧ zI τ 160 12 = zI σ 160 12
theorem zGa_tsm (σ : zH) (wy rw : Nat → Int64) (ns sl : Nat → Int32) (lg fr : Int32) : zTsm σ (zGa σ wy rw ns sl lg fr) := by
  unfold zTsm zGa
  simp only [zh]
  simp
theorem p_rbegin {d : Nat} {σ : zH} (hM : zMb σ) {Q : Option Value → zH → Prop} (hQ : ∀ τ, zFq σ τ → zTsm σ τ → zQS τ 11 [] → zQH τ [] → (∀ s, s < 11 → zSame σ τ s) → zI τ 160 46 = zI σ 160 46 → zI τ 160 47 = nI 11 → Q none τ) : zM (d + 1) 184 [.ref 160, .int (nI 11)] σ Q := by
  have h := e_rbegin (d := d) (wy := zB σ 182) (rw := zB σ 183) (ns := zA σ 184) (sl := zA σ 185) (lg := zI σ 160 46) (fr := zI σ 160 47) hM (Q := Q) (fun sl' hs => by
    obtain ⟨r1, r2, r3, r4, r5, r6⟩ := zGa_r σ (zB σ 182) (zB σ 183) (zu (zA σ 184) 11 (nI 0)) sl' (zI σ 160 46) (nI 11)
    refine hQ _ (zFq_Ga _ _ _ _ _ _ _) (zGa_tsm _ _ _ _ _ _ _) ?_ ?_ (fun s hs' => ?_) r5 r6
    · unfold zQS
      rw [r1, r2, r3]
      exact ⟨zu_same _ _ _, by simp, by simp, fun i hi => absurd hi (by simp)⟩
    · unfold zQH
      rw [r4]
      exact zGH_nil hs
    · refine ⟨by rw [r3, zu_ne _ _ (by omega)], fun i hi => by rw [r1, r2]; exact ⟨rfl, rfl⟩⟩)
  rw [zGa_self] at h
  exact h
theorem p_radd {d : Nat} {σ : zH} (hM : zMb σ) {L : List (Nat × Nat)} (hS : zQS σ 11 L) (hH : zQH σ L) (h47 : zI σ 160 47 = nI 11) {k r : Nat} (hk : k < 2 ^ 63) (hr : r < 2 ^ 63) {Q : Option Value → zH → Prop} (hQ : ∀ τ L', zFq σ τ → zTsm σ τ → zQS τ 11 L' → zQH τ L' → (∀ s, s < 11 → zSame σ τ s) → zI τ 160 47 = nI 11 → ((zput L k r = some L' ∧ zI τ 160 46 = zI σ 160 46) ∨ (zput L k r = none ∧ zI τ 160 46 = nI 1)) → Q none τ) : zM d 185 [.ref 160, .long (lN k), .long (lN r)] σ Q := by
  have h := e_radd (d := d) (wy := zB σ 182) (rw := zB σ 183) (ns := zA σ 184) (sl := zA σ 185) (lg := zI σ 160 46) hM hS hH hk hr (Q := Q) (fun L' hL' wy' rw' ns' sl' q1 q2 q3 q4 => by
    obtain ⟨r1, r2, r3, r4, r5, r6⟩ := zGa_r σ wy' rw' ns' sl' (zI σ 160 46) (nI 11)
    refine hQ _ L' (zFq_Ga _ _ _ _ _ _ _) (zGa_tsm _ _ _ _ _ _ _) ?_ ?_ (fun s hs' => ?_) r6 (Or.inl ⟨hL', r5⟩)
    · unfold zQS
      rw [r1, r2, r3]
      exact q1
    · unfold zQH
      rw [r4]
      exact q2
    · refine ⟨by rw [r3]; exact q4 s (by omega), fun i hi => by rw [r1, r2]; exact q3 _ (by omega)⟩) (fun hL' => by
    obtain ⟨r1, r2, r3, r4, r5, r6⟩ := zGa_r σ (zB σ 182) (zB σ 183) (zA σ 184) (zA σ 185) (nI 1) (nI 11)
    refine hQ _ L (zFq_Ga _ _ _ _ _ _ _) (zGa_tsm _ _ _ _ _ _ _) ?_ ?_ (fun s hs' => ?_) r6 (Or.inr ⟨hL', r5⟩)
    · unfold zQS
      rw [r1, r2, r3]
      exact hS
    · unfold zQH
      rw [r4]
      exact hH
    · refine ⟨by rw [r3], fun i hi => by rw [r1, r2]; exact ⟨rfl, rfl⟩⟩)
  have e := zGa_self σ
  rw [h47] at e
  rw [e] at h
  exact h
theorem p_rcopy {d s : Nat} {σ : zH} (hM : zMb σ) (hs : s < 11) {L : List (Nat × Nat)} (hS : zQS σ 11 L) {Q : Option Value → zH → Prop} (hQ : ∀ τ, zFq σ τ → zTsm σ τ → zQS τ s L → (∀ s', s' < 11 → s' ≠ s → zSame σ τ s') → zI τ 160 46 = zI σ 160 46 → Q none τ) : zM d 189 [.ref 160, .int (nI 11), .int (nI s)] σ Q := by
  have h := e_rcopy (d := d) (wy := zB σ 182) (rw := zB σ 183) (ns := zA σ 184) (sl := zA σ 185) (lg := zI σ 160 46) (fr := zI σ 160 47) hM hs hS (Q := Q) (fun wy' rw' q1 q2 => by
    obtain ⟨r1, r2, r3, r4, r5, r6⟩ := zGa_r σ wy' rw' (zu (zA σ 184) s (nI L.length)) (zA σ 185) (zI σ 160 46) (zI σ 160 47)
    refine hQ _ (zFq_Ga _ _ _ _ _ _ _) (zGa_tsm _ _ _ _ _ _ _) ?_ (fun s' hs' hne => ?_) r5
    · unfold zQS
      rw [r1, r2, r3]
      exact q1
    · refine ⟨by rw [r3, zu_ne _ _ hne], fun i hi => by rw [r1, r2]; exact q2 _ (by omega)⟩)
  rw [zGa_self] at h
  exact h
theorem zeR_get {L : zSt} {i : Nat} {x : zTS} {r : List Nat} (h : L[i]? = some (x, r)) : (zeR L).getD i (0, 0) = (zkR x, zrR r) ∧ i < L.length := by
  have hi : i < L.length := by
    rcases Nat.lt_or_ge i L.length with h2 | h2
    · exact h2
    · rw [List.getElem?_eq_none h2] at h; simp at h
  refine ⟨?_, hi⟩
  unfold zeR
  rw [List.getD_eq_getElem?_getD, List.getElem?_map, h]
  rfl
theorem zQS_get {σ : zH} {s : Nat} {L : zSt} (h : zQS σ s (zeR L)) : zA σ 184 s = nI L.length ∧ L.length ≤ 3000 ∧ ∀ i x r, L[i]? = some (x, r) → zB σ 182 (3001 * s + i) = lN (zkR x) ∧ zB σ 183 (3001 * s + i) = lN (zrR r) ∧ i < L.length := by
  obtain ⟨h1, h2, h3, h5⟩ := h
  have e : (zeR L).length = L.length := by unfold zeR; simp
  rw [e] at h1 h2 h5
  refine ⟨h1, h2, fun i x r hi => ?_⟩
  obtain ⟨g1, g2⟩ := zeR_get hi
  obtain ⟨a1, a2⟩ := h5 i g2
  rw [g1] at a1 a2
  exact ⟨a1, a2, g2⟩
/-- set 11 as it is being filled -/
def zFil (σ : zH) (n k : Nat) (lg : Bool) (M : zSt) : Prop := zI σ 160 46 = nI (zbn1 lg) ∧ zI σ 160 47 = nI 11 ∧ (lg = false → zQS σ 11 (zeR M) ∧ zQH σ (zeR M) ∧ zSok n k M) ∧ ∃ L, zQS σ 11 L ∧ zQH σ L
theorem zFil_u {σ τ : zH} (h : zFu σ τ) {n k : Nat} {lg : Bool} {M : zSt} (hF : zFil σ n k lg M) : zFil τ n k lg M := by
  obtain ⟨h1, h2, h3, L, h4, h5⟩ := hF
  exact ⟨by rw [(zFu_I h).1]; exact h1, by rw [(zFu_I h).2]; exact h2, fun e => ⟨zQS_same (zFu_same h 11) (h3 e).1, zFu_H h (h3 e).2.1, (h3 e).2.2⟩, L, zQS_same (zFu_same h 11) h4, zFu_H h h5⟩
/-- one more is added -/
theorem p_fill {d n k : Nat} {σ : zH} (hM : zMb σ) {lg : Bool} {M : zSt} (hF : zFil σ n k lg M) (hk8 : k ≤ 8) {x : zTS} {r : List Nat} (hx : zVS n x) (hr : zrok k r) {Q : Option Value → zH → Prop} (hQ : ∀ τ lg' M', zFq σ τ → zTsm σ τ → zFil τ n k lg' M' → (∀ s, s < 11 → zSame σ τ s) → (if lg then lg' = true else match zputS M x r with | some M1 => lg' = false ∧ M' = M1 | none => lg' = true) → Q none τ) : zM d 185 [.ref 160, .long (lN (zkR x)), .long (lN (zrR r))] σ Q := by
  obtain ⟨h1, h2, h3, L, h4, h5⟩ := hF
  have hkx : zkR x < 2 ^ 63 := Nat.lt_trans (zkR_lt hx) (by decide)
  have hrx := zrR_lt (zrok_m hr hk8)
  cases lg with
  | true =>
    refine p_radd hM h4 h5 h2 hkx hrx (fun τ L' q1 q2 q3 q4 q5 q6 q7 => ?_)
    refine hQ τ true [] q1 q2 ⟨?_, q6, fun e => by simp at e, L', q3, q4⟩ q5 (by simp)
    rcases q7 with ⟨-, q7⟩ | ⟨-, q7⟩
    · rw [q7]; exact h1
    · exact q7
  | false =>
    obtain ⟨g1, g2, g3⟩ := h3 rfl
    have hpm := zput_R (zSok_m g3 hk8) hx (zrok_m hr hk8)
    refine p_radd hM g1 g2 h2 hkx hrx (fun τ L' q1 q2 q3 q4 q5 q6 q7 => ?_)
    simp only [Bool.false_eq_true, if_false] at hQ
    rcases q7 with ⟨q8, q7⟩ | ⟨q8, q7⟩
    · rw [hpm] at q8
      obtain ⟨M1, hM1, rfl⟩ := Option.map_eq_some_iff.mp q8
      have hok' : zSok n k M1 := by
        unfold zputS at hM1
        split at hM1
        · rw [← Option.some.inj hM1]; exact zinsS_ok hx hr g3
        · simp at hM1
      refine hQ τ false M1 q1 q2 ⟨by rw [q7]; exact h1, q6, fun _ => ⟨q3, q4, hok'⟩, _, q3, q4⟩ q5 ?_
      rw [hM1]
      exact ⟨rfl, rfl⟩
    · rw [hpm] at q8
      have hM1 := Option.map_eq_none_iff.mp q8
      refine hQ τ true [] q1 q2 ⟨q7, q6, fun e => by simp at e, L', q3, q4⟩ q5 ?_
      rw [hM1]
