/-! sets of numbered things; slots with linear probing -/
def zins : List (Nat × Nat) → Nat → Nat → List (Nat × Nat)
  | [], k, r => [(k, r)]
  | (k', r') :: L, k, r => if k' = k then (k', min r' r) :: L else (k', r') :: zins L k r
def zkeys (L : List (Nat × Nat)) : List Nat := L.map (fun x => x.1)
def zput (L : List (Nat × Nat)) (k r : Nat) : Option (List (Nat × Nat)) := if k ∈ zkeys L ∨ L.length < 3000 then some (zins L k r) else none
theorem zkeys_len (L : List (Nat × Nat)) : (zkeys L).length = L.length := by simp [zkeys]
theorem zkeys_get (L : List (Nat × Nat)) (i : Nat) : (zkeys L).getD i 0 = (L.getD i (0, 0)).1 := by
  induction L generalizing i with
  | nil => simp [zkeys]
  | cons x L ih => cases i with
    | zero => simp [zkeys]
    | succ i => simpa [zkeys] using ih i
theorem zins_new {L : List (Nat × Nat)} {k r : Nat} (h : k ∉ zkeys L) : zins L k r = L ++ [(k, r)] := by
  induction L with
  | nil => rfl
  | cons x L ih =>
    obtain ⟨a, b⟩ := x
    simp only [zkeys, List.map_cons, List.mem_cons, not_or] at h
    rw [zins, if_neg (fun q => h.1 q.symm), ih h.2]
    rfl
theorem zins_old {L : List (Nat × Nat)} {k r : Nat} (hn : (zkeys L).Nodup) : ∀ {i : Nat}, i < L.length → (L.getD i (0, 0)).1 = k → zins L k r = L.set i (k, min (L.getD i (0, 0)).2 r) := by
  induction L with
  | nil => intro i hi; simp at hi
  | cons x L ih =>
    obtain ⟨a, b⟩ := x
    intro i hi he
    simp only [zkeys, List.map_cons, List.nodup_cons] at hn
    cases i with
    | zero =>
      simp only [List.getD_cons_zero] at he ⊢
      subst he
      rw [zins, if_pos rfl]
      rfl
    | succ i =>
      simp only [List.getD_cons_succ] at he ⊢
      simp only [List.length_cons] at hi
      have hm : k ∈ List.map (fun x => x.1) L := by
        rw [← he]
        have h2 : (L.getD i (0, 0)) ∈ L := by
          rw [List.getD_eq_getElem?_getD, List.getElem?_eq_getElem (by omega)]
          exact List.getElem_mem _
        exact List.mem_map_of_mem h2
      rw [zins, if_neg (fun q => hn.1 (by rw [q]; exact hm)), ih hn.2 (by omega) he]
      rfl
theorem zkeys_set (L : List (Nat × Nat)) (i : Nat) (k r : Nat) (h : i < L.length) (he : (L.getD i (0, 0)).1 = k) : zkeys (L.set i (k, r)) = zkeys L := by
  induction L generalizing i with
  | nil => simp at h
  | cons x L ih => cases i with
    | zero =>
      simp only [List.getD_cons_zero] at he
      simp [zkeys, he]
    | succ i =>
      simp only [List.length_cons] at h
      simp only [List.getD_cons_succ] at he
      have := ih i (by omega) he
      simpa [zkeys] using this
/-- slots S of N, for the keys K, from the place hf k on -/
def zHI (N : Nat) (hf : Nat → Nat) (S : Nat → Nat) (K : List Nat) : Prop := (∀ s, s < N → S s ≤ K.length) ∧ (∀ i, i < K.length → ∃ j, j < N ∧ S ((hf (K.getD i 0) + j) % N) = i + 1 ∧ ∀ j', j' < j → S ((hf (K.getD i 0) + j') % N) ≠ 0) ∧ ∃ l : List Nat, l.length = K.length ∧ ∀ s, s < N → S s ≠ 0 → s ∈ l
theorem zpig : ∀ (N : Nat) (l : List Nat), (∀ s, s < N → s ∈ l) → N ≤ l.length := by
  intro N
  induction N with
  | zero => intro l _; exact Nat.zero_le _
  | succ N ih =>
    intro l h
    have h1 := h N (by omega)
    have h2 := ih (l.erase N) (fun s hs => (List.mem_erase_of_ne (by omega)).mpr (h s (by omega)))
    rw [List.length_erase_of_mem h1] at h2
    have h3 : 0 < l.length := List.length_pos_of_mem h1
    omega
/-- there is a free slot -/
theorem zHI_free {N : Nat} {hf : Nat → Nat} {S : Nat → Nat} {K : List Nat} (h : zHI N hf S K) (hK : K.length < N) (a : Nat) : ∃ j, j < N ∧ S ((a + j) % N) = 0 := by
  obtain ⟨-, -, l, hl, hm⟩ := h
  have hs : ∃ s, s < N ∧ S s = 0 := by
    by_cases hx : ∃ s, s < N ∧ S s = 0
    · exact hx
    · exfalso
      have := zpig N l (fun s hs => hm s hs (fun q => hx ⟨s, hs, q⟩))
      omega
  obtain ⟨s, hs1, hs2⟩ := hs
  have hN : 0 < N := by omega
  have ha : a % N < N := Nat.mod_lt _ hN
  refine ⟨(s + N - a % N) % N, Nat.mod_lt _ hN, ?_⟩
  have e : (a + (s + N - a % N) % N) % N = s := by
    rw [Nat.add_mod, Nat.mod_mod]
    rw [← Nat.add_mod]
    have h1 := Nat.div_add_mod a N
    have : a + (s + N - a % N) = s + N * (a / N + 1) := by rw [Nat.mul_add]; omega
    rw [this, Nat.add_mul_mod_self_left, Nat.mod_eq_of_lt hs1]
  rw [e, hs2]
/-- probing met a free slot: the key is new -/
theorem zHI_none {N : Nat} {hf : Nat → Nat} {S : Nat → Nat} {K : List Nat} (h : zHI N hf S K) {k j : Nat} (hp : ∀ j', j' < j → S ((hf k + j') % N) ≠ 0 ∧ K.getD (S ((hf k + j') % N) - 1) 0 ≠ k) (h0 : S ((hf k + j) % N) = 0) : k ∉ K := by
  intro hk
  obtain ⟨i, hi, he⟩ := List.getElem_of_mem hk
  have he2 : K.getD i 0 = k := by rw [List.getD_eq_getElem?_getD, List.getElem?_eq_getElem hi]; exact he
  obtain ⟨j0, hj0, hs, hpre⟩ := h.2.1 i hi
  rw [he2] at hs hpre
  rcases Nat.lt_trichotomy j0 j with hlt | heq | hgt
  · have := (hp j0 hlt).2
    rw [hs, Nat.add_sub_cancel] at this
    exact this he2
  · subst heq; omega
  · exact hpre j hgt h0
theorem zHI_add {N : Nat} {hf : Nat → Nat} {S : Nat → Nat} {K : List Nat} (h : zHI N hf S K) {k j : Nat} (hN : 0 < N) (hj : j < N) (hp : ∀ j', j' < j → S ((hf k + j') % N) ≠ 0) (h0 : S ((hf k + j) % N) = 0) : zHI N hf (zu S ((hf k + j) % N) (K.length + 1)) (K ++ [k]) := by
  obtain ⟨h1, h2, l, hl, hm⟩ := h
  refine ⟨fun s hs => ?_, fun i hi => ?_, (hf k + j) % N :: l, by simp [hl], fun s hs hne => ?_⟩
  · rw [List.length_append, List.length_cons, List.length_nil]
    by_cases e : s = (hf k + j) % N
    · rw [e, zu_same]; omega
    · rw [zu_ne _ _ e]; have := h1 s hs; omega
  · rw [List.length_append, List.length_cons, List.length_nil] at hi
    by_cases hi2 : i < K.length
    · obtain ⟨j0, hj0, hs, hpre⟩ := h2 i hi2
      have e : (K ++ [k]).getD i 0 = K.getD i 0 := by rw [List.getD_eq_getElem?_getD, List.getD_eq_getElem?_getD, List.getElem?_append_left hi2]
      rw [e]
      refine ⟨j0, hj0, ?_, fun j' hj' => ?_⟩
      · rw [zu_ne _ _ (fun q => by rw [q, h0] at hs; omega), hs]
      · by_cases e2 : (hf (K.getD i 0) + j') % N = (hf k + j) % N
        · rw [e2, zu_same]; omega
        · rw [zu_ne _ _ e2]; exact hpre j' hj'
    · have hi3 : i = K.length := by omega
      subst hi3
      have e : (K ++ [k]).getD K.length 0 = k := by rw [List.getD_eq_getElem?_getD, List.getElem?_append_right (Nat.le_refl _), Nat.sub_self]; rfl
      rw [e]
      refine ⟨j, hj, zu_same _ _ _, fun j' hj' => ?_⟩
      by_cases e2 : (hf k + j') % N = (hf k + j) % N
      · rw [e2, zu_same]; omega
      · rw [zu_ne _ _ e2]; exact hp j' hj'
  · by_cases e : s = (hf k + j) % N
    · rw [e]; exact List.mem_cons_self
    · rw [zu_ne _ _ e] at hne
      exact List.mem_cons_of_mem _ (hm s hs hne)
theorem zHI_nil (N : Nat) (hf : Nat → Nat) {S : Nat → Nat} (h : ∀ s, s < N → S s = 0) : zHI N hf S [] := ⟨fun s hs => by rw [h s hs]; exact Nat.zero_le _, fun i hi => by simp at hi, [], rfl, fun s hs hne => absurd (h s hs) hne⟩
