/-! what the tokens of a text keep -/
def zkl (k : Nat) : Nat := if k = 21 then 2 else if 22 ≤ k ∧ k ≤ 26 then 3 else 1
def zOrd (n : Nat) : List zTok → Prop
  | [] => False
  | [t] => t = (49, 0, n)
  | t :: u :: r => t.1 ≠ 49 ∧ t.2.2 + zkl t.1 ≤ u.2.2 ∧ zOrd n (u :: r)
theorem zWL_len : zWL.length = 35 := by unfold zWL; simp
theorem zWL_21 : (zWL.getD 21 []).length = 2 := by decide +kernel
theorem zWL_22 : ∀ k, k < 5 → 3 ≤ (zWL.getD (22 + k) []).length := by decide +kernel
theorem zidx_g {w : List Nat} {k : Nat} (h : zWL.idxOf w = k) (hk : k < 35) : zWL.getD k [] = w := by
  have hl : zWL.idxOf w < zWL.length := by rw [h, zWL_len]; exact hk
  have := List.getElem_idxOf hl
  subst h
  simp only [List.getD]
  rw [List.getElem?_eq_getElem hl]
  exact this
theorem zwdk_ok (w : List Nat) (hw : 1 ≤ w.length) : zwdk w < 49 ∧ zkl (zwdk w) ≤ w.length := by
  unfold zwdk
  split
  · have h1 : zWL.idxOf w ≤ 35 := by rw [← zWL_len]; exact List.idxOf_le_length
    refine ⟨by omega, ?_⟩
    unfold zkl
    split
    · rename_i h
      have := zidx_g h (by omega)
      rw [← this, zWL_21]
      omega
    · split
      · rename_i h
        obtain ⟨j, hj⟩ : ∃ j, zWL.idxOf w = 22 + j := ⟨zWL.idxOf w - 22, by omega⟩
        have := zidx_g hj (by omega)
        rw [← this]
        exact zWL_22 j (by omega)
      · exact hw
  · split
    · exact ⟨by omega, hw⟩
    · exact ⟨by omega, hw⟩
theorem zwdv_ok (w : List Nat) : zwdv w < 100 := by
  unfold zwdv
  split
  · rename_i h
    obtain ⟨h1, h2⟩ := h
    have dg : ∀ c, zcD c = true → c - 48 ≤ 9 := by
      intro c hc
      unfold zcD at hc
      simp only [Bool.and_eq_true, decide_eq_true_eq] at hc
      omega
    match w, h1, h2 with
    | [], _, _ => exact (by decide : 0 < 100)
    | [a], h1, _ =>
      simp only [List.all_cons, List.all_nil, Bool.and_true] at h1
      have := dg a h1
      show 0 * 10 + (a - 48) < 100
      omega
    | [a, b], h1, _ =>
      simp only [List.all_cons, List.all_nil, Bool.and_true, Bool.and_eq_true] at h1
      have q1 := dg a h1.1
      have q2 := dg b h1.2
      show (0 * 10 + (a - 48)) * 10 + (b - 48) < 100
      omega
    | _ :: _ :: _ :: _, _, h2 =>
      simp only [List.length_cons] at h2
      omega
  · omega
theorem zsk_ok (c : Nat) (eq : Bool) : zsk c eq < 49 ∧ zkl (zsk c eq) = 1 := by
  have : 37 ≤ zsk c eq ∧ zsk c eq ≤ 48 := by
    unfold zsk
    repeat' split
    all_goals omega
  refine ⟨by omega, ?_⟩
  unfold zkl
  rw [if_neg (by omega), if_neg (by omega)]
theorem ztk_ok {B : List Nat} {i : Nat} (h : i < B.length) : (ztk B i).1.1 < 49 ∧ (ztk B i).1.2.1 < 100 ∧ (ztk B i).1.2.2 = i ∧ i + zkl (ztk B i).1.1 ≤ (ztk B i).2 := by
  have he := ztk_e h
  unfold ztk at he ⊢
  split
  · rename_i hr
    rw [if_pos hr] at he
    simp only at he ⊢
    have hk := zwdk_ok (zWd B i) (by omega)
    exact ⟨hk.1, zwdv_ok _, trivial, by omega⟩
  · simp only
    have hk := zsk_ok (B.getD i 0) (zeqn B i)
    have hs := zsl_12 (zsk (B.getD i 0) (zeqn B i))
    exact ⟨hk.1, by omega, trivial, by omega⟩
theorem zOrd_k {B : List Nat} : ∀ (m i : Nat), B.length - i ≤ m → i ≤ B.length → zOrd B.length (zTk B i) ∧ i ≤ (zhdt (zTk B i)).2.2 ∧ ∀ t ∈ zTk B i, t.1 < 50 ∧ t.2.1 < 100 ∧ t.2.2 ≤ B.length := by
  intro m
  induction m with
  | zero =>
    intro i h1 h2
    rw [zTk_u, if_pos (by omega)]
    refine ⟨rfl, h2, fun t ht => ?_⟩
    simp only [List.mem_singleton] at ht
    rw [ht]
    exact ⟨(by decide : 49 < 50), (by decide : 0 < 100), Nat.le_refl _⟩
  | succ m ih =>
    intro i h1 h2
    rw [zTk_u]
    by_cases h : B.length ≤ i
    · rw [if_pos h]
      refine ⟨rfl, h2, fun t ht => ?_⟩
      simp only [List.mem_singleton] at ht
      rw [ht]
      exact ⟨(by decide : 49 < 50), (by decide : 0 < 100), Nat.le_refl _⟩
    · rw [if_neg h]
      by_cases hb : zcB (B.getD i 0) = true
      · rw [if_pos hb]
        obtain ⟨a, b, c⟩ := ih (i + 1) (by omega) (by omega)
        exact ⟨a, by omega, c⟩
      · rw [if_neg hb]
        have he := ztk_e (B := B) (i := i) (by omega)
        obtain ⟨k1, k2, k3, k4⟩ := ztk_ok (B := B) (i := i) (by omega)
        obtain ⟨a, b, c⟩ := ih (ztk B i).2 (by omega) he.2
        refine ⟨?_, ?_, fun t ht => ?_⟩
        · cases hz : zTk B (ztk B i).2 with
          | nil => rw [hz] at a; exact a.elim
          | cons u r =>
            rw [hz] at a b
            have b' : (ztk B i).2 ≤ u.2.2 := b
            exact ⟨by omega, by omega, a⟩
        · show i ≤ (ztk B i).1.2.2
          omega
        · simp only [List.mem_cons] at ht
          rcases ht with rfl | ht
          · exact ⟨by omega, k2, by omega⟩
          · exact c t ht
theorem zOrd_l {n : Nat} : ∀ {T : List zTok}, zOrd n T → T.drop (T.length - 1) = [(49, 0, n)]
  | [], h => h.elim
  | [t], h => by
    have h' : t = (49, 0, n) := h
    rw [h']
    rfl
  | t :: u :: r, h => by
    have := zOrd_l (T := u :: r) h.2.2
    simp only [List.length_cons] at this ⊢
    rw [show r.length + 1 + 1 - 1 = r.length + 1 - 1 + 1 by omega, List.drop_succ_cons]
    exact this
theorem zTok1_k {B : List Nat} (h : B.length ≤ 900) : zTok1 (zTk B 0) B.length ∧ (zTk B 0).length ≤ 901 ∧ 1 ≤ (zTk B 0).length := by
  obtain ⟨a, b, c⟩ := zOrd_k (B := B) B.length 0 (by omega) (by omega)
  have hl := zTk_len (B := B) B.length 0 (by omega)
  exact ⟨⟨zOrd_l a, fun t ht => ⟨(c t ht).1, (c t ht).2.1, Nat.le_trans (c t ht).2.2 h⟩⟩, by omega, hl.2⟩
/-- on by one -/
theorem zOrd_g {n : Nat} {R : List zTok} (h : zOrd n R) (hk : (zhdt R).1 ≠ 49) : zOrd n (zgn R) ∧ (zhdt R).2.2 + zkl (zhdt R).1 ≤ (zhdt (zgn R)).2.2 ∧ (zgn R).length + 1 = R.length := by
  match R, h with
  | [t], h =>
    have h' : t = (49, 0, n) := h
    rw [h'] at hk
    exact absurd rfl hk
  | t :: u :: r, h =>
    have e : zgn (t :: u :: r) = u :: r := rfl
    rw [e]
    exact ⟨h.2.2, h.2.1, rfl⟩
theorem zOrd_e {n : Nat} {R : List zTok} (h : zOrd n R) (hk : (zhdt R).1 = 49) : R = [(49, 0, n)] ∧ zgn R = R := by
  match R, h with
  | [t], h =>
    have h' : t = (49, 0, n) := h
    rw [h']
    exact ⟨rfl, rfl⟩
  | t :: u :: r, h => exact absurd hk h.1
theorem zOrd_n {n : Nat} {R : List zTok} (h : zOrd n R) : (zhdt R).2.2 ≤ n := by
  induction R with
  | nil => exact h.elim
  | cons t r ih =>
    cases r with
    | nil =>
      have h' : t = (49, 0, n) := h
      rw [h']
      exact Nat.le_refl n
    | cons u r =>
      have := ih h.2.2
      have h2 := h.2.1
      show t.2.2 ≤ n
      have e : (zhdt (u :: r)).2.2 = u.2.2 := rfl
      omega
theorem zOrd_gn {n : Nat} {R : List zTok} (h : zOrd n R) : zOrd n (zgn R) ∧ (zhdt R).2.2 ≤ (zhdt (zgn R)).2.2 ∧ (zgn R).length ≤ R.length := by
  by_cases hk : (zhdt R).1 = 49
  · obtain ⟨-, e⟩ := zOrd_e h hk
    rw [e]
    exact ⟨h, Nat.le_refl _, Nat.le_refl _⟩
  · obtain ⟨a, b, c⟩ := zOrd_g h hk
    exact ⟨a, by omega, by omega⟩
