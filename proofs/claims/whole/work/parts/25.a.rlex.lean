/-! the reference's tokens: words packed -/
def zpkw (u : List Nat) : Nat := u.foldl (fun a c => a * 256 + c) 0
def zpkr : List Nat → Nat
  | [] => 0
  | c :: l => zpkr l * 256 + c
theorem zpkw_s (u : List Nat) (c : Nat) : zpkw (u ++ [c]) = zpkw u * 256 + c := by
  unfold zpkw
  rw [List.foldl_append]
  rfl
theorem zpkw_r : ∀ (u : List Nat), zpkw u.reverse = zpkr u := by
  intro u
  induction u with
  | nil => rfl
  | cons c l ih => rw [List.reverse_cons, zpkw_s, ih, zpkr]
theorem zpkr_inj : ∀ (u v : List Nat), (∀ c ∈ u, 0 < c ∧ c < 256) → (∀ c ∈ v, 0 < c ∧ c < 256) → zpkr u = zpkr v → u = v := by
  intro u
  induction u with
  | nil =>
    intro v _ hv h
    cases v with
    | nil => rfl
    | cons c l =>
      have := hv c (by simp)
      rw [zpkr, zpkr] at h
      omega
  | cons a l ih =>
    intro v hu hv h
    have ha := hu a (by simp)
    cases v with
    | nil => rw [zpkr, zpkr] at h; omega
    | cons b m =>
      have hb := hv b (by simp)
      rw [zpkr, zpkr] at h
      have e1 : a = b := by omega
      have e2 : zpkr l = zpkr m := by omega
      rw [e1, ih m (fun c hc => hu c (by simp [hc])) (fun c hc => hv c (by simp [hc])) e2]
theorem zpkw_inj {u v : List Nat} (hu : u.all zcA = true) (hv : v.all zcA = true) (h : zpkw u = zpkw v) : u = v := by
  have g : ∀ {w : List Nat}, w.all zcA = true → ∀ c ∈ w.reverse, 0 < c ∧ c < 256 := by
    intro w hw c hc
    rw [List.all_eq_true] at hw
    have := hw c (List.mem_reverse.mp hc)
    unfold zcA at this
    simp only [Bool.and_eq_true, decide_eq_true_eq] at this
    omega
  have e := zpkr_inj u.reverse v.reverse (g hu) (g hv) (by rw [← zpkw_r, ← zpkw_r, List.reverse_reverse, List.reverse_reverse]; exact h)
  have := congrArg List.reverse e
  rwa [List.reverse_reverse, List.reverse_reverse] at this
theorem zWL_p : ∀ k, k < 35 → zwdn k = zpkw (zWL.getD k []) := by decide +kernel
theorem zpkw_lt {u : List Nat} (hu : ∀ c ∈ u, c < 256) : zpkw u < 256 ^ u.length := by
  have g : ∀ (l : List Nat), (∀ c ∈ l, c < 256) → zpkr l < 256 ^ l.length := by
    intro l
    induction l with
    | nil => intro _; decide
    | cons c l ih =>
      intro h
      have h1 := ih (fun x hx => h x (by simp [hx]))
      have h2 := h c (by simp)
      rw [zpkr, List.length_cons, Nat.pow_succ]
      omega
  have := g u.reverse (fun c hc => hu c (List.mem_reverse.mp hc))
  rw [← zpkw_r, List.reverse_reverse, List.length_reverse] at this
  exact this
/-- words of at most 8 letters stay below the sign -/
theorem zpkw_63 {u : List Nat} (hu : u.all zcA = true) (h8 : u.length ≤ 8) : zpkw u < 2 ^ 63 := by
  have ha : ∀ c ∈ u, c ≤ 122 := by
    intro c hc
    rw [List.all_eq_true] at hu
    have := hu c hc
    unfold zcA at this
    simp only [Bool.and_eq_true, decide_eq_true_eq] at this
    omega
  have g : ∀ (l : List Nat), (∀ c ∈ l, c ≤ 122) → 2 * zpkr l < 256 ^ l.length := by
    intro l
    induction l with
    | nil => intro _; decide
    | cons c l ih =>
      intro h
      have h1 := ih (fun x hx => h x (by simp [hx]))
      have h2 := h c (by simp)
      rw [zpkr, List.length_cons, Nat.pow_succ]
      omega
  have h1 := g u.reverse (fun c hc => ha c (List.mem_reverse.mp hc))
  rw [← zpkw_r, List.reverse_reverse, List.length_reverse] at h1
  have h2 : 256 ^ u.length ≤ 256 ^ 8 := Nat.pow_le_pow_right (by decide) h8
  have h3 : (256 : Nat) ^ 8 = 2 * 2 ^ 63 := by decide
  omega
theorem zidx_iff {w : List Nat} {k : Nat} (hk : k < 35) (hw : w.all zcA = true) : zpkw w = zwdn k ↔ zWL.idxOf w = k := by
  rw [zWL_p k hk]
  constructor
  · intro h
    have e := zpkw_inj hw (zWL_A k hk) h
    by_cases h2 : zWL.idxOf w < 35
    · have g : zWL.getD (zWL.idxOf w) [] = w := by
        simp [List.getD, List.getElem?_eq_getElem (show zWL.idxOf w < zWL.length by rw [zWL_n]; exact h2)]
      refine zwdn_inj _ h2 k hk ?_
      rw [zWL_p k hk, zWL_p _ h2, g, ← e]
    · have hm : w ∈ zWL := by
        rw [e]
        simp only [List.getD]
        rw [List.getElem?_eq_getElem (show k < zWL.length by rw [zWL_n]; exact hk)]
        exact List.getElem_mem _
      have := List.idxOf_lt_length_of_mem hm
      rw [zWL_n] at this
      omega
  · intro h
    have g : zWL.getD k [] = w := by
      subst h
      simp [List.getD, List.getElem?_eq_getElem (show zWL.idxOf w < zWL.length by rw [zWL_n]; exact hk)]
    rw [g]
theorem zor8 (a c : Nat) (hc : c < 256) : a * 2 ^ 8 ||| c = a * 256 + c := by
  have := Nat.two_pow_add_eq_or_of_lt (i := 8) (b := c) (by omega) a
  rw [Nat.mul_comm a, ← this]
def znr (u : List Nat) : Int32 := u.foldl (fun a c => ((nI 10 * a) + nI c) - nI 48) (nI 0)
theorem znr_f (u : List Nat) : znr u = znf u := by
  unfold znr znf
  have e : (fun (a : Int32) (c : Nat) => ((nI 10 * a) + nI c) - nI 48) = (fun a c => ((a * nI 10) + nI c) - nI 48) := by
    funext a c
    rw [Int32.mul_comm]
  rw [e]
