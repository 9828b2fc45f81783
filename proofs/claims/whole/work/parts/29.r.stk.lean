/-! orders of the cards -/
def zswp (f : Nat → Nat) (i j : Nat) : Nat → Nat := fun k => if k = j then f i else if k = i then f j else f k
def zrise (f : Nat → Nat) : Nat → Option Nat
  | 0 => none
  | k + 1 => if f k ≤ f (k + 1) then some k else zrise f k
def zabv (f : Nat → Nat) (i : Nat) : Nat → Nat
  | 0 => 0
  | j + 1 => if j + 1 ≤ i then j + 1 else if f i ≤ f (j + 1) then j + 1 else zabv f i j
def zrv : Nat → (Nat → Nat) → Nat → Nat → (Nat → Nat)
  | 0, f, _, _ => f
  | c + 1, f, a, b => if b ≤ a then f else zrv c (zswp f a b) (a + 1) (b - 1)
def znx (n : Nat) (f : Nat → Nat) : Option (Nat → Nat) := match zrise f (n - 1) with
  | none => none
  | some i => some (zrv n (zswp f i (zabv f i (n - 1))) (i + 1) (n - 1))
def zrwf (n : Nat) (f : Nat → Nat) : List Nat := (List.range n).map f
theorem zrwf_g {n i : Nat} {f : Nat → Nat} (h : i < n) : (zrwf n f).getD i 0 = f i := by
  unfold zrwf
  simp [List.getD, h]
theorem zrwf_l (n : Nat) (f : Nat → Nat) : (zrwf n f).length = n := by unfold zrwf; simp
def zfo (n : Nat) (f : Nat → Nat) : Prop := ∀ i, i < n → 1 ≤ f i ∧ f i ≤ 9
theorem zco9 : ∀ c, c < 10 → 1 ≤ c → c < 32 ∧ 1 ≤ c &&& 15 ∧ c &&& 15 ≤ 9 := by decide
theorem zrwf_c {n : Nat} {f : Nat → Nat} (h : zfo n f) : ∀ c ∈ zrwf n f, zco c := by
  intro c hc
  unfold zrwf at hc
  simp only [List.mem_map, List.mem_range] at hc
  obtain ⟨i, hi, rfl⟩ := hc
  exact zco9 (f i) (by have := (h i hi).2; omega) (h i hi).1
theorem zfo_sw {n i j : Nat} {f : Nat → Nat} (h : zfo n f) (hi : i < n) (hj : j < n) : zfo n (zswp f i j) := by
  intro k hk
  unfold zswp
  split
  · exact h i hi
  · split
    · exact h j hj
    · exact h k hk
theorem zfo_rv {n : Nat} : ∀ (c : Nat) (f : Nat → Nat) (a b : Nat), zfo n f → b < n → zfo n (zrv c f a b)
  | 0, f, _, _, h, _ => h
  | c + 1, f, a, b, h, hb => by
    rw [zrv]
    split
    · exact h
    · exact zfo_rv c _ _ _ (zfo_sw h (by omega) hb) (by omega)
theorem zrise_lt {f : Nat → Nat} : ∀ (k i : Nat), zrise f k = some i → i < k ∧ f i ≤ f (i + 1)
  | 0, i, h => by cases h
  | k + 1, i, h => by
    rw [zrise] at h
    split at h
    · simp only [Option.some.injEq] at h
      subst h
      rename_i q
      exact ⟨by omega, q⟩
    · have := zrise_lt k i h
      exact ⟨by omega, this.2⟩
theorem zabv_le (f : Nat → Nat) (i : Nat) : ∀ j, zabv f i j ≤ j
  | 0 => Nat.le_refl _
  | j + 1 => by
    rw [zabv]
    split
    · exact Nat.le_refl _
    · split
      · exact Nat.le_refl _
      · have := zabv_le f i j
        omega
theorem zfo_nx {n : Nat} {f g : Nat → Nat} (hn : 2 ≤ n) (h : zfo n f) (hg : znx n f = some g) : zfo n g := by
  unfold znx at hg
  cases hr : zrise f (n - 1) with
  | none => rw [hr] at hg; cases hg
  | some i =>
    rw [hr] at hg
    simp only [Option.some.injEq] at hg
    rw [← hg]
    have h1 := zrise_lt _ _ hr
    have h2 := zabv_le f i (n - 1)
    exact zfo_rv _ _ _ _ (zfo_sw h (by omega) (by omega)) (by omega)
/-! what stack looks for -/
def zgoodo (m : zMS) (f : Nat → Nat) : Bool := match zrunS (zmD m) (zmS m) (zmS m).length (zrwf (zmN m) f, [], [], [], 0) with
  | none => false
  | some L => decide (zcnt (zmD m) (zmC m) L = L.length)
def zstl (m : zMS) : Nat → Nat → (Nat → Nat) → Option (Nat × (Nat → Nat))
  | 0, _, _ => none
  | c + 1, k, f => if zgoodo m f then some (k, f) else match znx (zmN m) f with
    | none => none
    | some g => zstl m c (k + 1) g
def zmsr (row : List Nat) (m : zMS) : zMS := (zmB m, zmN m, zmD m, row, zmS m, zmC m, zmf m, zmR m, zmP m, zmT m)
def zsk2 (m : zMS) (x : Int32) : Option (Nat × (Nat → Nat)) := zstl m x.toNatClampNeg 0 (fun i => i + 1)
def zssk (m : zMS) (x : Int32) : zMS := match zsk2 m x with
  | none => m
  | some (_, f) => zmsr (zrwf (zmN m) f) m
def zask (m : zMS) (x : Int32) : Int32 := match zsk2 m x with
  | none => -1
  | some (k, _) => nI k
theorem zstl_fo {m : zMS} (hn : 2 ≤ zmN m) : ∀ (c k : Nat) (f : Nat → Nat) (r : Nat × (Nat → Nat)), zfo (zmN m) f → zstl m c k f = some r → zfo (zmN m) r.2
  | 0, k, f, r, _, h => by cases h
  | c + 1, k, f, r, hf, h => by
    rw [zstl] at h
    split at h
    · simp only [Option.some.injEq] at h
      rw [← h]
      exact hf
    · cases hx : znx (zmN m) f with
      | none => rw [hx] at h; cases h
      | some g =>
        rw [hx] at h
        exact zstl_fo hn c (k + 1) g r (zfo_nx hn hf hx) h
theorem zfo_1 {n : Nat} (h : n ≤ 9) : zfo n (fun i => i + 1) := fun i hi => ⟨by show 1 ≤ i + 1; omega, by show i + 1 ≤ 9; omega⟩
theorem zmok_r {m : zMS} {row : List Nat} (h : zMok m) (hr : row.length = zmN m ∧ ∀ c ∈ row, zco c) : zMok (zmsr row m) := by
  obtain ⟨h1, h2, h3, h4, h5, h6, h7, h8⟩ := h
  exact ⟨h1, h2, h3, hr, h5, h6, h7, h8⟩
theorem zmok_stack {m : zMS} {x : Int32} (h : zMok m) : zMok (zssk m x) := by
  unfold zssk
  cases hx : zsk2 m x with
  | none => exact h
  | some r =>
    obtain ⟨k, f⟩ := r
    exact zmok_r h ⟨zrwf_l _ _, zrwf_c (zstl_fo h.2.1.1 _ _ _ _ (zfo_1 h.2.1.2) hx)⟩
/-! the class's nextOrder -/
/-- the row at 59 is f -/
def zO59 (τ : zH) (n : Nat) (f : Nat → Nat) : Prop := ∀ i, i < n → zA τ 59 i = nI (f i)
theorem zm1 {k : Nat} (h : k < 20) : nI k + (-1) = (if k = 0 then -1 else nI (k - 1)) := by
  have : ∀ k, k < 20 → nI k + (-1) = (if k = 0 then -1 else nI (k - 1)) := by decide
  exact this k h
theorem p_exch {d n i j : Nat} {σ τ : zH} {f : Nat → Nat} (k1 : zK σ 1 = 12) (q6 : zQ σ 1 6 = 59) (k59 : zK σ 59 = 20) (n59 : zN σ 59 = 9) (hF : zFr 59 60 σ τ) (hi : i < n) (hj : j < n) (hn : n ≤ 9) (hO : zO59 τ n f) {Q : Option Value → zH → Prop} (hQ : ∀ υ, zFr 59 60 σ υ → zO59 υ n (zswp f i j) → Q none υ) : zM d 126 [.ref 1, .int (nI i), .int (nI j)] τ Q := by
  have e1 := zFr_o hF (a := 1) (by omega)
  refine b126 ?_
  rw [hF.1, hF.2.1, e1.2.2.1, k1, q6, k59, n59, zcl i (by omega), zcl j (by omega), hO i hi, hO j hj]
  refine ⟨rfl, rfl, vp_in_nI (by omega) (by omega), vp_in_nI (by omega) (by omega), hQ _ (zFr_t hF (zFr_t (zFr_sA _ _ (by omega) (by omega)) (zFr_sA _ _ (by omega) (by omega)))) (fun k hk => ?_)⟩
  unfold zswp
  rw [zA_sA]
  by_cases c1 : k = j
  · rw [if_pos ⟨rfl, c1⟩, if_pos c1]
  · rw [if_neg (by omega), if_neg c1, zA_sA]
    by_cases c2 : k = i
    · rw [if_pos ⟨rfl, c2⟩, if_pos c2]
    · rw [if_neg (by omega), if_neg c2]
      exact hO k hk
theorem l_rev {d n : Nat} {σ : zH} (k1 : zK σ 1 = 12) (q1 : zQ σ 1 1 = 4) (q6 : zQ σ 1 6 = 59) (k4 : zK σ 4 = 2) (e4 : zI σ 4 4 = nI n) (k59 : zK σ 59 = 20) (n59 : zN σ 59 = 9) (hn : n ≤ 9) (hn2 : 2 ≤ n) {Q : Option Value → zH → Prop} : ∀ (c a b : Nat) (f : Nat → Nat) (τ : zH), b - a ≤ c → b < n → a ≤ n → zFr 59 60 σ τ → zO59 τ n f → (∀ υ, zFr 59 60 σ υ → zO59 υ n (zrv c f a b) → Q (some (.int (nI 1))) υ) → zW (d + 1) 125 100 [(0, .ref 1), (3, .int (nI a)), (4, .int (nI b))] [] τ Q := by
  intro c
  induction c with
  | zero =>
    intro a b f τ hc hb ha hF hO hQ
    refine b125_100 ?_
    rw [if_pos (nI_le (by omega) (by omega))]
    exact hQ τ hF hO
  | succ c ih =>
    intro a b f τ hc hb ha hF hO hQ
    rw [zrv] at hQ
    refine b125_100 ?_
    by_cases q : b ≤ a
    · rw [if_pos q] at hQ
      rw [if_pos (nI_le (by omega) (by omega))]
      exact hQ τ hF hO
    · rw [if_neg q] at hQ
      rw [if_neg (nI_ge (by omega) (by omega))]
      refine ⟨by rw [hF.1]; exact k1, p_exch k1 q6 k59 n59 hF (by omega) hb hn hO (fun υ g1 g2 => ?_)⟩
      rw [zqv_s, nI_add, zm1 (by omega), if_neg (by omega)]
      exact ih (a + 1) (b - 1) _ υ (by omega) (by omega) (by omega) g1 g2 hQ
theorem l_abv {d n : Nat} {σ : zH} (k1 : zK σ 1 = 12) (q1 : zQ σ 1 1 = 4) (q6 : zQ σ 1 6 = 59) (k4 : zK σ 4 = 2) (e4 : zI σ 4 4 = nI n) (k59 : zK σ 59 = 20) (n59 : zN σ 59 = 9) (hn : n ≤ 9) (hn2 : 2 ≤ n) {i : Nat} {f : Nat → Nat} {τ : zH} (hi : i + 1 < n) (hf : zfo n f) (hF : zFr 59 60 σ τ) (hO : zO59 τ n f) {Q : Option Value → zH → Prop} : ∀ (j : Nat), j < n → zW (d + 1) 125 79 [(0, .ref 1), (1, .int (nI i)), (2, .int (nI (zabv f i j)))] [] τ Q → zW (d + 1) 125 53 [(0, .ref 1), (1, .int (nI i)), (2, .int (nI j))] [] τ Q := by
  intro j
  have e1 := zFr_o hF (a := 1) (by omega)
  induction j with
  | zero =>
    intro hj hQ
    refine b125_53 ?_
    rw [if_pos (nI_le (by omega) (by omega))]
    exact hQ
  | succ j ih =>
    intro hj hQ
    rw [zabv] at hQ
    refine b125_53 ?_
    by_cases q : j + 1 ≤ i
    · rw [if_pos q] at hQ
      rw [if_pos (nI_le q (by omega))]
      exact hQ
    · rw [if_neg q] at hQ
      have b1 := hf i (by omega)
      have b2 := hf (j + 1) hj
      rw [if_neg (nI_ge (by omega) (by omega)), hF.1, hF.2.1, e1.2.2.1, k1, q6, k59, n59, zcl i (by omega), zcl (j + 1) (by omega), hO i (by omega), hO (j + 1) hj]
      refine ⟨rfl, rfl, vp_in_nI (by omega) (by omega), vp_in_nI (by omega) (by omega), ?_⟩
      by_cases q2 : f i ≤ f (j + 1)
      · rw [if_pos q2] at hQ
        rw [if_pos (nI_le q2 (by omega))]
        exact hQ
      · rw [if_neg q2] at hQ
        rw [if_neg (nI_ge (by omega) (by omega)), zm1 (by omega), if_neg (by omega), Nat.add_sub_cancel]
        exact ih (by omega) hQ
theorem l_ris {d n : Nat} {σ : zH} (k1 : zK σ 1 = 12) (q1 : zQ σ 1 1 = 4) (q6 : zQ σ 1 6 = 59) (k4 : zK σ 4 = 2) (e4 : zI σ 4 4 = nI n) (k59 : zK σ 59 = 20) (n59 : zN σ 59 = 9) (hn : n ≤ 9) (hn2 : 2 ≤ n) {f : Nat → Nat} {τ : zH} (hf : zfo n f) (hF : zFr 59 60 σ τ) (hO : zO59 τ n f) {Q : Option Value → zH → Prop} (h1 : ∀ i, i + 1 < n → zrise f (n - 1) = some i → zW (d + 1) 125 37 [(0, .ref 1), (1, .int (nI i))] [] τ Q) (h0 : zrise f (n - 1) = none → Q (some (.int (nI 0))) τ) : ∀ (k : Nat), k < n → zrise f k = zrise f (n - 1) → zW (d + 1) 125 10 [(0, .ref 1), (1, .int (if k = 0 then -1 else nI (k - 1)))] [] τ Q := by
  intro k
  have e1 := zFr_o hF (a := 1) (by omega)
  induction k with
  | zero =>
    intro hk hr
    refine b125_10 ?_
    rw [if_pos (c := 0 = 0) rfl, if_pos (by decide)]
    refine b125_37 ?_
    rw [if_neg (by decide)]
    exact h0 hr.symm
  | succ k ih =>
    intro hk hr
    refine b125_10 ?_
    have b1 := hf k (by omega)
    have b2 := hf (k + 1) hk
    rw [if_neg (c := k + 1 = 0) (by omega), Nat.add_sub_cancel, if_neg (by rw [← nI_0]; exact nI_nlt (by omega) (by omega)), hF.1, hF.2.1, e1.2.2.1, k1, q6, k59, n59, nI_add, zcl k (by omega), zcl (k + 1) (by omega), hO k (by omega), hO (k + 1) hk]
    refine ⟨rfl, rfl, vp_in_nI (by omega) (by omega), vp_in_nI (by omega) (by omega), ?_⟩
    rw [zrise] at hr
    by_cases q : f k ≤ f (k + 1)
    · rw [if_pos q] at hr
      rw [if_pos (nI_le q (by omega))]
      exact h1 k hk hr.symm
    · rw [if_neg q] at hr
      rw [if_neg (nI_ge (by omega) (by omega)), zm1 (by omega)]
      exact ih (by omega) hr
theorem p_next {d n : Nat} {σ : zH} (k1 : zK σ 1 = 12) (q1 : zQ σ 1 1 = 4) (q6 : zQ σ 1 6 = 59) (k4 : zK σ 4 = 2) (e4 : zI σ 4 4 = nI n) (k59 : zK σ 59 = 20) (n59 : zN σ 59 = 9) (hn : n ≤ 9) (hn2 : 2 ≤ n) {f : Nat → Nat} {τ : zH} (hf : zfo n f) (hF : zFr 59 60 σ τ) (hO : zO59 τ n f) {Q : Option Value → zH → Prop} (h1 : ∀ υ g, znx n f = some g → zFr 59 60 σ υ → zO59 υ n g → Q (some (.int (nI 1))) υ) (h0 : ∀ υ, znx n f = none → zFr 59 60 σ υ → Q (some (.int (nI 0))) υ) : zM (d + 1) 125 [.ref 1] τ Q := by
  have e1 := zFr_o hF (a := 1) (by omega)
  have o4 := zFr_o hF (a := 4) (by omega)
  refine b125 ?_
  rw [hF.1, e1.2.2.1, k1, q1, o4.1, e4, k4, pk_sub (by omega)]
  refine ⟨rfl, rfl, ?_⟩
  have start := l_ris (d := d) k1 q1 q6 k4 e4 k59 n59 hn hn2 hf hF hO (Q := Q) (fun i hi hr => ?_) (fun hr => ?_) (n - 1) (by omega) rfl
  · rw [if_neg (by omega), show n - 1 - 1 = n - 2 by omega] at start
    exact start
  · refine b125_37 ?_
    rw [if_pos (by rw [← nI_0]; exact nI_le (by omega) (by omega)), hF.1, e1.2.2.1, k1, q1, o4.1, e4, k4, pk_sub (by omega)]
    refine ⟨rfl, rfl, ?_⟩
    refine l_abv k1 q1 q6 k4 e4 k59 n59 hn hn2 hi hf hF hO (n - 1) (by omega) ?_
    have ha := zabv_le f i (n - 1)
    refine b125_79 ⟨by rw [hF.1]; exact k1, p_exch k1 q6 k59 n59 hF (by omega) (by omega) hn hO (fun υ g1 g2 => ?_)⟩
    have w1 := zFr_o g1 (a := 1) (by omega)
    have w4 := zFr_o g1 (a := 4) (by omega)
    rw [zqv_s, g1.1, w1.2.2.1, k1, q1, w4.1, e4, k4, pk_sub (by omega), nI_add]
    refine ⟨rfl, rfl, ?_⟩
    refine l_rev k1 q1 q6 k4 e4 k59 n59 hn hn2 n (i + 1) (n - 1) _ υ (by omega) (by omega) (by omega) g1 g2 (fun ω y1 y2 => h1 ω _ ?_ y1 y2)
    unfold znx
    rw [hr]
  · refine h0 τ ?_ hF
    unfold znx
    rw [hr]
