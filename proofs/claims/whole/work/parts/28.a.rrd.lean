/-! the reference's cursor -/
def zFn (J A : Nat → Prop) (σ τ : zH) : Prop := zK τ = zK σ ∧ zN τ = zN σ ∧ zQ τ = zQ σ ∧ zX τ = zX σ ∧ zL τ = zL σ ∧ zS τ = zS σ ∧ (∀ a, a ≠ 160 → zJ τ a = zJ σ a ∧ zI τ a = zI σ a) ∧ (∀ i, i ≠ 18 → zJ τ 160 i = zJ σ 160 i) ∧ (∀ i, ¬ J i → zI τ 160 i = zI σ 160 i) ∧ ∀ a, ¬ A a → zA τ a = zA σ a ∧ zB τ a = zB σ a
def zJr (i : Nat) : Prop := i = 4 ∨ i = 13 ∨ i = 14 ∨ i = 15 ∨ i = 16 ∨ i = 17 ∨ i = 19 ∨ i = 20
def zJg (i : Nat) : Prop := i = 4 ∨ i = 13 ∨ i = 14 ∨ i = 15
def zA0 (_ : Nat) : Prop := False
theorem zFn_r (J A : Nat → Prop) (σ : zH) : zFn J A σ σ := ⟨rfl, rfl, rfl, rfl, rfl, rfl, fun _ _ => ⟨rfl, rfl⟩, fun _ _ => rfl, fun _ _ => rfl, fun _ _ => ⟨rfl, rfl⟩⟩
theorem zFn_t {J A : Nat → Prop} {σ τ υ : zH} (h1 : zFn J A σ τ) (h2 : zFn J A τ υ) : zFn J A σ υ := by
  obtain ⟨a1, a2, a3, a4, a5, a6, a7, a8, a9, a10⟩ := h1
  obtain ⟨b1, b2, b3, b4, b5, b6, b7, b8, b9, b10⟩ := h2
  exact ⟨b1.trans a1, b2.trans a2, b3.trans a3, b4.trans a4, b5.trans a5, b6.trans a6, fun a h => ⟨(b7 a h).1.trans (a7 a h).1, (b7 a h).2.trans (a7 a h).2⟩, fun i h => (b8 i h).trans (a8 i h), fun i h => (b9 i h).trans (a9 i h), fun a h => ⟨(b10 a h).1.trans (a10 a h).1, (b10 a h).2.trans (a10 a h).2⟩⟩
theorem zFn_m {J A K B : Nat → Prop} {σ τ : zH} (h : zFn J A σ τ) (hj : ∀ i, J i → K i) (ha : ∀ i, A i → B i) : zFn K B σ τ := by
  obtain ⟨a1, a2, a3, a4, a5, a6, a7, a8, a9, a10⟩ := h
  exact ⟨a1, a2, a3, a4, a5, a6, a7, a8, fun i h => a9 i (fun q => h (hj i q)), fun a h => a10 a (fun q => h (ha a q))⟩
theorem zFn_I {J A : Nat → Prop} {σ : zH} {j : Nat} (v : Int32) (h : J j) : zFn J A σ (zsI σ 160 j v) := by
  refine ⟨rfl, rfl, rfl, rfl, rfl, rfl, fun a ha => ⟨rfl, ?_⟩, fun _ _ => rfl, fun i hi => ?_, fun _ _ => ⟨rfl, rfl⟩⟩
  · exact zIo ha
  · exact zIs (fun q => hi (q ▸ h))
theorem zFn_A {J A : Nat → Prop} {σ : zH} {a j : Nat} (v : Int32) (h : A a) : zFn J A σ (zsA σ a j v) := by
  refine ⟨rfl, rfl, rfl, rfl, rfl, rfl, fun a ha => ⟨rfl, rfl⟩, fun _ _ => rfl, fun i hi => rfl, fun b hb => ⟨?_, rfl⟩⟩
  funext i
  rw [zA_sA]
  exact if_neg (fun q => hb (by rw [q.1]; exact h))
theorem zFn_y {A : Nat → Prop} {σ τ : zH} (h : zFy σ τ) : zFn zJg A σ τ := by
  obtain ⟨a1, a2, a3, a4, a5, a6, a7, a8, a9, a10⟩ := h
  refine ⟨a1, a2, a3, a4, a5, a7, fun a ha => ⟨?_, ?_⟩, fun i hi => a6 160 i (by omega), fun i hi => a8 160 i (fun q => hi ?_), fun a _ => ⟨by rw [a9], by rw [a10]⟩⟩
  · funext i
    exact a6 a i (by omega)
  · funext i
    exact a8 a i (by omega)
  · unfold zJg; omega
theorem zFn_gr {A : Nat → Prop} {σ τ : zH} (h : zFn zJg A σ τ) : zFn zJr A σ τ := zFn_m h (fun i q => by unfold zJg at q; unfold zJr; omega) (fun _ q => q)
theorem zMb_n {J A : Nat → Prop} {σ τ : zH} (h : zFn J A σ τ) (hM : zMb σ) : zMb τ := by
  unfold zMb at *
  rw [h.1, h.2.1, h.2.2.1]
  exact hM
def zRuc (σ : zH) (B : List Nat) (R : List zTok) : Prop := zRx σ B ∧ zOrd B.length R ∧ zRtk σ (zhdt R) ∧ (zhdt R).1 < 50 ∧ (zhdt R).2.1 < 100 ∧ ∃ e, e ≤ B.length ∧ zI σ 160 4 = nI e ∧ zTk B e = zgn R ∧ zI σ 160 16 = nI 0
theorem zRx_n {J A : Nat → Prop} {σ τ : zH} (h : zFn J A σ τ) (h3 : ¬ J 3) (ha : ¬ A 161) {B : List Nat} (hx : zRx σ B) : zRx τ B := by
  obtain ⟨hM, ⟨t1, t2, t3⟩, e3⟩ := hx
  have hA := (h.2.2.2.2.2.2.2.2.2 161 ha).1
  exact ⟨zMb_n h hM, ⟨t1, fun i hi => by rw [hA]; exact t2 i hi, t3⟩, by rw [h.2.2.2.2.2.2.2.2.1 3 h3]; exact e3⟩
/-- fields that the cursor does not look at -/
theorem zRuc_n {J A : Nat → Prop} {σ τ : zH} (h : zFn J A σ τ) (hj : ¬ J 3 ∧ ¬ J 4 ∧ ¬ J 13 ∧ ¬ J 14 ∧ ¬ J 15 ∧ ¬ J 16) (ha : ¬ A 161) (h18 : zJ τ 160 18 = zJ σ 160 18) {B : List Nat} {R : List zTok} (hx : zRuc σ B R) : zRuc τ B R := by
  obtain ⟨x1, x2, x3, x4, x5, e, x6, x7, x8, x9⟩ := hx
  have hI := h.2.2.2.2.2.2.2.2.1
  refine ⟨zRx_n h hj.1 ha x1, x2, ?_, x4, x5, e, x6, by rw [hI 4 hj.2.1]; exact x7, x8, by rw [hI 16 hj.2.2.2.2.2]; exact x9⟩
  unfold zRtk at *
  rw [hI 13 hj.2.2.1, hI 14 hj.2.2.2.1, hI 15 hj.2.2.2.2.1, h18]
  exact x3
theorem zRuc_I {σ : zH} {j : Nat} (v : Int32) (hj : j ≠ 3 ∧ j ≠ 4 ∧ j ≠ 13 ∧ j ≠ 14 ∧ j ≠ 15 ∧ j ≠ 16) {B : List Nat} {R : List zTok} (hx : zRuc σ B R) : zRuc (zsI σ 160 j v) B R :=
  zRuc_n (J := fun i => i = j) (A := zA0) (zFn_I v rfl) (by omega) id rfl hx
theorem p_rgo {d : Nat} {σ : zH} {B : List Nat} {R : List zTok} (hR : zRuc σ B R) {Q : Option Value → zH → Prop} (hQ : ∀ τ, zRuc τ B (zgn R) → zFn zJg zA0 σ τ → Q none τ) : zM (d + 2) 142 [.ref 160] σ Q := by
  obtain ⟨x1, x2, x3, x4, x5, e, x6, x7, x8, x9⟩ := hR
  refine p_rnext x1 x6 x7 (fun τ e' g1 g2 g3 g4 g5 => hQ τ ⟨zRx_l g1 x1, (zOrd_gn x2).1, ?_, ?_, ?_, e', g4, g3, ?_, by rw [g1.2.2.2.2.2.2.2.1 160 16 (by omega)]; exact x9⟩ (zFn_y g1))
  · rw [← x8]; exact g2
  · have h := (zOrd_k (B := B) (B.length - e) e (Nat.le_refl _) x6)
    have hm : zhdt (zTk B e) ∈ zTk B e := by
      cases hz : zTk B e with
      | nil => rw [hz] at h; exact h.1.elim
      | cons a l => exact List.mem_cons_self
    rw [← x8]
    exact (h.2.2 _ hm).1
  · have h := (zOrd_k (B := B) (B.length - e) e (Nat.le_refl _) x6)
    have hm : zhdt (zTk B e) ∈ zTk B e := by
      cases hz : zTk B e with
      | nil => rw [hz] at h; exact h.1.elim
      | cons a l => exact List.mem_cons_self
    rw [← x8]
    exact (h.2.2 _ hm).2.1
  · rw [g5, x8]
theorem zRuc_16 {σ : zH} {B : List Nat} {R : List zTok} (h : zRuc σ B R) : zI σ 160 16 = nI 0 := by
  obtain ⟨x1, x2, x3, x4, x5, e, x6, x7, x8, x9⟩ := h
  exact x9
theorem zRuc_k {σ : zH} {B : List Nat} {R : List zTok} (h : zRuc σ B R) : zK σ 160 = 13 := by
  have ⟨mK0, mQ1, mK1, mN1, mQ6, mK6, mN6, mQ7, mK7, mN7, mQ8, mK8, mN8, mQ9, mK9, mN9, mQ10, mK10, mN10, mQ11, mK11, mN11, mQ21, mK21, mN21, mQ22, mK22, mN22, mQ23, mK23, mN23, mQ24, mK24, mN24, mQ25, mK25, mN25, mQ26, mK26, mN26, mQ27, mK27, mN27, mQ28, mK28, mN28, mQ32, mK32, mN32, mQ33, mK33, mN33, mQ34, mK34, mN34, mQ35, mK35, mN35, mQ40, mK40, mN40, mQ41, mK41, mN41, mQ42, mK42, mN42, mQ43, mK43, mN43, mQ44, mK44, mN44, mQ45, mK45, mN45, mQ62, mK62, mN62⟩ := h.1.1
  exact mK0
/-- what kind of token stands here -/
def zty (k : Nat) : Nat := if k = 49 then 0 else if k ≤ 35 then 1 else if k = 36 then 2 else if k = 48 then 4 else 3
theorem zty_ok : ∀ k, k < 50 → zty k < 5 ∧ (zty k = 0 ↔ k = 49) ∧ (zty k = 1 ↔ k ≤ 35) ∧ (zty k = 2 ↔ k = 36) ∧ (zty k = 3 ↔ 37 ≤ k ∧ k ≤ 47) ∧ (zty k = 4 ↔ k = 48) := by decide
theorem zRuc_13 {σ : zH} {B : List Nat} {R : List zTok} (h : zRuc σ B R) : zI σ 160 13 = nI (zty (zhdt R).1) := by
  unfold zty
  obtain ⟨x1, x2, ⟨y0, y1, y2, y3, y4, y5⟩, x4, x5, e, x6, x7, x8⟩ := h
  split
  · exact y1 (by assumption)
  · split
    · exact (y2 (by assumption)).1
    · split
      · exact (y3 (by assumption)).1
      · split
        · exact y5 (by assumption)
        · exact (y4 (by omega) (by omega)).1
theorem p_isw {d : Nat} {σ : zH} {B : List Nat} {R : List zTok} (hR : zRuc σ B R) {Q : Option Value → zH → Prop} {w : Nat} (k : Nat) (hk : k < 35) (hw : zwdn k = w) (h1 : (zhdt R).1 = k → Q (some (.int (nI 1))) σ) (h0 : (zhdt R).1 ≠ k → Q (some (.int (nI 0))) σ) : zM d 148 [.ref 160, .long (lN w)] σ Q := by
  refine b148 ⟨zRuc_k hR, ?_⟩
  rw [zRuc_13 hR]
  have ht := zty_ok (zhdt R).1 hR.2.2.2.1
  obtain ⟨x1, x2, ⟨y0, y1, y2, y3, y4, y5⟩, x4, x5, e, x6, x7, x8⟩ := hR
  by_cases h : (zhdt R).1 ≤ 35
  · obtain ⟨-, x, hx, z1, z2⟩ := y2 h
    have hw62 := zwdn_lt k hk
    rw [if_neg (by rw [ht.2.2.1.mpr h]; exact fun q => q rfl), z1, ← hw]
    have e : (lg_cmp (lN x) (lN (zwdn k)) = 0) ↔ (zhdt R).1 = k := by
      rw [lg_cmp_eq, pk_lEQ hx (Nat.lt_trans hw62 (by decide))]
      exact z2 k hk
    by_cases hz : (zhdt R).1 = k
    · rw [if_neg (fun q => q (e.mpr hz))]
      exact h1 hz
    · rw [if_pos (fun q => hz (e.mp q))]
      exact h0 hz
  · have hne : ¬ nI (zty (zhdt R).1) = nI 1 := by
      rw [nI_eq (by omega) (by omega)]
      exact fun q => h (ht.2.2.1.mp q)
    rw [if_pos hne]
    exact h0 (by omega)
theorem zsc_inj : ∀ a, a < 11 → ∀ b, b < 11 → zsc (37 + a) = zsc (37 + b) → a = b := by decide
theorem zsc_lt : ∀ a, a < 11 → zsc (37 + a) < 400 := by decide
theorem p_iss {d : Nat} {σ : zH} {B : List Nat} {R : List zTok} (hR : zRuc σ B R) {Q : Option Value → zH → Prop} {c : Nat} (k : Nat) (hk : 37 ≤ k ∧ k ≤ 47) (hc : zsc k = c) (h1 : (zhdt R).1 = k → Q (some (.int (nI 1))) σ) (h0 : (zhdt R).1 ≠ k → Q (some (.int (nI 0))) σ) : zM d 146 [.ref 160, .int (nI c)] σ Q := by
  refine b146 ⟨zRuc_k hR, ?_⟩
  have e13 := zRuc_13 hR
  have ht := zty_ok (zhdt R).1 hR.2.2.2.1
  obtain ⟨x1, x2, ⟨y0, y1, y2, y3, y4, y5⟩, x4, x5, e, x6, x7, x8⟩ := hR
  by_cases h : 37 ≤ (zhdt R).1 ∧ (zhdt R).1 ≤ 47
  · obtain ⟨z1, z2⟩ := y4 h.1 h.2
    rw [z1, if_neg (by exact fun q => q rfl), z2, ← hc]
    have l1 : zsc (zhdt R).1 < 400 := by
      have := zsc_lt ((zhdt R).1 - 37) (by omega)
      rw [show 37 + ((zhdt R).1 - 37) = (zhdt R).1 by omega] at this
      exact this
    have l2 : zsc k < 400 := by
      have := zsc_lt (k - 37) (by omega)
      rw [show 37 + (k - 37) = k by omega] at this
      exact this
    have e : (nI (zsc (zhdt R).1) = nI (zsc k)) ↔ (zhdt R).1 = k := by
      rw [nI_eq (by omega) (by omega)]
      constructor
      · intro q
        have := zsc_inj ((zhdt R).1 - 37) (by omega) (k - 37) (by omega) (by rw [show 37 + ((zhdt R).1 - 37) = (zhdt R).1 by omega, show 37 + (k - 37) = k by omega]; exact q)
        omega
      · intro q; rw [q]
    by_cases hz : (zhdt R).1 = k
    · rw [if_neg (fun q => q (e.mpr hz))]
      exact h1 hz
    · rw [if_pos (fun q => hz (e.mp q))]
      exact h0 hz
  · have hne : ¬ zI σ 160 13 = nI 3 := by
      rw [e13, nI_eq (by omega) (by omega)]
      exact fun q => h (ht.2.2.2.2.1.mp q)
    rw [if_pos hne]
    exact h0 (by omega)
/-- the fault is told -/
def zFlt (τ : zH) (e : Nat × Nat) : Prop := zI τ 160 16 = nI e.1 ∧ zI τ 160 17 = nI e.2
theorem p_rwrong {d f p : Nat} {σ : zH} (hk : zK σ 160 = 13) {Q : Option Value → zH → Prop} (hQ : ∀ τ, zFlt τ (f, p) → zFn zJr zA0 σ τ → Q (some (.int (nI 0))) τ) : zM d 144 [.ref 160, .int (nI f), .int (nI p)] σ Q := by
  refine b144 ⟨hk, hQ _ ⟨?_, ?_⟩ (zFn_t (zFn_I _ (by unfold zJr; omega)) (zFn_I _ (by unfold zJr; omega)))⟩
  · rw [zIs (by omega), zIe]
  · rw [zIe]
theorem zRuc_14 {σ : zH} {B : List Nat} {R : List zTok} (h : zRuc σ B R) : zI σ 160 14 = nI (zhdt R).2.2 := h.2.2.1.1
theorem p_cant {d : Nat} {σ : zH} {B : List Nat} {R : List zTok} (hR : zRuc σ B R) {Q : Option Value → zH → Prop} (hQ : ∀ τ, zFlt τ (zflt 2 R) → zFn zJr zA0 σ τ → Q (some (.int (nI 0))) τ) : zM (d + 1) 145 [.ref 160] σ Q := by
  refine b145 ⟨zRuc_k hR, ?_⟩
  rw [zRuc_14 hR]
  have e : (if ¬ zI σ 160 13 = nI 4 then nI 2 else nI 1) = nI (if (zhdt R).1 = 48 then 1 else 2) := by
    have ht := zty_ok (zhdt R).1 hR.2.2.2.1
    rw [zRuc_13 hR]
    by_cases h : (zhdt R).1 = 48
    · rw [if_pos (c := (zhdt R).1 = 48) h, if_neg (by rw [ht.2.2.2.2.2.mpr h]; exact fun q => q rfl)]
    · rw [if_neg (c := (zhdt R).1 = 48) h, if_pos]
      rw [nI_eq (by omega) (by omega)]
      exact fun q => h (ht.2.2.2.2.2.mp q)
  rw [e]
  refine p_rwrong (zRuc_k hR) (fun τ g1 g2 => ?_)
  rw [zqi_s]
  exact ⟨Or.inl rfl, hQ τ g1 g2⟩
theorem p_rmust {d : Nat} {σ : zH} {B : List Nat} {R : List zTok} (hR : zRuc σ B R) {Q : Option Value → zH → Prop} {c : Nat} (k : Nat) (hk : 37 ≤ k ∧ k ≤ 47) (hc : zsc k = c) (h1 : ∀ τ R', zexp k R = .ok R' → zRuc τ B R' → zFn zJr zA0 σ τ → Q (some (.int (nI 1))) τ) (h0 : ∀ τ e, zexp k R = .error e → zFlt τ e → zFn zJr zA0 σ τ → Q (some (.int (nI 0))) τ) : zM (d + 3) 147 [.ref 160, .int (nI c)] σ Q := by
  refine b147 ⟨zRuc_k hR, p_iss hR k hk hc (fun h => ?_) (fun h => ?_)⟩
  · rw [zqi_s, if_pos (by decide)]
    refine ⟨zRuc_k hR, p_rgo hR (fun τ g1 g2 => ?_)⟩
    rw [zqv_s]
    exact h1 τ _ (by unfold zexp; rw [if_pos h]) g1 (zFn_gr g2)
  · rw [zqi_s, if_neg (by decide)]
    refine ⟨zRuc_k hR, p_cant hR (fun τ g1 g2 => ?_)⟩
    rw [zqi_s]
    exact ⟨Or.inl rfl, h0 τ _ (by unfold zexp; rw [if_neg h]) g1 g2⟩
theorem p_rmustw {d : Nat} {σ : zH} {B : List Nat} {R : List zTok} (hR : zRuc σ B R) {Q : Option Value → zH → Prop} {w : Nat} (k : Nat) (hk : k < 35) (hw : zwdn k = w) (h1 : ∀ τ R', zexp k R = .ok R' → zRuc τ B R' → zFn zJr zA0 σ τ → Q (some (.int (nI 1))) τ) (h0 : ∀ τ e, zexp k R = .error e → zFlt τ e → zFn zJr zA0 σ τ → Q (some (.int (nI 0))) τ) : zM (d + 3) 149 [.ref 160, .long (lN w)] σ Q := by
  refine b149 ⟨zRuc_k hR, p_isw hR k hk hw (fun h => ?_) (fun h => ?_)⟩
  · rw [zqi_s, if_pos (by decide)]
    refine ⟨zRuc_k hR, p_rgo hR (fun τ g1 g2 => ?_)⟩
    rw [zqv_s]
    exact h1 τ _ (by unfold zexp; rw [if_pos h]) g1 (zFn_gr g2)
  · rw [zqi_s, if_neg (by decide)]
    refine ⟨zRuc_k hR, p_cant hR (fun τ g1 g2 => ?_)⟩
    rw [zqi_s]
    exact ⟨Or.inl rfl, h0 τ _ (by unfold zexp; rw [if_neg h]) g1 g2⟩
