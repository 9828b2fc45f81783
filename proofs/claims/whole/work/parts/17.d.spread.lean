/-! tricks: flat rows of steps, their nesting, their run over sets -/
def zSg (St : List zStp) (k : Nat) : zStp := St.getD k (0, 0, 0, 0, 0, 0, 0, [])
def zwf (St : List zStp) : Nat → Nat → Nat → Nat → Prop
  | 0, a, b, _ => a = b
  | f + 1, a, b, dp => a = b ∨ (a < b ∧ ((zpW (zSg St a) ≤ 10 ∧ zpA (zSg St a) = a + 1 ∧ zwf St f (a + 1) b dp) ∨ (zpW (zSg St a) = 11 ∧ dp < 4 ∧ a < zpA (zSg St a) ∧ zpA (zSg St a) ≤ b ∧ zwf St f (a + 1) (zpA (zSg St a)) (dp + 1) ∧ zwf St f (zpA (zSg St a)) b dp) ∨ (zpW (zSg St a) = 12 ∧ dp < 4 ∧ a < zpM (zSg St a) ∧ zpM (zSg St a) ≤ zpA (zSg St a) ∧ zpA (zSg St a) ≤ b ∧ zwf St f (a + 1) (zpM (zSg St a)) (dp + 1) ∧ zwf St f (zpM (zSg St a)) (zpA (zSg St a)) (dp + 1) ∧ zwf St f (zpA (zSg St a)) b dp)))
def zrep (g : zSt → Option zSt) : Nat → zSt → Option zSt
  | 0, L => some L
  | h + 1, L => match g L with
    | none => none
    | some L' => zrep g h L'
def zjn : zSt → zSt → Option zSt
  | [], M => some M
  | (x, r) :: E, M => match zputS M x r with
    | none => none
    | some M' => zjn E M'
def zmeet (D : zDT) (cs : List zCd) (x : zTS) : Bool := ztop (zev (zct D (zmk x) (zpl x)) cs [])
def zgo (D : zDT) (St : List zStp) : Nat → Nat → Nat → zSt → Option zSt
  | 0, _, _, L => some L
  | f + 1, a, b, L => if b ≤ a then some L else
    if zpW (zSg St a) = 11 then (match zrep (fun L => zgo D St f (a + 1) (zpA (zSg St a)) L) (zpH (zSg St a)) L with
      | none => none
      | some L' => zgo D St f (zpA (zSg St a)) b L')
    else if zpW (zSg St a) = 12 then (match zgo D St f (a + 1) (zpM (zSg St a)) (L.filter (fun e => zmeet D (zpC (zSg St a)) e.1)) with
      | none => none
      | some M1 => match zgo D St f (zpM (zSg St a)) (zpA (zSg St a)) (L.filter (fun e => !zmeet D (zpC (zSg St a)) e.1)) with
        | none => none
        | some M2 => match zjn M2 M1 with
          | none => none
          | some M => zgo D St f (zpA (zSg St a)) b M)
    else match zall (zSg St a) L [] with
      | none => none
      | some L' => zgo D St f (zpA (zSg St a)) b L'
def zch (St : List zStp) : Nat → Nat → Nat → Nat
  | 0, _, _ => 0
  | f + 1, a, b => if b ≤ a then 0 else if zpW (zSg St a) = 11 then zpH (zSg St a) * zch St f (a + 1) (zpA (zSg St a)) + zch St f (zpA (zSg St a)) b else if zpW (zSg St a) = 12 then zch St f (a + 1) (zpM (zSg St a)) + zch St f (zpM (zSg St a)) (zpA (zSg St a)) + zch St f (zpA (zSg St a)) b else zfr1 (zSg St a) + zch St f (zpA (zSg St a)) b
theorem zgo_nil (D : zDT) (St : List zStp) : ∀ (f a b : Nat), zgo D St f a b [] = some []
  | 0, _, _ => rfl
  | f + 1, a, b => by
    rw [zgo]
    have hrep : ∀ h, zrep (fun L => zgo D St f (a + 1) (zpA (zSg St a)) L) h [] = some [] := by
      intro h
      induction h with
      | zero => rfl
      | succ h ih => rw [zrep, zgo_nil D St f]; exact ih
    split
    · rfl
    · split
      · rw [hrep]; exact zgo_nil D St f _ _
      · split
        · simp only [List.filter_nil]
          rw [zgo_nil D St f, zgo_nil D St f]
          exact zgo_nil D St f _ _
        · rw [zall]; exact zgo_nil D St f _ _
/-- the class's Step at place k of the Trick T -/
def zCS (σ : zH) (T k : Nat) (s : zStp) : Prop := zI σ (T + 6 + k) 0 = nI (zpW s) ∧ zI σ (T + 6 + k) 6 = nI (zpA s) ∧ zpW s ≤ 12 ∧ zpA s ≤ 40 ∧ zpM s ≤ 40 ∧ (zpW s ≤ 10 → zSr σ (T + 6 + k) (zpW s) (zpP s) (zpQ s) (zpG s) (zpH s) ∧ zSw (zpW s) (zpP s) (zpQ s) (zpG s) (zpH s)) ∧ (zpW s = 11 → zI σ (T + 6 + k) 4 = nI (zpH s) ∧ 2 ≤ zpH s ∧ zpH s ≤ 9) ∧ (zpW s = 12 → zI σ (T + 6 + k) 5 = nI (zpM s) ∧ ∃ i, zI σ (T + 6 + k) 7 = nI i ∧ zI σ (T + 6 + k) 8 = nI (i + (zpC s).length) ∧ i + (zpC s).length ≤ 450 ∧ zCls σ (T + 2) i (zpC s) ∧ (∀ c ∈ zpC s, zvc c) ∧ zsafe (zpC s) 0)
def zTs (σ : zH) (T : Nat) : Prop := zK σ T = 10 ∧ zQ σ T 0 = T + 1 ∧ zQ σ T 1 = T + 2 ∧ zK σ (T + 1) = 23 ∧ zN σ (T + 1) = 40 ∧ (∀ k, k < 40 → zS σ (T + 1) k = T + 6 + k ∧ zK σ (T + 6 + k) = 6) ∧ zCo σ (T + 2)
def zTrk (σ : zH) (T : Nat) (St : List zStp) : Prop := zTs σ T ∧ zI σ T 2 = nI St.length ∧ St.length ≤ 40 ∧ ∀ k, k < St.length → zCS σ T k (zSg St k)
theorem zTs_fr {lo hi : Nat} {σ τ : zH} (h : zFr lo hi σ τ) {T : Nat} (hT : T + 46 ≤ lo ∨ hi ≤ T) (hs : zTs σ T) : zTs τ T := by
  obtain ⟨a1, a2, a3, a4, a5, a6, a7⟩ := hs
  have o := zFr_o h (a := T) (by omega)
  have o1 := zFr_o h (a := T + 1) (by omega)
  refine ⟨by rw [h.1]; exact a1, by rw [o.2.2.1]; exact a2, by rw [o.2.2.1]; exact a3, by rw [h.1]; exact a4, by rw [h.2.1]; exact a5, fun k hk => ?_, zCo_fr h (by omega) a7⟩
  rw [o1.2.2.2.2.2, h.1]
  exact a6 k hk
theorem zCS_fr {lo hi : Nat} {σ τ : zH} (h : zFr lo hi σ τ) {T k : Nat} {s : zStp} (hk : k < 40) (hT : T + 46 ≤ lo ∨ hi ≤ T) (hs : zCS σ T k s) : zCS τ T k s := by
  have o := zFr_o h (a := T + 6 + k) (by omega)
  obtain ⟨b1, b2, b3, b4, b5, b6, b7, b8⟩ := hs
  refine ⟨by rw [o.1]; exact b1, by rw [o.1]; exact b2, b3, b4, b5, fun e => ⟨zSr_fr h (by omega) (b6 e).1, (b6 e).2⟩, fun e => by rw [o.1]; exact b7 e, fun e => ?_⟩
  rw [o.1]
  obtain ⟨c1, i, c2, c3, c4, c5, c6⟩ := b8 e
  exact ⟨c1, i, c2, c3, c4, zCls_fr h (by omega) c5, c6⟩
theorem zTrk_fr {lo hi : Nat} {σ τ : zH} (h : zFr lo hi σ τ) {T : Nat} {St : List zStp} (hT : T + 46 ≤ lo ∨ hi ≤ T) (hs : zTrk σ T St) : zTrk τ T St := by
  obtain ⟨a1, a2, a3, a4⟩ := hs
  refine ⟨zTs_fr h hT a1, by rw [(zFr_o h (a := T) (by omega)).1]; exact a2, a3, fun k hk => zCS_fr h (by omega) hT (a4 k hk)⟩
def zPre (σ0 σ : zH) (dp n k nw nx : Nat) (wt : Nat → Nat) (C : Nat → List (Nat × Nat)) (lg : Bool) (L : zSt) : Prop := zSp σ nw nx wt C lg ∧ zFr 18 54 σ0 σ ∧ zDis dp nw nx wt ∧ (lg = false → C nw = zeC L ∧ zSok n k L)
def zPos (σ0 τ : zH) (dp n k nw nx : Nat) (wt : Nat → Nat) (C : Nat → List (Nat × Nat)) (res : Option zSt) (nw' nx' : Nat) (wt' : Nat → Nat) (C' : Nat → List (Nat × Nat)) (lg' : Bool) : Prop := zSp τ nw' nx' wt' C' lg' ∧ zFr 18 54 σ0 τ ∧ zDis dp nw' nx' wt' ∧ (∀ j, j < dp → wt' j = wt j) ∧ (∀ w, zAct dp nw' nx' wt' w → zAct dp nw nx wt w) ∧ (∀ w, zWs w → ¬ zAct dp nw nx wt w → C' w = C w) ∧ (match res with | some M => lg' = false ∧ C' nw' = zeC M ∧ zSok n k M | none => lg' = true)
theorem zPos_t {σ0 τ υ : zH} {dp n k k2 nw nx nw1 nx1 nw2 nx2 : Nat} {wt wt1 wt2 : Nat → Nat} {C C1 C2 : Nat → List (Nat × Nat)} {res res2 : Option zSt} {lg1 lg2 : Bool} (h1 : zPos σ0 τ dp n k nw nx wt C res nw1 nx1 wt1 C1 lg1) (h2 : zPos σ0 υ dp n k2 nw1 nx1 wt1 C1 res2 nw2 nx2 wt2 C2 lg2) : zPos σ0 υ dp n k2 nw nx wt C res2 nw2 nx2 wt2 C2 lg2 := by
  obtain ⟨a1, a2, a3, a4, a5, a6, a7⟩ := h1
  obtain ⟨b1, b2, b3, b4, b5, b6, b7⟩ := h2
  exact ⟨b1, b2, b3, fun j hj => (b4 j hj).trans (a4 j hj), fun w hw => a5 w (b5 w hw), fun w hw hn => (b6 w hw (fun q => hn (a5 w q))).trans (a6 w hw hn), b7⟩
/-- what was come to is what goes on -/
theorem zPos_pre {σ0 τ : zH} {dp n k nw nx nw1 nx1 : Nat} {wt wt1 : Nat → Nat} {C C1 : Nat → List (Nat × Nat)} {res : Option zSt} {lg1 : Bool} (h1 : zPos σ0 τ dp n k nw nx wt C res nw1 nx1 wt1 C1 lg1) (M : zSt) (hM : ∀ M', res = some M' → M' = M) : zPre σ0 τ dp n k nw1 nx1 wt1 C1 lg1 M := by
  obtain ⟨a1, a2, a3, a4, a5, a6, a7⟩ := h1
  refine ⟨a1, a2, a3, fun hl => ?_⟩
  cases res with
  | none => simp only at a7; rw [a7] at hl; simp at hl
  | some M' => simp only at a7; rw [hM M' rfl] at a7; exact a7.2
/-- the contract of doSteps -/
def zDS (D : zDT) (St : List zStp) (σ0 : zH) (T n d e f a b dp : Nat) : Prop := ∀ (k : Nat) (L : zSt) (σ : zH) (nw nx : Nat) (wt : Nat → Nat) (C : Nat → List (Nat × Nat)) (lg : Bool) (Q : Option Value → zH → Prop), zPre σ0 σ dp n k nw nx wt C lg L → k + zch St f a b ≤ 8 → (∀ τ nw' nx' wt' C' lg', zPos σ0 τ dp n (k + zch St f a b) nw nx wt C (if lg then none else zgo D St f a b L) nw' nx' wt' C' lg' → Q none τ) → zM (d + 2 * e + 5) 49 [.ref 18, .ref T, .int (nI a), .int (nI b), .int (nI dp)] σ Q
