/-! sets of ways in which the cards lie, each with a row of choices -/
abbrev zTS : Type := List Nat × List Nat × List Nat × List Nat × Nat
def zpl (x : zTS) : Nat → List Nat := fun p => match p with | 0 => x.1 | 1 => x.2.1 | 2 => x.2.2.1 | _ => x.2.2.2.1
def zmk (x : zTS) : Nat := x.2.2.2.2
def zts (a : (Nat → List Nat) × Nat) : zTS := (a.1 0, a.1 1, a.1 2, a.1 3, a.2)
def zVS (n : Nat) (x : zTS) : Prop := zVP n (zpl x) (zmk x)
def zkC (x : zTS) : Nat := zkey (zpl x) (zmk x)
theorem zkC_ts (a : (Nat → List Nat) × Nat) : zkC (zts a) = zkey a.1 a.2 := rfl
theorem zpl_ts (a : (Nat → List Nat) × Nat) {p : Nat} (hp : p < 4) : zpl (zts a) p = a.1 p := by
  rcases (show p = 0 ∨ p = 1 ∨ p = 2 ∨ p = 3 by omega) with rfl | rfl | rfl | rfl <;> rfl
theorem zVS_ts {n : Nat} {a : (Nat → List Nat) × Nat} (h : zVP n a.1 a.2) : zVS n (zts a) := by
  obtain ⟨h1, h2, h3, h4⟩ := h
  refine ⟨h1, h2, fun p hp c hc => ?_, h4⟩
  rw [zpl_ts a hp] at hc
  exact h3 p hp c hc
theorem zkC_inj {n : Nat} {x y : zTS} (hx : zVS n x) (hy : zVS n y) (h : zkC x = zkC y) : x = y := by
  have kx := zkey_lt (P := zpl x) (mk := zmk x) (by have := hx.1; have := hx.2.1; omega) (zVP_32 hx) (by have := hx.2.2.2; omega)
  have ky := zkey_lt (P := zpl y) (mk := zmk y) (by have := hy.1; have := hy.2.1; omega) (zVP_32 hy) (by have := hy.2.2.2; omega)
  have lx := zVP_9 hx
  have ly := zVP_9 hy
  obtain ⟨E, hE⟩ : ∃ E, E = 2 ^ 45 := ⟨_, rfl⟩
  obtain ⟨a0, a1, a2, a3, -⟩ := zsz_of hE (L := zdig (zseq (zpl x))) (by rw [hE]; exact kx.1) (show (zpl x 0).length < 16 by have := lx 0 (by decide); omega) (show (zpl x 1).length < 16 by have := lx 1 (by decide); omega) (show (zpl x 2).length < 16 by have := lx 2 (by decide); omega) (show zmk x < 16 by have := hx.2.2.2; omega) (zkey_E hE (zpl x) (zmk x))
  obtain ⟨b0, b1, b2, b3, -⟩ := zsz_of hE (L := zdig (zseq (zpl y))) (by rw [hE]; exact ky.1) (show (zpl y 0).length < 16 by have := ly 0 (by decide); omega) (show (zpl y 1).length < 16 by have := ly 1 (by decide); omega) (show (zpl y 2).length < 16 by have := ly 2 (by decide); omega) (show zmk y < 16 by have := hy.2.2.2; omega) (zkey_E hE (zpl y) (zmk y))
  have hh : zkey (zpl x) (zmk x) = zkey (zpl y) (zmk y) := h
  rw [hh] at a0 a1 a2 a3
  have e0 : (zpl x 0).length = (zpl y 0).length := a0.symm.trans b0
  have e1 : (zpl x 1).length = (zpl y 1).length := a1.symm.trans b1
  have e2 : (zpl x 2).length = (zpl y 2).length := a2.symm.trans b2
  have e3 : zmk x = zmk y := a3.symm.trans b3
  have ed : zdig (zseq (zpl x)) = zdig (zseq (zpl y)) := by
    have f1 := zkey_E hE (zpl x) (zmk x)
    have f2 := zkey_E hE (zpl y) (zmk y)
    rw [hh, e0, e1, e2, e3] at f1
    generalize E * ((zpl y 0).length + 16 * (zpl y 1).length + 256 * (zpl y 2).length + 4096 * zmk y) = Z at f1 f2
    omega
  have hm : ∀ z : zTS, zVS n z → ∀ c ∈ zseq (zpl z), c < 32 := by
    intro z hz c hc
    unfold zseq at hc
    simp only [List.mem_append, List.mem_reverse] at hc
    have h32 := zVP_32 hz
    rcases hc with h | h | h | h
    · exact h32 0 (by decide) c h
    · exact h32 1 (by decide) c h
    · exact h32 2 (by decide) c h
    · exact h32 3 (by decide) c h
  have es := zdig_inj (hm x hx) (hm y hy) (by rw [zseq_len, zseq_len, hx.1, hy.1]) ed
  unfold zseq at es
  obtain ⟨g0, es⟩ := List.append_inj es (by simp [e0])
  obtain ⟨g1, es⟩ := List.append_inj es (by simp [e1])
  obtain ⟨g2, g3⟩ := List.append_inj es (by simp [e2])
  have g0' := List.reverse_inj.mp g0
  have g1' := List.reverse_inj.mp g1
  have g2' := List.reverse_inj.mp g2
  have g3' := List.reverse_inj.mp g3
  obtain ⟨x0, x1, x2, x3, x4⟩ := x
  obtain ⟨y0, y1, y2, y3, y4⟩ := y
  have g0'' : x0 = y0 := g0'
  have g1'' : x1 = y1 := g1'
  have g2'' : x2 = y2 := g2'
  have g3'' : x3 = y3 := g3'
  have e3' : x4 = y4 := e3
  rw [g0'', g1'', g2'', g3'', e3']
/-- rows of choices, in order -/
def zlx : List Nat → List Nat → Bool
  | [], [] => false
  | [], _ :: _ => true
  | _ :: _, [] => false
  | a :: l, b :: m => if a < b then true else if a = b then zlx l m else false
def zrmin (a b : List Nat) : List Nat := if zlx b a then b else a
def zdv (B : Nat) : Nat → List Nat → Nat
  | 0, _ => 0
  | _ + 1, [] => 0
  | n + 1, c :: l => (c + 1) * B ^ n + zdv B n l
def zrok (n : Nat) (r : List Nat) : Prop := r.length ≤ n ∧ ∀ c ∈ r, c ≤ 125
theorem zdv_lt {B : Nat} (hB : 127 < B) : ∀ (n : Nat) (l : List Nat), zrok n l → zdv B n l < B ^ n
  | 0, _, _ => by simp [zdv]
  | n + 1, [], _ => by simp only [zdv]; exact Nat.pow_pos (by omega)
  | n + 1, c :: l, h => by
    simp only [zdv]
    have h1 := h.2 c (by simp)
    have h2 := zdv_lt hB n l ⟨by have := h.1; simp at this; omega, fun x hx => h.2 x (by simp [hx])⟩
    rw [Nat.pow_succ]
    have h3 : (c + 1 + 1) * B ^ n ≤ B ^ n * B := by rw [Nat.mul_comm]; exact Nat.mul_le_mul_left _ (by omega)
    rw [Nat.add_mul] at h3
    omega
theorem zdv_lx {B : Nat} (hB : 127 < B) : ∀ (n : Nat) (a b : List Nat), zrok n a → zrok n b → ((zdv B n a < zdv B n b) ↔ zlx a b = true) ∧ (zdv B n a = zdv B n b → a = b)
  | 0, [], [], _, _ => by simp [zdv, zlx]
  | 0, _ :: _, _, h, _ => by have := h.1; simp at this
  | 0, [], _ :: _, _, h => by have := h.1; simp at this
  | n + 1, [], [], _, _ => by simp [zdv, zlx]
  | n + 1, [], b :: m, _, _ => by
    simp only [zdv, zlx]
    have : 0 < (b + 1) * B ^ n := Nat.mul_pos (by omega) (Nat.pow_pos (by omega))
    refine ⟨by simp; omega, fun h => by omega⟩
  | n + 1, a :: l, [], _, _ => by
    simp only [zdv, zlx]
    have : 0 < (a + 1) * B ^ n := Nat.mul_pos (by omega) (Nat.pow_pos (by omega))
    refine ⟨by simp, fun h => by omega⟩
  | n + 1, a :: l, b :: m, ha, hb => by
    have ha' : zrok n l := ⟨by have := ha.1; simp at this; omega, fun x hx => ha.2 x (by simp [hx])⟩
    have hb' : zrok n m := ⟨by have := hb.1; simp at this; omega, fun x hx => hb.2 x (by simp [hx])⟩
    obtain ⟨i1, i2⟩ := zdv_lx hB n l m ha' hb'
    have l1 := zdv_lt hB n l ha'
    have l2 := zdv_lt hB n m hb'
    simp only [zdv, zlx]
    generalize B ^ n = X at *
    by_cases hab : a < b
    · have h3 : (a + 1 + 1) * X ≤ (b + 1) * X := Nat.mul_le_mul_right _ (by omega)
      rw [Nat.add_mul (a + 1)] at h3
      rw [if_pos hab]
      refine ⟨⟨fun _ => rfl, fun _ => by omega⟩, fun h => by omega⟩
    · rw [if_neg hab]
      by_cases he : a = b
      · subst he
        rw [if_pos rfl]
        refine ⟨by rw [← i1]; omega, fun h => by rw [i2 (by omega)]⟩
      · rw [if_neg he]
        have h3 : (b + 1 + 1) * X ≤ (a + 1) * X := Nat.mul_le_mul_right _ (by omega)
        rw [Nat.add_mul (b + 1)] at h3
        refine ⟨⟨fun h => by omega, fun h => by simp at h⟩, fun h => by omega⟩
theorem zdv_app {B : Nat} (c : Nat) : ∀ (n : Nat) (l : List Nat), l.length < n → zdv B n (l ++ [c]) = zdv B n l + (c + 1) * B ^ (n - 1 - l.length)
  | 0, l, h => by simp at h
  | n + 1, [], _ => by
    cases n <;> simp [zdv]
  | n + 1, a :: l, h => by
    simp only [List.cons_append, zdv, List.length_cons]
    rw [zdv_app c n l (by simpa using h), show n + 1 - 1 - (l.length + 1) = n - 1 - l.length by omega]
    omega
/-- a row as the class has it -/
def zrC (r : List Nat) : Nat := 16 * zdv 128 8 r + r.length
theorem zrC_lt {r : List Nat} (h : zrok 8 r) : zrC r < 2 ^ 61 := by
  have := zdv_lt (B := 128) (by decide) 8 r h
  have h8 := h.1
  unfold zrC
  simp only [Nat.reducePow] at *
  omega
theorem zrC_lx {a b : List Nat} (ha : zrok 8 a) (hb : zrok 8 b) : (zrC a < zrC b ↔ zlx a b = true) ∧ (zrC a = zrC b → a = b) := by
  obtain ⟨h1, h2⟩ := zdv_lx (B := 128) (by decide) 8 a b ha hb
  have := ha.1
  have := hb.1
  unfold zrC
  refine ⟨?_, fun h => h2 (by omega)⟩
  rw [← h1]
  constructor
  · intro h
    rcases Nat.lt_trichotomy (zdv 128 8 a) (zdv 128 8 b) with g | g | g
    · exact g
    · rw [h2 g] at h; omega
    · omega
  · intro h; omega
theorem zmin_of {f : List Nat → Nat} {a b : List Nat} (h : f b < f a ↔ zlx b a = true) : min (f a) (f b) = f (zrmin a b) := by
  unfold zrmin
  by_cases g : zlx b a = true
  · rw [if_pos g, Nat.min_eq_right (by have := h.mpr g; omega)]
  · rw [if_neg g, Nat.min_eq_left (Nat.le_of_not_lt (fun q => g (h.mp q)))]
/-- sets -/
abbrev zSt : Type := List (zTS × List Nat)
def zinsS : zSt → zTS → List Nat → zSt
  | [], x, r => [(x, r)]
  | (y, s) :: L, x, r => if y = x then (y, zrmin s r) :: L else (y, s) :: zinsS L x r
def zputS (L : zSt) (x : zTS) (r : List Nat) : Option zSt := if x ∈ L.map (fun e => e.1) ∨ L.length < 3000 then some (zinsS L x r) else none
theorem zins_map {eK : zTS → Nat} {eR : List Nat → Nat} {x : zTS} {r : List Nat} : ∀ {L : zSt}, (∀ e ∈ L, eK e.1 = eK x → e.1 = x) → (∀ e ∈ L, min (eR e.2) (eR r) = eR (zrmin e.2 r)) → zins (L.map (fun e => (eK e.1, eR e.2))) (eK x) (eR r) = (zinsS L x r).map (fun e => (eK e.1, eR e.2))
  | [], _, _ => rfl
  | (y, s) :: L, h1, h2 => by
    simp only [List.map_cons, zins, zinsS]
    by_cases e : y = x
    · rw [if_pos e, if_pos (by rw [e]), List.map_cons, h2 (y, s) (by simp)]
    · rw [if_neg e, if_neg (fun q => e (h1 (y, s) (by simp) q)), List.map_cons, zins_map (fun e he => h1 e (by simp [he])) (fun e he => h2 e (by simp [he]))]
theorem zput_map {eK : zTS → Nat} {eR : List Nat → Nat} {x : zTS} {r : List Nat} {L : zSt} (h1 : ∀ e ∈ L, eK e.1 = eK x → e.1 = x) (h2 : ∀ e ∈ L, min (eR e.2) (eR r) = eR (zrmin e.2 r)) : zput (L.map (fun e => (eK e.1, eR e.2))) (eK x) (eR r) = (zputS L x r).map (fun M => M.map (fun e => (eK e.1, eR e.2))) := by
  unfold zput zputS
  have hm : eK x ∈ zkeys (L.map (fun e => (eK e.1, eR e.2))) ↔ x ∈ L.map (fun e => e.1) := by
    unfold zkeys
    simp only [List.map_map, List.mem_map, Function.comp]
    constructor
    · rintro ⟨e, he, q⟩; exact ⟨e, he, h1 e he q⟩
    · rintro ⟨e, he, q⟩; exact ⟨e, he, by rw [q]⟩
  rw [List.length_map]
  by_cases h : x ∈ L.map (fun e => e.1) ∨ L.length < 3000
  · rw [if_pos h, if_pos (by rw [hm]; exact h), zins_map h1 h2]; rfl
  · rw [if_neg h, if_neg (by rw [hm]; exact h)]; rfl
/-- sets whose ways are ways of n cards, and whose rows are rows of at most k choices -/
def zSok (n k : Nat) (L : zSt) : Prop := ∀ e ∈ L, zVS n e.1 ∧ zrok k e.2
theorem zinsS_ok {n k : Nat} {x : zTS} {r : List Nat} (hx : zVS n x) (hr : zrok k r) : ∀ {L : zSt}, zSok n k L → zSok n k (zinsS L x r)
  | [], _ => by intro e he; simp only [zinsS, List.mem_singleton] at he; rw [he]; exact ⟨hx, hr⟩
  | (y, s) :: L, h => by
    intro e he
    simp only [zinsS] at he
    have h0 := h (y, s) (by simp)
    split at he
    · rcases List.mem_cons.mp he with he | he
      · rw [he]
        refine ⟨h0.1, ?_⟩
        unfold zrmin
        simp only
        split
        · exact hr
        · exact h0.2
      · exact h e (by simp [he])
    · rcases List.mem_cons.mp he with he | he
      · rw [he]; exact h0
      · exact zinsS_ok hx hr (fun e he => h e (by simp [he])) e he
def zeC (L : zSt) : List (Nat × Nat) := L.map (fun e => (zkC e.1, zrC e.2))
theorem zput_C {n : Nat} {x : zTS} {r : List Nat} {L : zSt} (hL : zSok n 8 L) (hx : zVS n x) (hr : zrok 8 r) : zput (zeC L) (zkC x) (zrC r) = (zputS L x r).map zeC := zput_map (fun e he q => zkC_inj (hL e he).1 hx q) (fun e he => zmin_of (zrC_lx hr (hL e he).2).1)
theorem zkC_lt {n : Nat} {x : zTS} (h : zVS n x) : zkC x < 2 ^ 63 := Nat.lt_trans (zkey_lt (by have := h.1; have := h.2.1; omega) (zVP_32 h) (by have := h.2.2.2; omega)).2 (by decide)
