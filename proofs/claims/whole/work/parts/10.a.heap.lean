/-! reading after writing; whole arrays -/
def zv {α : Type} (f : Nat → α) (a : Nat) (g : α) : Nat → α := fun b => if b = a then g else f b
def zwA (σ : zH) (a : Nat) (f : Nat → Int32) : zH := (zK σ, zN σ, zI σ, zJ σ, zQ σ, zv (zA σ) a f, zB σ, zS σ, zX σ, zL σ)
def zwB (σ : zH) (a : Nat) (f : Nat → Int64) : zH := (zK σ, zN σ, zI σ, zJ σ, zQ σ, zA σ, zv (zB σ) a f, zS σ, zX σ, zL σ)
def zwS (σ : zH) (a : Nat) (f : Nat → Nat) : zH := (zK σ, zN σ, zI σ, zJ σ, zQ σ, zA σ, zB σ, zv (zS σ) a f, zX σ, zL σ)
theorem z2_zv {α : Type} (f : Nat → Nat → α) (a j : Nat) (v : α) : z2 f a j v = zv f a (zu (f a) j v) := by
  funext b i
  by_cases hb : b = a
  · subst hb; simp [z2, zv, zu]
  · simp [z2, zv, hb]
theorem zsA_w (σ : zH) (a j : Nat) (v : Int32) : zsA σ a j v = zwA σ a (zu (zA σ a) j v) := by unfold zsA zwA; rw [z2_zv]
theorem zsB_w (σ : zH) (a j : Nat) (v : Int64) : zsB σ a j v = zwB σ a (zu (zB σ a) j v) := by unfold zsB zwB; rw [z2_zv]
theorem zsS_w (σ : zH) (a j : Nat) (v : Nat) : zsS σ a j v = zwS σ a (zu (zS σ a) j v) := by unfold zsS zwS; rw [z2_zv]
theorem zh : (∀ (σ : zH) (a j : Nat) (v : Int32), zK (zsI σ a j v) = zK σ) ∧ (∀ (σ : zH) (a j : Nat) (v : Int32), zN (zsI σ a j v) = zN σ) ∧ (∀ (σ : zH) (a j : Nat) (v : Int32) (b i : Nat), zI (zsI σ a j v) b i = if b = a ∧ i = j then v else zI σ b i) ∧ (∀ (σ : zH) (a j : Nat) (v : Int32), zJ (zsI σ a j v) = zJ σ) ∧ (∀ (σ : zH) (a j : Nat) (v : Int32), zQ (zsI σ a j v) = zQ σ) ∧ (∀ (σ : zH) (a j : Nat) (v : Int32), zA (zsI σ a j v) = zA σ) ∧ (∀ (σ : zH) (a j : Nat) (v : Int32), zB (zsI σ a j v) = zB σ) ∧ (∀ (σ : zH) (a j : Nat) (v : Int32), zS (zsI σ a j v) = zS σ) ∧ (∀ (σ : zH) (a j : Nat) (v : Int32), zX (zsI σ a j v) = zX σ) ∧ (∀ (σ : zH) (a j : Nat) (v : Int32), zL (zsI σ a j v) = zL σ) ∧ (∀ (σ : zH) (a j : Nat) (v : Int64), zK (zsJ σ a j v) = zK σ) ∧ (∀ (σ : zH) (a j : Nat) (v : Int64), zN (zsJ σ a j v) = zN σ) ∧ (∀ (σ : zH) (a j : Nat) (v : Int64), zI (zsJ σ a j v) = zI σ) ∧ (∀ (σ : zH) (a j : Nat) (v : Int64) (b i : Nat), zJ (zsJ σ a j v) b i = if b = a ∧ i = j then v else zJ σ b i) ∧ (∀ (σ : zH) (a j : Nat) (v : Int64), zQ (zsJ σ a j v) = zQ σ) ∧ (∀ (σ : zH) (a j : Nat) (v : Int64), zA (zsJ σ a j v) = zA σ) ∧ (∀ (σ : zH) (a j : Nat) (v : Int64), zB (zsJ σ a j v) = zB σ) ∧ (∀ (σ : zH) (a j : Nat) (v : Int64), zS (zsJ σ a j v) = zS σ) ∧ (∀ (σ : zH) (a j : Nat) (v : Int64), zX (zsJ σ a j v) = zX σ) ∧ (∀ (σ : zH) (a j : Nat) (v : Int64), zL (zsJ σ a j v) = zL σ) ∧ (∀ (σ : zH) (a j : Nat) (v : Nat), zK (zsQ σ a j v) = zK σ) ∧ (∀ (σ : zH) (a j : Nat) (v : Nat), zN (zsQ σ a j v) = zN σ) ∧ (∀ (σ : zH) (a j : Nat) (v : Nat), zI (zsQ σ a j v) = zI σ) ∧ (∀ (σ : zH) (a j : Nat) (v : Nat), zJ (zsQ σ a j v) = zJ σ) ∧ (∀ (σ : zH) (a j : Nat) (v : Nat) (b i : Nat), zQ (zsQ σ a j v) b i = if b = a ∧ i = j then v else zQ σ b i) ∧ (∀ (σ : zH) (a j : Nat) (v : Nat), zA (zsQ σ a j v) = zA σ) ∧ (∀ (σ : zH) (a j : Nat) (v : Nat), zB (zsQ σ a j v) = zB σ) ∧ (∀ (σ : zH) (a j : Nat) (v : Nat), zS (zsQ σ a j v) = zS σ) ∧ (∀ (σ : zH) (a j : Nat) (v : Nat), zX (zsQ σ a j v) = zX σ) ∧ (∀ (σ : zH) (a j : Nat) (v : Nat), zL (zsQ σ a j v) = zL σ) ∧ (∀ (σ : zH) (a : Nat) (f : Nat → Int32), zK (zwA σ a f) = zK σ) ∧ (∀ (σ : zH) (a : Nat) (f : Nat → Int32), zN (zwA σ a f) = zN σ) ∧ (∀ (σ : zH) (a : Nat) (f : Nat → Int32), zI (zwA σ a f) = zI σ) ∧ (∀ (σ : zH) (a : Nat) (f : Nat → Int32), zJ (zwA σ a f) = zJ σ) ∧ (∀ (σ : zH) (a : Nat) (f : Nat → Int32), zQ (zwA σ a f) = zQ σ) ∧ (∀ (σ : zH) (a : Nat) (f : Nat → Int32) (b : Nat), zA (zwA σ a f) b = if b = a then f else zA σ b) ∧ (∀ (σ : zH) (a : Nat) (f : Nat → Int32), zB (zwA σ a f) = zB σ) ∧ (∀ (σ : zH) (a : Nat) (f : Nat → Int32), zS (zwA σ a f) = zS σ) ∧ (∀ (σ : zH) (a : Nat) (f : Nat → Int32), zX (zwA σ a f) = zX σ) ∧ (∀ (σ : zH) (a : Nat) (f : Nat → Int32), zL (zwA σ a f) = zL σ) ∧ (∀ (σ : zH) (a : Nat) (f : Nat → Int64), zK (zwB σ a f) = zK σ) ∧ (∀ (σ : zH) (a : Nat) (f : Nat → Int64), zN (zwB σ a f) = zN σ) ∧ (∀ (σ : zH) (a : Nat) (f : Nat → Int64), zI (zwB σ a f) = zI σ) ∧ (∀ (σ : zH) (a : Nat) (f : Nat → Int64), zJ (zwB σ a f) = zJ σ) ∧ (∀ (σ : zH) (a : Nat) (f : Nat → Int64), zQ (zwB σ a f) = zQ σ) ∧ (∀ (σ : zH) (a : Nat) (f : Nat → Int64), zA (zwB σ a f) = zA σ) ∧ (∀ (σ : zH) (a : Nat) (f : Nat → Int64) (b : Nat), zB (zwB σ a f) b = if b = a then f else zB σ b) ∧ (∀ (σ : zH) (a : Nat) (f : Nat → Int64), zS (zwB σ a f) = zS σ) ∧ (∀ (σ : zH) (a : Nat) (f : Nat → Int64), zX (zwB σ a f) = zX σ) ∧ (∀ (σ : zH) (a : Nat) (f : Nat → Int64), zL (zwB σ a f) = zL σ) ∧ (∀ (σ : zH) (a : Nat) (f : Nat → Nat), zK (zwS σ a f) = zK σ) ∧ (∀ (σ : zH) (a : Nat) (f : Nat → Nat), zN (zwS σ a f) = zN σ) ∧ (∀ (σ : zH) (a : Nat) (f : Nat → Nat), zI (zwS σ a f) = zI σ) ∧ (∀ (σ : zH) (a : Nat) (f : Nat → Nat), zJ (zwS σ a f) = zJ σ) ∧ (∀ (σ : zH) (a : Nat) (f : Nat → Nat), zQ (zwS σ a f) = zQ σ) ∧ (∀ (σ : zH) (a : Nat) (f : Nat → Nat), zA (zwS σ a f) = zA σ) ∧ (∀ (σ : zH) (a : Nat) (f : Nat → Nat), zB (zwS σ a f) = zB σ) ∧ (∀ (σ : zH) (a : Nat) (f : Nat → Nat) (b : Nat), zS (zwS σ a f) b = if b = a then f else zS σ b) ∧ (∀ (σ : zH) (a : Nat) (f : Nat → Nat), zX (zwS σ a f) = zX σ) ∧ (∀ (σ : zH) (a : Nat) (f : Nat → Nat), zL (zwS σ a f) = zL σ) := ⟨fun _ _ _ _ => rfl, fun _ _ _ _ => rfl, fun _ _ _ _ _ _ => rfl, fun _ _ _ _ => rfl, fun _ _ _ _ => rfl, fun _ _ _ _ => rfl, fun _ _ _ _ => rfl, fun _ _ _ _ => rfl, fun _ _ _ _ => rfl, fun _ _ _ _ => rfl, fun _ _ _ _ => rfl, fun _ _ _ _ => rfl, fun _ _ _ _ => rfl, fun _ _ _ _ _ _ => rfl, fun _ _ _ _ => rfl, fun _ _ _ _ => rfl, fun _ _ _ _ => rfl, fun _ _ _ _ => rfl, fun _ _ _ _ => rfl, fun _ _ _ _ => rfl, fun _ _ _ _ => rfl, fun _ _ _ _ => rfl, fun _ _ _ _ => rfl, fun _ _ _ _ => rfl, fun _ _ _ _ _ _ => rfl, fun _ _ _ _ => rfl, fun _ _ _ _ => rfl, fun _ _ _ _ => rfl, fun _ _ _ _ => rfl, fun _ _ _ _ => rfl, fun _ _ _ => rfl, fun _ _ _ => rfl, fun _ _ _ => rfl, fun _ _ _ => rfl, fun _ _ _ => rfl, fun _ _ _ _ => rfl, fun _ _ _ => rfl, fun _ _ _ => rfl, fun _ _ _ => rfl, fun _ _ _ => rfl, fun _ _ _ => rfl, fun _ _ _ => rfl, fun _ _ _ => rfl, fun _ _ _ => rfl, fun _ _ _ => rfl, fun _ _ _ => rfl, fun _ _ _ _ => rfl, fun _ _ _ => rfl, fun _ _ _ => rfl, fun _ _ _ => rfl, fun _ _ _ => rfl, fun _ _ _ => rfl, fun _ _ _ => rfl, fun _ _ _ => rfl, fun _ _ _ => rfl, fun _ _ _ => rfl, fun _ _ _ => rfl, fun _ _ _ _ => rfl, fun _ _ _ => rfl, fun _ _ _ => rfl⟩
theorem zh_st : (∀ (σ : zH) (a j : Nat) (v : Int32), zsA σ a j v = zwA σ a (zu (zA σ a) j v)) ∧ (∀ (σ : zH) (a j : Nat) (v : Int64), zsB σ a j v = zwB σ a (zu (zB σ a) j v)) ∧ (∀ (σ : zH) (a j : Nat) (v : Nat), zsS σ a j v = zwS σ a (zu (zS σ a) j v)) := ⟨zsA_w, zsB_w, zsS_w⟩
/-- two heaps that hold the same -/
theorem zH_ext {σ τ : zH} (h1 : zK σ = zK τ) (h2 : zN σ = zN τ) (h3 : zI σ = zI τ) (h4 : zJ σ = zJ τ) (h5 : zQ σ = zQ τ) (h6 : zA σ = zA τ) (h7 : zB σ = zB τ) (h8 : zS σ = zS τ) (h9 : zX σ = zX τ) (h10 : zL σ = zL τ) : σ = τ := by
  obtain ⟨a1, a2, a3, a4, a5, a6, a7, a8, a9, a10⟩ := σ
  obtain ⟨b1, b2, b3, b4, b5, b6, b7, b8, b9, b10⟩ := τ
  simp only [zK, zN, zI, zJ, zQ, zA, zB, zS, zX, zL] at *
  subst h1; subst h2; subst h3; subst h4; subst h5; subst h6; subst h7; subst h8; subst h9; subst h10
  rfl
theorem zwA_wA (σ : zH) (a : Nat) (f g : Nat → Int32) : zwA (zwA σ a f) a g = zwA σ a g := by
  apply zH_ext <;> first | (simp only [zh]; done) | (funext b; simp only [zh]; by_cases h : b = a <;> simp [h])
theorem zwB_wB (σ : zH) (a : Nat) (f g : Nat → Int64) : zwB (zwB σ a f) a g = zwB σ a g := by
  apply zH_ext <;> first | (simp only [zh]; done) | (funext b; simp only [zh]; by_cases h : b = a <;> simp [h])
theorem zwA_self (σ : zH) (a : Nat) : zwA σ a (zA σ a) = σ := by
  apply zH_ext <;> first | (simp only [zh]; done) | (funext b; simp only [zh]; by_cases h : b = a <;> simp [h])
theorem zwB_self (σ : zH) (a : Nat) : zwB σ a (zB σ a) = σ := by
  apply zH_ext <;> first | (simp only [zh]; done) | (funext b; simp only [zh]; by_cases h : b = a <;> simp [h])
theorem zsI_sI (σ : zH) (a j : Nat) (v w : Int32) : zsI (zsI σ a j v) a j w = zsI σ a j w := by
  apply zH_ext <;> first | (simp only [zh]; done) | (funext b i; simp only [zh]; by_cases h : b = a ∧ i = j <;> simp [h])
theorem zsI_self (σ : zH) (a j : Nat) : zsI σ a j (zI σ a j) = σ := by
  apply zH_ext <;> first | (simp only [zh]; done) | (funext b i; simp only [zh]; by_cases h : b = a ∧ i = j <;> simp [h])
theorem zu_same {α : Type} (f : Nat → α) (a : Nat) (v : α) : zu f a v a = v := by simp [zu]
theorem zu_ne {α : Type} (f : Nat → α) {a b : Nat} (v : α) (h : b ≠ a) : zu f a v b = f b := by simp [zu, h]
/-- constants -/
theorem zoi (n : Nat) : Int32.ofInt (no_index (OfNat.ofNat n)) = nI (OfNat.ofNat n) := rfl
theorem zoi_m1 : Int32.ofInt (-1) = -1 := rfl
theorem zol (n : Nat) : Int64.ofInt (no_index (OfNat.ofNat n)) = lN (OfNat.ofNat n) := rfl
/-- a store at the place next to the others -/
theorem zcl (j : Nat) (h : j < 2 ^ 31) : (nI j).toNatClampNeg = j := nI_clamp h
/-- the shape of a table at t -/
def zTb (σ : zH) (t : Nat) : Prop := zK σ t = 7 ∧ zK σ (t + 1) = 20 ∧ zK σ (t + 2) = 20 ∧ zK σ (t + 3) = 20 ∧ zN σ (t + 1) = 64 ∧ zN σ (t + 2) = 16 ∧ zN σ (t + 3) = 4 ∧ zQ σ t 0 = 4 ∧ zQ σ t 1 = t + 1 ∧ zQ σ t 2 = t + 2 ∧ zQ σ t 3 = t + 3
/-- the heap with this in the table at t: cards lying, hand, sizes, marked -/
def zTa (σ : zH) (t : Nat) (ly hd sz : Nat → Int32) (mk : Int32) : zH := zsI (zwA (zwA (zwA σ (t + 1) ly) (t + 2) hd) (t + 3) sz) t 4 mk
theorem zTa_b {σ : zH} {t : Nat} {ly hd sz : Nat → Int32} {mk : Int32} (h : zTb σ t) : zTb (zTa σ t ly hd sz mk) t := by
  unfold zTb zTa at *
  simp only [zh]
  exact h
theorem zTa_self (σ : zH) (t : Nat) : zTa σ t (zA σ (t + 1)) (zA σ (t + 2)) (zA σ (t + 3)) (zI σ t 4) = σ := by
  apply zH_ext <;> first | (simp only [zTa, zh]; done) | (funext b; simp only [zTa, zh]; by_cases h1 : b = t + 3 <;> by_cases h2 : b = t + 2 <;> by_cases h3 : b = t + 1 <;> simp [*]; done) | (funext b i; simp only [zTa, zh]; by_cases h : b = t ∧ i = 4 <;> simp [h])
theorem zTa_ly (σ : zH) (t : Nat) (ly hd sz f : Nat → Int32) (mk : Int32) : zwA (zTa σ t ly hd sz mk) (t + 1) f = zTa σ t f hd sz mk := by
  apply zH_ext <;> first | (simp only [zTa, zh]; done) | (funext b i; simp only [zTa, zh]; done) | (funext b; simp only [zTa, zh]; by_cases h1 : b = t + 3 <;> by_cases h2 : b = t + 2 <;> by_cases h3 : b = t + 1 <;> simp [*])
theorem zTa_hd (σ : zH) (t : Nat) (ly hd sz f : Nat → Int32) (mk : Int32) : zwA (zTa σ t ly hd sz mk) (t + 2) f = zTa σ t ly f sz mk := by
  apply zH_ext <;> first | (simp only [zTa, zh]; done) | (funext b i; simp only [zTa, zh]; done) | (funext b; simp only [zTa, zh]; by_cases h1 : b = t + 3 <;> by_cases h2 : b = t + 2 <;> by_cases h3 : b = t + 1 <;> simp [*])
theorem zTa_sz (σ : zH) (t : Nat) (ly hd sz f : Nat → Int32) (mk : Int32) : zwA (zTa σ t ly hd sz mk) (t + 3) f = zTa σ t ly hd f mk := by
  apply zH_ext <;> first | (simp only [zTa, zh]; done) | (funext b i; simp only [zTa, zh]; done) | (funext b; simp only [zTa, zh]; by_cases h1 : b = t + 3 <;> by_cases h2 : b = t + 2 <;> by_cases h3 : b = t + 1 <;> simp [*])
theorem zTa_mk (σ : zH) (t : Nat) (ly hd sz : Nat → Int32) (mk v : Int32) : zsI (zTa σ t ly hd sz mk) t 4 v = zTa σ t ly hd sz v := by unfold zTa; rw [zsI_sI]
theorem zTa_r (σ : zH) (t : Nat) (ly hd sz : Nat → Int32) (mk : Int32) : zA (zTa σ t ly hd sz mk) (t + 1) = ly ∧ zA (zTa σ t ly hd sz mk) (t + 2) = hd ∧ zA (zTa σ t ly hd sz mk) (t + 3) = sz ∧ zI (zTa σ t ly hd sz mk) t 4 = mk := by
  refine ⟨?_, ?_, ?_, ?_⟩ <;> simp [zTa, zh]
theorem zTa_k (σ : zH) (t : Nat) (ly hd sz : Nat → Int32) (mk : Int32) : zK (zTa σ t ly hd sz mk) = zK σ ∧ zN (zTa σ t ly hd sz mk) = zN σ ∧ zQ (zTa σ t ly hd sz mk) = zQ σ ∧ zJ (zTa σ t ly hd sz mk) = zJ σ ∧ zB (zTa σ t ly hd sz mk) = zB σ ∧ zS (zTa σ t ly hd sz mk) = zS σ ∧ zX (zTa σ t ly hd sz mk) = zX σ ∧ zL (zTa σ t ly hd sz mk) = zL σ := by
  refine ⟨?_, ?_, ?_, ?_, ?_, ?_, ?_, ?_⟩ <;> simp only [zTa, zh]
