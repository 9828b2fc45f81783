/-! constructors that make objects: what they leave -/
def zEo (b : Nat) (σ τ : zH) : Prop := zK τ b = zK σ b ∧ zN τ b = zN σ b ∧ zI τ b = zI σ b ∧ zJ τ b = zJ σ b ∧ zQ τ b = zQ σ b ∧ zA τ b = zA σ b ∧ zB τ b = zB σ b ∧ zS τ b = zS σ b
theorem zEo_r {b : Nat} {σ : zH} : zEo b σ σ := ⟨rfl, rfl, rfl, rfl, rfl, rfl, rfl, rfl⟩
theorem zEo_t {b : Nat} {σ τ υ : zH} (h : zEo b σ τ) (g : zEo b τ υ) : zEo b σ υ := by
  obtain ⟨a1, a2, a3, a4, a5, a6, a7, a8⟩ := h
  obtain ⟨b1, b2, b3, b4, b5, b6, b7, b8⟩ := g
  exact ⟨b1.trans a1, b2.trans a2, b3.trans a3, b4.trans a4, b5.trans a5, b6.trans a6, b7.trans a7, b8.trans a8⟩
theorem zN_na {σ : zH} {a k n len b : Nat} (h : b ≠ a) : zN (zna σ a k n len) b = zN σ b := by unfold zna; exact if_neg h
theorem zI_na {σ : zH} {a k n len b : Nat} (h : b ≠ a) : zI (zna σ a k n len) b = zI σ b := by unfold zna; funext i; exact if_neg h
theorem zJ_na {σ : zH} {a k n len b : Nat} (h : b ≠ a) : zJ (zna σ a k n len) b = zJ σ b := by unfold zna; funext i; exact if_neg h
theorem zQ_na {σ : zH} {a k n len b : Nat} (h : b ≠ a) : zQ (zna σ a k n len) b = zQ σ b := by unfold zna; funext i; exact if_neg h
theorem zA_na {σ : zH} {a k n len b : Nat} (h : b ≠ a) : zA (zna σ a k n len) b = zA σ b := by unfold zna; funext i; exact if_neg h
theorem zB_na {σ : zH} {a k n len b : Nat} (h : b ≠ a) : zB (zna σ a k n len) b = zB σ b := by unfold zna; funext i; exact if_neg h
theorem zS_na {σ : zH} {a k n len b : Nat} (h : b ≠ a) : zS (zna σ a k n len) b = zS σ b := by unfold zna; funext i; exact if_neg h
theorem zN_ne {σ : zH} {a k n len : Nat} : zN (zna σ a k n len) a = len := by unfold zna; exact if_pos rfl
theorem zI_ne {σ : zH} {a k n len : Nat} : zI (zna σ a k n len) a = fun _ => 0 := by unfold zna; funext i; exact if_pos rfl
theorem zJ_ne {σ : zH} {a k n len : Nat} : zJ (zna σ a k n len) a = fun _ => 0 := by unfold zna; funext i; exact if_pos rfl
theorem zQ_ne {σ : zH} {a k n len : Nat} : zQ (zna σ a k n len) a = fun _ => 0 := by unfold zna; funext i; exact if_pos rfl
theorem zA_ne {σ : zH} {a k n len : Nat} : zA (zna σ a k n len) a = fun _ => 0 := by unfold zna; funext i; exact if_pos rfl
theorem zB_ne {σ : zH} {a k n len : Nat} : zB (zna σ a k n len) a = fun _ => 0 := by unfold zna; funext i; exact if_pos rfl
theorem zS_ne {σ : zH} {a k n len : Nat} : zS (zna σ a k n len) a = fun _ => 0 := by unfold zna; funext i; exact if_pos rfl
theorem zL_na (σ : zH) (a k n len : Nat) : zL (zna σ a k n len) = zL σ + n := (Eq.refl _).trans (Eq.refl _)
theorem yX_na (σ : zH) (a k n len : Nat) : zX (zna σ a k n len) = a := (Eq.refl _).trans (Eq.refl _)
theorem yK_sQ (σ : zH) (a j : Nat) (v : Nat) : zK (zsQ σ a j v) = zK σ := (Eq.refl _).trans (Eq.refl _)
theorem yN_sQ (σ : zH) (a j : Nat) (v : Nat) : zN (zsQ σ a j v) = zN σ := (Eq.refl _).trans (Eq.refl _)
theorem yI_sQ (σ : zH) (a j : Nat) (v : Nat) : zI (zsQ σ a j v) = zI σ := (Eq.refl _).trans (Eq.refl _)
theorem yJ_sQ (σ : zH) (a j : Nat) (v : Nat) : zJ (zsQ σ a j v) = zJ σ := (Eq.refl _).trans (Eq.refl _)
theorem yA_sQ (σ : zH) (a j : Nat) (v : Nat) : zA (zsQ σ a j v) = zA σ := (Eq.refl _).trans (Eq.refl _)
theorem yB_sQ (σ : zH) (a j : Nat) (v : Nat) : zB (zsQ σ a j v) = zB σ := (Eq.refl _).trans (Eq.refl _)
theorem yS_sQ (σ : zH) (a j : Nat) (v : Nat) : zS (zsQ σ a j v) = zS σ := (Eq.refl _).trans (Eq.refl _)
theorem yX_sQ (σ : zH) (a j : Nat) (v : Nat) : zX (zsQ σ a j v) = zX σ := (Eq.refl _).trans (Eq.refl _)
theorem yL_sQ (σ : zH) (a j : Nat) (v : Nat) : zL (zsQ σ a j v) = zL σ := (Eq.refl _).trans (Eq.refl _)
theorem yQ_oQ {σ : zH} {a j b : Nat} {v : Nat} (h : b ≠ a) : zQ (zsQ σ a j v) b = zQ σ b := by unfold zsQ; funext i; exact if_neg (fun q => h q.1)
theorem yQ_eQ (σ : zH) (a j : Nat) (v : Nat) : zQ (zsQ σ a j v) a = zu (zQ σ a) j v := by
  unfold zsQ zu
  funext i
  show (if a = a ∧ i = j then v else zQ σ a i) = if i = j then v else zQ σ a i
  by_cases h : i = j
  · rw [if_pos ⟨rfl, h⟩, if_pos h]
  · rw [if_neg (fun q => h q.2), if_neg h]
theorem yK_sS (σ : zH) (a j : Nat) (v : Nat) : zK (zsS σ a j v) = zK σ := (Eq.refl _).trans (Eq.refl _)
theorem yN_sS (σ : zH) (a j : Nat) (v : Nat) : zN (zsS σ a j v) = zN σ := (Eq.refl _).trans (Eq.refl _)
theorem yI_sS (σ : zH) (a j : Nat) (v : Nat) : zI (zsS σ a j v) = zI σ := (Eq.refl _).trans (Eq.refl _)
theorem yJ_sS (σ : zH) (a j : Nat) (v : Nat) : zJ (zsS σ a j v) = zJ σ := (Eq.refl _).trans (Eq.refl _)
theorem yQ_sS (σ : zH) (a j : Nat) (v : Nat) : zQ (zsS σ a j v) = zQ σ := (Eq.refl _).trans (Eq.refl _)
theorem yA_sS (σ : zH) (a j : Nat) (v : Nat) : zA (zsS σ a j v) = zA σ := (Eq.refl _).trans (Eq.refl _)
theorem yB_sS (σ : zH) (a j : Nat) (v : Nat) : zB (zsS σ a j v) = zB σ := (Eq.refl _).trans (Eq.refl _)
theorem yX_sS (σ : zH) (a j : Nat) (v : Nat) : zX (zsS σ a j v) = zX σ := (Eq.refl _).trans (Eq.refl _)
theorem yL_sS (σ : zH) (a j : Nat) (v : Nat) : zL (zsS σ a j v) = zL σ := (Eq.refl _).trans (Eq.refl _)
theorem yS_oS {σ : zH} {a j b : Nat} {v : Nat} (h : b ≠ a) : zS (zsS σ a j v) b = zS σ b := by unfold zsS; funext i; exact if_neg (fun q => h q.1)
theorem yS_eS (σ : zH) (a j : Nat) (v : Nat) : zS (zsS σ a j v) a = zu (zS σ a) j v := by
  unfold zsS zu
  funext i
  show (if a = a ∧ i = j then v else zS σ a i) = if i = j then v else zS σ a i
  by_cases h : i = j
  · rw [if_pos ⟨rfl, h⟩, if_pos h]
  · rw [if_neg (fun q => h q.2), if_neg h]
theorem yK_sI (σ : zH) (a j : Nat) (v : Int32) : zK (zsI σ a j v) = zK σ := (Eq.refl _).trans (Eq.refl _)
theorem yN_sI (σ : zH) (a j : Nat) (v : Int32) : zN (zsI σ a j v) = zN σ := (Eq.refl _).trans (Eq.refl _)
theorem yJ_sI (σ : zH) (a j : Nat) (v : Int32) : zJ (zsI σ a j v) = zJ σ := (Eq.refl _).trans (Eq.refl _)
theorem yQ_sI (σ : zH) (a j : Nat) (v : Int32) : zQ (zsI σ a j v) = zQ σ := (Eq.refl _).trans (Eq.refl _)
theorem yA_sI (σ : zH) (a j : Nat) (v : Int32) : zA (zsI σ a j v) = zA σ := (Eq.refl _).trans (Eq.refl _)
theorem yB_sI (σ : zH) (a j : Nat) (v : Int32) : zB (zsI σ a j v) = zB σ := (Eq.refl _).trans (Eq.refl _)
theorem yS_sI (σ : zH) (a j : Nat) (v : Int32) : zS (zsI σ a j v) = zS σ := (Eq.refl _).trans (Eq.refl _)
theorem yX_sI (σ : zH) (a j : Nat) (v : Int32) : zX (zsI σ a j v) = zX σ := (Eq.refl _).trans (Eq.refl _)
theorem yL_sI (σ : zH) (a j : Nat) (v : Int32) : zL (zsI σ a j v) = zL σ := (Eq.refl _).trans (Eq.refl _)
theorem yI_oI {σ : zH} {a j b : Nat} {v : Int32} (h : b ≠ a) : zI (zsI σ a j v) b = zI σ b := by unfold zsI; funext i; exact if_neg (fun q => h q.1)
theorem yI_eI (σ : zH) (a j : Nat) (v : Int32) : zI (zsI σ a j v) a = zu (zI σ a) j v := by
  unfold zsI zu
  funext i
  show (if a = a ∧ i = j then v else zI σ a i) = if i = j then v else zI σ a i
  by_cases h : i = j
  · rw [if_pos ⟨rfl, h⟩, if_pos h]
  · rw [if_neg (fun q => h q.2), if_neg h]
theorem yK_sJ (σ : zH) (a j : Nat) (v : Int64) : zK (zsJ σ a j v) = zK σ := (Eq.refl _).trans (Eq.refl _)
theorem yN_sJ (σ : zH) (a j : Nat) (v : Int64) : zN (zsJ σ a j v) = zN σ := (Eq.refl _).trans (Eq.refl _)
theorem yI_sJ (σ : zH) (a j : Nat) (v : Int64) : zI (zsJ σ a j v) = zI σ := (Eq.refl _).trans (Eq.refl _)
theorem yQ_sJ (σ : zH) (a j : Nat) (v : Int64) : zQ (zsJ σ a j v) = zQ σ := (Eq.refl _).trans (Eq.refl _)
theorem yA_sJ (σ : zH) (a j : Nat) (v : Int64) : zA (zsJ σ a j v) = zA σ := (Eq.refl _).trans (Eq.refl _)
theorem yB_sJ (σ : zH) (a j : Nat) (v : Int64) : zB (zsJ σ a j v) = zB σ := (Eq.refl _).trans (Eq.refl _)
theorem yS_sJ (σ : zH) (a j : Nat) (v : Int64) : zS (zsJ σ a j v) = zS σ := (Eq.refl _).trans (Eq.refl _)
theorem yX_sJ (σ : zH) (a j : Nat) (v : Int64) : zX (zsJ σ a j v) = zX σ := (Eq.refl _).trans (Eq.refl _)
theorem yL_sJ (σ : zH) (a j : Nat) (v : Int64) : zL (zsJ σ a j v) = zL σ := (Eq.refl _).trans (Eq.refl _)
theorem yJ_oJ {σ : zH} {a j b : Nat} {v : Int64} (h : b ≠ a) : zJ (zsJ σ a j v) b = zJ σ b := by unfold zsJ; funext i; exact if_neg (fun q => h q.1)
theorem yJ_eJ (σ : zH) (a j : Nat) (v : Int64) : zJ (zsJ σ a j v) a = zu (zJ σ a) j v := by
  unfold zsJ zu
  funext i
  show (if a = a ∧ i = j then v else zJ σ a i) = if i = j then v else zJ σ a i
  by_cases h : i = j
  · rw [if_pos ⟨rfl, h⟩, if_pos h]
  · rw [if_neg (fun q => h q.2), if_neg h]
theorem yK_sA (σ : zH) (a j : Nat) (v : Int32) : zK (zsA σ a j v) = zK σ := (Eq.refl _).trans (Eq.refl _)
theorem yN_sA (σ : zH) (a j : Nat) (v : Int32) : zN (zsA σ a j v) = zN σ := (Eq.refl _).trans (Eq.refl _)
theorem yI_sA (σ : zH) (a j : Nat) (v : Int32) : zI (zsA σ a j v) = zI σ := (Eq.refl _).trans (Eq.refl _)
theorem yJ_sA (σ : zH) (a j : Nat) (v : Int32) : zJ (zsA σ a j v) = zJ σ := (Eq.refl _).trans (Eq.refl _)
theorem yQ_sA (σ : zH) (a j : Nat) (v : Int32) : zQ (zsA σ a j v) = zQ σ := (Eq.refl _).trans (Eq.refl _)
theorem yB_sA (σ : zH) (a j : Nat) (v : Int32) : zB (zsA σ a j v) = zB σ := (Eq.refl _).trans (Eq.refl _)
theorem yS_sA (σ : zH) (a j : Nat) (v : Int32) : zS (zsA σ a j v) = zS σ := (Eq.refl _).trans (Eq.refl _)
theorem yX_sA (σ : zH) (a j : Nat) (v : Int32) : zX (zsA σ a j v) = zX σ := (Eq.refl _).trans (Eq.refl _)
theorem yL_sA (σ : zH) (a j : Nat) (v : Int32) : zL (zsA σ a j v) = zL σ := (Eq.refl _).trans (Eq.refl _)
theorem yA_oA {σ : zH} {a j b : Nat} {v : Int32} (h : b ≠ a) : zA (zsA σ a j v) b = zA σ b := by unfold zsA; funext i; exact if_neg (fun q => h q.1)
theorem yA_eA (σ : zH) (a j : Nat) (v : Int32) : zA (zsA σ a j v) a = zu (zA σ a) j v := by
  unfold zsA zu
  funext i
  show (if a = a ∧ i = j then v else zA σ a i) = if i = j then v else zA σ a i
  by_cases h : i = j
  · rw [if_pos ⟨rfl, h⟩, if_pos h]
  · rw [if_neg (fun q => h q.2), if_neg h]
theorem zEo_na {b a k n len : Nat} {σ : zH} (h : b ≠ a) : zEo b σ (zna σ a k n len) := ⟨zK_na h, zN_na h, zI_na h, zJ_na h, zQ_na h, zA_na h, zB_na h, zS_na h⟩
theorem zEo_sQ {b a j : Nat} {v : Nat} {σ : zH} (h : b ≠ a) : zEo b σ (zsQ σ a j v) := ⟨rfl, rfl, rfl, rfl, yQ_oQ h, rfl, rfl, rfl⟩
theorem zEo_sS {b a j : Nat} {v : Nat} {σ : zH} (h : b ≠ a) : zEo b σ (zsS σ a j v) := ⟨rfl, rfl, rfl, rfl, rfl, rfl, rfl, yS_oS h⟩
theorem zEo_sI {b a j : Nat} {v : Int32} {σ : zH} (h : b ≠ a) : zEo b σ (zsI σ a j v) := ⟨rfl, rfl, yI_oI h, rfl, rfl, rfl, rfl, rfl⟩
theorem zEo_sJ {b a j : Nat} {v : Int64} {σ : zH} (h : b ≠ a) : zEo b σ (zsJ σ a j v) := ⟨rfl, rfl, rfl, yJ_oJ h, rfl, rfl, rfl, rfl⟩
theorem zEo_sA {b a j : Nat} {v : Int32} {σ : zH} (h : b ≠ a) : zEo b σ (zsA σ a j v) := ⟨rfl, rfl, rfl, rfl, rfl, yA_oA h, rfl, rfl⟩
theorem zEo_fr {lo hi b : Nat} {σ τ : zH} (h : zFr lo hi σ τ) (hb : b < lo ∨ hi ≤ b) : zEo b σ τ := by
  obtain ⟨a1, a2, a3, a4, a5, a6⟩ := zFr_o h hb
  exact ⟨by rw [h.1], by rw [h.2.1], a1, a2, a3, a4, a5, a6⟩
def zNo (σ : zH) (r k : Nat) : Prop := zX σ = r ∧ zK σ r = k ∧ zI σ r = (fun _ => 0) ∧ zJ σ r = (fun _ => 0) ∧ zQ σ r = (fun _ => 0)
theorem zNo_na {σ : zH} {r k n len : Nat} : zNo (zna σ r k n len) r k := ⟨rfl, zK_ne, zI_ne, zJ_ne, zQ_ne⟩
