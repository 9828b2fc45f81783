/-! values and cells -/
def zV (B0 : Nat) (xa : Nat → Nat) : Value → Value
  | .ref 0 => .null
  | .ref (k + 1) => .ref (B0 + (k + 1))
  | .retAddr k => .ref (xa k)
  | v => v
theorem zV_cat (B0 : Nat) (xa : Nat → Nat) (v : Value) : (zV B0 xa v).category = v.category := by
  cases v with
  | ref a => cases a <;> rfl
  | _ => rfl
def zro (B0 r : Nat) : Option Nat := match r with
  | 0 => none
  | k + 1 => some (B0 + (k + 1))
theorem zV_ref (B0 : Nat) (xa : Nat → Nat) (r : Nat) : zV B0 xa (.ref r) = va_rf (zro B0 r) := by cases r <;> rfl
theorem zV_pos (B0 : Nat) (xa : Nat → Nat) {r : Nat} (h : 1 ≤ r) : zV B0 xa (.ref r) = .ref (B0 + r) := by
  cases r with
  | zero => omega
  | succ k => rfl
theorem zro_pos (B0 : Nat) {r : Nat} (h : 1 ≤ r) : zro B0 r = some (B0 + r) := by
  cases r with
  | zero => omega
  | succ k => rfl
def zfv (B0 : Nat) (σ : zH) (a j ty : Nat) : Value := match ty with
  | 1 => .long (zJ σ a j)
  | 2 => va_rf (zro B0 (zQ σ a j))
  | _ => .int (zI σ a j)
def zfs (B0 : Nat) (σ : zH) (a ci : Nat) : List Value := (List.range (zFt.getD ci []).length).map (fun j => zfv B0 σ a j (zft ci j))
theorem zfs_len (B0 : Nat) (σ : zH) (a ci : Nat) : (zfs B0 σ a ci).length = (zFt.getD ci []).length := by simp [zfs]
theorem zfs_at (B0 : Nat) (σ : zH) (a ci : Nat) {j : Nat} (h : j < (zFt.getD ci []).length) : (zfs B0 σ a ci)[j]? = some (zfv B0 σ a j (zft ci j)) := by
  simp only [zfs, List.getElem?_map, List.getElem?_range h, Option.map_some]
def zE (B0 : Nat) (cs : Nat → ClassId) (σ : zH) (a : Nat) : va_E :=
  if zK σ a = 20 then .inl (cs 20, zN σ a, .inl (zA σ a)) else if zK σ a = 21 then .inl (cs 21, zN σ a, .inr (.inl (zB σ a))) else if zK σ a = 22 then .inl (cs 22, zN σ a, .inl (zA σ a)) else if zK σ a = 23 then .inl (cs 23, zN σ a, .inr (.inr (.inr (.inr (fun j => zro B0 (zS σ a j)))))) else if zK σ a = 24 then .inl (cs 24, zN σ a, .inr (.inr (.inr (.inr (fun j => zro B0 (zS σ a j)))))) else .inr (zK σ a - 1, zfs B0 σ a (zK σ a - 1))
theorem zE_20 {B0 : Nat} {cs : Nat → ClassId} {σ : zH} {a : Nat} (h : zK σ a = 20) : zE B0 cs σ a = .inl (cs 20, zN σ a, .inl (zA σ a)) := by simp [zE, h]
theorem zE_21 {B0 : Nat} {cs : Nat → ClassId} {σ : zH} {a : Nat} (h : zK σ a = 21) : zE B0 cs σ a = .inl (cs 21, zN σ a, .inr (.inl (zB σ a))) := by simp [zE, h]
theorem zE_22 {B0 : Nat} {cs : Nat → ClassId} {σ : zH} {a : Nat} (h : zK σ a = 22) : zE B0 cs σ a = .inl (cs 22, zN σ a, .inl (zA σ a)) := by simp [zE, h]
theorem zE_23 {B0 : Nat} {cs : Nat → ClassId} {σ : zH} {a : Nat} (h : zK σ a = 23) : zE B0 cs σ a = .inl (cs 23, zN σ a, .inr (.inr (.inr (.inr (fun j => zro B0 (zS σ a j)))))) := by simp [zE, h]
theorem zE_24 {B0 : Nat} {cs : Nat → ClassId} {σ : zH} {a : Nat} (h : zK σ a = 24) : zE B0 cs σ a = .inl (cs 24, zN σ a, .inr (.inr (.inr (.inr (fun j => zro B0 (zS σ a j)))))) := by simp [zE, h]
theorem zE_o {B0 : Nat} {cs : Nat → ClassId} {σ : zH} {a ci : Nat} (h : zK σ a = ci + 1) (hc : ci < 13) : zE B0 cs σ a = .inr (ci, zfs B0 σ a ci) := by
  unfold zE
  rw [h, if_neg (by omega), if_neg (by omega), if_neg (by omega), if_neg (by omega), if_neg (by omega)]
  rfl
/-- the machine's heap holds the abstract one -/
def zHM (B0 : Nat) (D : va_G) (cs : Nat → ClassId) (σ : zH) (H : Heap) : Prop := H.size = B0 + 1 + zX σ ∧ ∀ a, zK σ a ≠ 0 → 1 ≤ a ∧ a ≤ zX σ ∧ va_at D zCl (B0 + a, zE B0 cs σ a) H
theorem va_P_one {D : va_G} {cl : List vw_C} {q : Nat × va_E} {H : Heap} (h : va_at D cl q H) : va_P D cl [q] H := by
  intro k x hx
  cases k with
  | zero => cases hx; exact h
  | succ k => simp at hx
theorem va_D_one {A : Nat → Prop} {q : Nat × va_E} (h : A q.1) : va_D A [q] := by
  refine ⟨fun i j x y hx hy _ => ?_, fun k x hx => ?_⟩
  · have h1 := (List.getElem?_eq_some_iff.mp hx).1
    have h2 := (List.getElem?_eq_some_iff.mp hy).1
    simp at h1 h2
    omega
  · cases k with
    | zero => cases hx; exact h
    | succ k => simp at hx
theorem zHM.upd {B0 : Nat} {D : va_G} {cs : Nat → ClassId} {σ σ' : zH} {H H1 : Heap} {r : Nat} (h : zHM B0 D cs σ H) (hK : zK σ' = zK σ) (hX : zX σ' = zX σ) (hz : H1.size = H.size) (ho : ∀ q : Nat, q ≠ B0 + r → H1[q]? = H[q]?) (hr : va_at D zCl (B0 + r, zE B0 cs σ' r) H1) (he : ∀ a, a ≠ r → zE B0 cs σ' a = zE B0 cs σ a) : zHM B0 D cs σ' H1 := by
  refine ⟨by rw [hz, hX]; exact h.1, fun a ha => ?_⟩
  rw [hK] at ha
  obtain ⟨h1, h2, h3⟩ := h.2 a ha
  refine ⟨h1, by rw [hX]; exact h2, ?_⟩
  by_cases hc : a = r
  · subst hc; exact hr
  · rw [he a hc]
    exact h3.kept (ho _ (by show B0 + a ≠ B0 + r; omega))
theorem zHM.new {B0 : Nat} {D : va_G} {cs : Nat → ClassId} {σ : zH} {H H1 : Heap} {k n len : Nat} (h : zHM B0 D cs σ H) (hz : H1.size = H.size + 1) (ho : ∀ q : Nat, q < H.size → H1[q]? = H[q]?) (hr : va_at D zCl (H.size, zE B0 cs (znw σ k n len) (zX σ + 1)) H1) : zHM B0 D cs (znw σ k n len) H1 := by
  have hs := h.1
  refine ⟨by rw [hz, hs]; show _ = B0 + 1 + (zX σ + 1); omega, fun a ha => ?_⟩
  by_cases hc : a = zX σ + 1
  · subst hc
    refine ⟨by omega, by show zX σ + 1 ≤ zX σ + 1; omega, ?_⟩
    rw [show B0 + (zX σ + 1) = H.size by omega]
    exact hr
  · have hk : zK (znw σ k n len) a = zK σ a := by show zu (zK σ) (zX σ + 1) k a = _; simp [zu, hc]
    rw [hk] at ha
    obtain ⟨h1, h2, h3⟩ := h.2 a ha
    refine ⟨h1, by show a ≤ zX σ + 1; omega, ?_⟩
    have e : zE B0 cs (znw σ k n len) a = zE B0 cs σ a := by
      have e1 : zN (znw σ k n len) a = zN σ a := by show zu (zN σ) (zX σ + 1) len a = _; simp [zu, hc]
      have e2 : zA (znw σ k n len) a = zA σ a := by funext i; show z1 (zA σ) (zX σ + 1) 0 a i = _; simp [z1, hc]
      have e3 : zB (znw σ k n len) a = zB σ a := by funext i; show z1 (zB σ) (zX σ + 1) 0 a i = _; simp [z1, hc]
      have e4 : zS (znw σ k n len) a = zS σ a := by funext i; show z1 (zS σ) (zX σ + 1) 0 a i = _; simp [z1, hc]
      have e5 : zI (znw σ k n len) a = zI σ a := by funext i; show z1 (zI σ) (zX σ + 1) 0 a i = _; simp [z1, hc]
      have e6 : zJ (znw σ k n len) a = zJ σ a := by funext i; show z1 (zJ σ) (zX σ + 1) 0 a i = _; simp [z1, hc]
      have e7 : zQ (znw σ k n len) a = zQ σ a := by funext i; show z1 (zQ σ) (zX σ + 1) 0 a i = _; simp [z1, hc]
      simp only [zE, zfs, zfv, hk, e1, e2, e3, e4, e5, e6, e7]
    rw [e]
    exact h3.kept (ho _ (by show B0 + a < H.size; omega))
