/-! constructors that make objects -/
theorem hK86 {σ : zH} {x r b : Nat} (h : b ≤ x) : zK (h86 σ x r) b = zK σ b := by unfold h86; rw [zK_sQ, zK_na (by omega), zK_sQ, zK_na (by omega), zK_sQ, zK_na (by omega)]
theorem hK0 {σ : zH} {x r b : Nat} (h : b ≤ x) : zK (h0 σ x r) b = zK σ b := by unfold h0; rw [zK_sQ, zK_na (by omega), zK_sQ, zK_na (by omega), zK_sQ, zK_na (by omega)]
theorem hK98 {σ : zH} {x r b : Nat} (h : b ≤ x) : zK (h98 σ x r) b = zK σ b := by unfold h98; rw [zK_sQ, zK_na (by omega), zK_sQ, zK_na (by omega), zK_sQ, zK_na (by omega), zK_sQ, zK_na (by omega)]
theorem hK56 {σ : zH} {x r dk b : Nat} (h : b ≤ x) : zK (h56 σ x r dk) b = zK σ b := by unfold h56; rw [zK_sQ, zK_sQ, zK_na (by omega), zK_sQ, zK_na (by omega), zK_sQ, zK_na (by omega)]
theorem hK84 {σ : zH} {x r b : Nat} (h : b ≤ x) : zK (h84 σ x r) b = zK σ b := by unfold h84; rw [zK_sQ, zK_na (by omega)]
theorem hX86 {σ : zH} {x r : Nat} : zX (h86 σ x r) = x + 3 := rfl
theorem hX0 {σ : zH} {x r : Nat} : zX (h0 σ x r) = x + 3 := rfl
theorem hX98 {σ : zH} {x r : Nat} : zX (h98 σ x r) = x + 4 := rfl
theorem hX56 {σ : zH} {x r dk : Nat} : zX (h56 σ x r dk) = x + 3 := rfl
theorem hX84 {σ : zH} {x r : Nat} : zX (h84 σ x r) = x + 1 := rfl
def h14 (σ : zH) (x r : Nat) : zH := zsQ (h86 (zna σ (x + 1) 9 4 0) (x + 1) (x + 1)) r 0 (x + 1)
theorem k14 {d r x : Nat} {σ : zH} (hx : zX σ = x) (hr : r ≤ x) (hk : zK σ r = 3) {Q : Option Value → zH → Prop} (hQ : Q none (h14 σ x r)) : zM (d + 2) 14 [.ref r] σ Q := by
  unfold zM
  refine zW_s rfl ?_
  refine zW_p rfl (by rw [hk]; decide) ?_
  refine zW_s rfl ?_
  refine zW_s rfl ?_
  rw [znw_b (σ := σ) (y := x + 1) 9 4 0 (by rw [hx]), show zX σ + 1 = x + 1 by rw [hx]]
  refine zW_s rfl ?_
  refine zW_c rfl zK_ne ?_
  refine k86 (x := x + 1) rfl (Nat.le_refl _) zK_ne ?_
  refine zW_p rfl (by rw [hK86 (by omega), zK_na (by omega)]; exact hk) ?_
  refine zW_r rfl trivial ?_
  unfold h14 at hQ
  exact hQ
def h40 (σ : zH) (x r dk tp : Nat) : zH := zsQ (h56 (zna (zsQ (zsQ σ r 0 dk) r 1 tp) (x + 1) 7 5 0) (x + 1) (x + 1) dk) r 2 (x + 1)
theorem k40 {d r x dk tp : Nat} {σ : zH} (hx : zX σ = x) (hr : r ≤ x) (hk : zK σ r = 4) {Q : Option Value → zH → Prop} (hQ : Q none (h40 σ x r dk tp)) : zM (d + 2) 40 [.ref r, .ref dk, .ref tp] σ Q := by
  unfold zM
  refine zW_s rfl ?_
  refine zW_p rfl (by rw [hk]; decide) ?_
  refine zW_s rfl ?_
  refine zW_s rfl ?_
  refine zW_p rfl hk ?_
  refine zW_s rfl ?_
  refine zW_s rfl ?_
  refine zW_p rfl hk ?_
  refine zW_s rfl ?_
  refine zW_s rfl ?_
  obtain ⟨s1, e1⟩ : ∃ s1, s1 = zsQ (zsQ σ r 0 dk) r 1 tp := ⟨_, rfl⟩
  rw [← e1]
  have x1 : zX s1 = x := by rw [e1]; exact hx
  have k1 : zK s1 r = 4 := by rw [e1]; exact hk
  rw [znw_b (σ := s1) (y := x + 1) 7 5 0 (by rw [x1]), show zX s1 + 1 = x + 1 by rw [x1]]
  refine zW_s rfl ?_
  refine zW_s rfl ?_
  refine zW_c rfl zK_ne ?_
  refine k56 (x := x + 1) rfl (Nat.le_refl _) zK_ne ?_
  refine zW_p rfl (by rw [hK56 (by omega), zK_na (by omega)]; exact k1) ?_
  refine zW_r rfl trivial ?_
  unfold h40 at hQ
  rw [e1]
  exact hQ
