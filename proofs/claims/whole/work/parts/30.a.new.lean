/-! constructors: heaps with numbered new objects -/
def zna (σ : zH) (a k n len : Nat) : zH := (zu (zK σ) a k, zu (zN σ) a len, z1 (zI σ) a 0, z1 (zJ σ) a 0, z1 (zQ σ) a 0, z1 (zA σ) a 0, z1 (zB σ) a 0, z1 (zS σ) a 0, a, zL σ + n)
theorem znw_b {σ : zH} {y : Nat} (k n len : Nat) (h : zX σ + 1 = y) : znw σ k n len = zna σ y k n len := by
  unfold znw zna
  rw [h]
theorem zK_na {σ : zH} {a k n len b : Nat} (h : b ≠ a) : zK (zna σ a k n len) b = zK σ b := by unfold zna; exact if_neg h
theorem zK_ne {σ : zH} {a k n len : Nat} : zK (zna σ a k n len) a = k := by unfold zna; exact if_pos rfl
theorem zK_sQ (σ : zH) (a j v : Nat) : zK (zsQ σ a j v) = zK σ := rfl
theorem zK_sS (σ : zH) (a j v : Nat) : zK (zsS σ a j v) = zK σ := rfl
theorem zX_na (σ : zH) (a k n len : Nat) : zX (zna σ a k n len) = a := rfl
theorem zX_sQ (σ : zH) (a j v : Nat) : zX (zsQ σ a j v) = zX σ := rfl
theorem zX_sS (σ : zH) (a j v : Nat) : zX (zsS σ a j v) = zX σ := rfl
theorem zpnl {v : Int32} {n : Nat} (h1 : ¬ v < 0) (h2 : v.toNatClampNeg = n) (h3 : n ≤ 60000000) : ¬ v < 0 ∧ v.toNatClampNeg ≤ 60000000 := ⟨h1, by rw [h2]; exact h3⟩
def h84 (σ : zH) (x r : Nat) : zH := zsQ (zna σ (x + 1) 20 900 900) r 0 (x + 1)
theorem k84 {d r x : Nat} {σ : zH} (hx : zX σ = x) (hr : r ≤ x) (hk : zK σ r = 8) {Q : Option Value → zH → Prop} (hQ : Q none (h84 σ x r)) : zM (d + 1) 84 [.ref r] σ Q := by
  unfold zM
  refine zW_s rfl ?_
  refine zW_p rfl (by rw [hk]; decide) ?_
  refine zW_s rfl ?_
  refine zW_s rfl ?_
  refine zW_p rfl (zpnl (by decide) (show (Int32.ofInt 900).toNatClampNeg = 900 from rfl) (by omega)) ?_
  rw [show (Int32.ofInt 900).toNatClampNeg = 900 from rfl, znw_b (σ := σ) (y := x + 1) 20 900 900 (by rw [hx]), show zX σ + 1 = x + 1 by rw [hx]]
  refine zW_p rfl (by rw [zK_na (by omega)]; exact hk) ?_
  obtain ⟨s1, e1⟩ : ∃ s1, s1 = zsQ (zna σ (x + 1) 20 900 900) r 0 (x + 1) := ⟨_, rfl⟩
  rw [← e1]
  have x1 : zX s1 = x + 1 := by rw [e1]; rfl
  have k1 : zK s1 r = 8 := by rw [e1, zK_sQ, zK_na (by omega)]; exact hk
  refine zW_r rfl trivial ?_
  unfold h84 at hQ
  rw [e1]
  exact hQ
def h86 (σ : zH) (x r : Nat) : zH := zsQ (zna (zsQ (zna (zsQ (zna σ (x + 1) 20 901 901) r 0 (x + 1)) (x + 2) 20 901 901) r 1 (x + 2)) (x + 3) 20 901 901) r 2 (x + 3)
theorem k86 {d r x : Nat} {σ : zH} (hx : zX σ = x) (hr : r ≤ x) (hk : zK σ r = 9) {Q : Option Value → zH → Prop} (hQ : Q none (h86 σ x r)) : zM (d + 1) 86 [.ref r] σ Q := by
  unfold zM
  refine zW_s rfl ?_
  refine zW_p rfl (by rw [hk]; decide) ?_
  refine zW_s rfl ?_
  refine zW_s rfl ?_
  refine zW_p rfl (zpnl (by decide) (show (Int32.ofInt 901).toNatClampNeg = 901 from rfl) (by omega)) ?_
  rw [show (Int32.ofInt 901).toNatClampNeg = 901 from rfl, znw_b (σ := σ) (y := x + 1) 20 901 901 (by rw [hx]), show zX σ + 1 = x + 1 by rw [hx]]
  refine zW_p rfl (by rw [zK_na (by omega)]; exact hk) ?_
  obtain ⟨s1, e1⟩ : ∃ s1, s1 = zsQ (zna σ (x + 1) 20 901 901) r 0 (x + 1) := ⟨_, rfl⟩
  rw [← e1]
  have x1 : zX s1 = x + 1 := by rw [e1]; rfl
  have k1 : zK s1 r = 9 := by rw [e1, zK_sQ, zK_na (by omega)]; exact hk
  refine zW_s rfl ?_
  refine zW_s rfl ?_
  refine zW_p rfl (zpnl (by decide) (show (Int32.ofInt 901).toNatClampNeg = 901 from rfl) (by omega)) ?_
  rw [show (Int32.ofInt 901).toNatClampNeg = 901 from rfl, znw_b (σ := s1) (y := x + 2) 20 901 901 (by rw [x1]), show zX s1 + 1 = x + 2 by rw [x1]]
  refine zW_p rfl (by rw [zK_na (by omega)]; exact k1) ?_
  obtain ⟨s2, e2⟩ : ∃ s2, s2 = zsQ (zna s1 (x + 2) 20 901 901) r 1 (x + 2) := ⟨_, rfl⟩
  rw [← e2]
  have x2 : zX s2 = x + 2 := by rw [e2]; rfl
  have k2 : zK s2 r = 9 := by rw [e2, zK_sQ, zK_na (by omega)]; exact k1
  refine zW_s rfl ?_
  refine zW_s rfl ?_
  refine zW_p rfl (zpnl (by decide) (show (Int32.ofInt 901).toNatClampNeg = 901 from rfl) (by omega)) ?_
  rw [show (Int32.ofInt 901).toNatClampNeg = 901 from rfl, znw_b (σ := s2) (y := x + 3) 20 901 901 (by rw [x2]), show zX s2 + 1 = x + 3 by rw [x2]]
  refine zW_p rfl (by rw [zK_na (by omega)]; exact k2) ?_
  obtain ⟨s3, e3⟩ : ∃ s3, s3 = zsQ (zna s2 (x + 3) 20 901 901) r 2 (x + 3) := ⟨_, rfl⟩
  rw [← e3]
  have x3 : zX s3 = x + 3 := by rw [e3]; rfl
  have k3 : zK s3 r = 9 := by rw [e3, zK_sQ, zK_na (by omega)]; exact k2
  refine zW_r rfl trivial ?_
  unfold h86 at hQ
  rw [e3, e2, e1]
  exact hQ
def h0 (σ : zH) (x r : Nat) : zH := zsQ (zna (zsQ (zna (zsQ (zna σ (x + 1) 20 450 450) r 0 (x + 1)) (x + 2) 20 450 450) r 1 (x + 2)) (x + 3) 20 450 450) r 2 (x + 3)
theorem k0 {d r x : Nat} {σ : zH} (hx : zX σ = x) (hr : r ≤ x) (hk : zK σ r = 1) {Q : Option Value → zH → Prop} (hQ : Q none (h0 σ x r)) : zM (d + 1) 0 [.ref r] σ Q := by
  unfold zM
  refine zW_s rfl ?_
  refine zW_p rfl (by rw [hk]; decide) ?_
  refine zW_s rfl ?_
  refine zW_s rfl ?_
  refine zW_p rfl (zpnl (by decide) (show (Int32.ofInt 450).toNatClampNeg = 450 from rfl) (by omega)) ?_
  rw [show (Int32.ofInt 450).toNatClampNeg = 450 from rfl, znw_b (σ := σ) (y := x + 1) 20 450 450 (by rw [hx]), show zX σ + 1 = x + 1 by rw [hx]]
  refine zW_p rfl (by rw [zK_na (by omega)]; exact hk) ?_
  obtain ⟨s1, e1⟩ : ∃ s1, s1 = zsQ (zna σ (x + 1) 20 450 450) r 0 (x + 1) := ⟨_, rfl⟩
  rw [← e1]
  have x1 : zX s1 = x + 1 := by rw [e1]; rfl
  have k1 : zK s1 r = 1 := by rw [e1, zK_sQ, zK_na (by omega)]; exact hk
  refine zW_s rfl ?_
  refine zW_s rfl ?_
  refine zW_p rfl (zpnl (by decide) (show (Int32.ofInt 450).toNatClampNeg = 450 from rfl) (by omega)) ?_
  rw [show (Int32.ofInt 450).toNatClampNeg = 450 from rfl, znw_b (σ := s1) (y := x + 2) 20 450 450 (by rw [x1]), show zX s1 + 1 = x + 2 by rw [x1]]
  refine zW_p rfl (by rw [zK_na (by omega)]; exact k1) ?_
  obtain ⟨s2, e2⟩ : ∃ s2, s2 = zsQ (zna s1 (x + 2) 20 450 450) r 1 (x + 2) := ⟨_, rfl⟩
  rw [← e2]
  have x2 : zX s2 = x + 2 := by rw [e2]; rfl
  have k2 : zK s2 r = 1 := by rw [e2, zK_sQ, zK_na (by omega)]; exact k1
  refine zW_s rfl ?_
  refine zW_s rfl ?_
  refine zW_p rfl (zpnl (by decide) (show (Int32.ofInt 450).toNatClampNeg = 450 from rfl) (by omega)) ?_
  rw [show (Int32.ofInt 450).toNatClampNeg = 450 from rfl, znw_b (σ := s2) (y := x + 3) 20 450 450 (by rw [x2]), show zX s2 + 1 = x + 3 by rw [x2]]
  refine zW_p rfl (by rw [zK_na (by omega)]; exact k2) ?_
  obtain ⟨s3, e3⟩ : ∃ s3, s3 = zsQ (zna s2 (x + 3) 20 450 450) r 2 (x + 3) := ⟨_, rfl⟩
  rw [← e3]
  have x3 : zX s3 = x + 3 := by rw [e3]; rfl
  have k3 : zK s3 r = 1 := by rw [e3, zK_sQ, zK_na (by omega)]; exact k2
  refine zW_r rfl trivial ?_
  unfold h0 at hQ
  rw [e3, e2, e1]
  exact hQ
def h98 (σ : zH) (x r : Nat) : zH := zsQ (zna (zsQ (zna (zsQ (zna (zsQ (zna σ (x + 1) 21 3000 3000) r 0 (x + 1)) (x + 2) 21 3000 3000) r 1 (x + 2)) (x + 3) 20 3000 3000) r 2 (x + 3)) (x + 4) 20 4096 4096) r 3 (x + 4)
theorem k98 {d r x : Nat} {σ : zH} (hx : zX σ = x) (hr : r ≤ x) (hk : zK σ r = 11) {Q : Option Value → zH → Prop} (hQ : Q none (h98 σ x r)) : zM (d + 1) 98 [.ref r] σ Q := by
  unfold zM
  refine zW_s rfl ?_
  refine zW_p rfl (by rw [hk]; decide) ?_
  refine zW_s rfl ?_
  refine zW_s rfl ?_
  refine zW_p rfl (zpnl (by decide) (show (Int32.ofInt 3000).toNatClampNeg = 3000 from rfl) (by omega)) ?_
  rw [show (Int32.ofInt 3000).toNatClampNeg = 3000 from rfl, znw_b (σ := σ) (y := x + 1) 21 3000 3000 (by rw [hx]), show zX σ + 1 = x + 1 by rw [hx]]
  refine zW_p rfl (by rw [zK_na (by omega)]; exact hk) ?_
  obtain ⟨s1, e1⟩ : ∃ s1, s1 = zsQ (zna σ (x + 1) 21 3000 3000) r 0 (x + 1) := ⟨_, rfl⟩
  rw [← e1]
  have x1 : zX s1 = x + 1 := by rw [e1]; rfl
  have k1 : zK s1 r = 11 := by rw [e1, zK_sQ, zK_na (by omega)]; exact hk
  refine zW_s rfl ?_
  refine zW_s rfl ?_
  refine zW_p rfl (zpnl (by decide) (show (Int32.ofInt 3000).toNatClampNeg = 3000 from rfl) (by omega)) ?_
  rw [show (Int32.ofInt 3000).toNatClampNeg = 3000 from rfl, znw_b (σ := s1) (y := x + 2) 21 3000 3000 (by rw [x1]), show zX s1 + 1 = x + 2 by rw [x1]]
  refine zW_p rfl (by rw [zK_na (by omega)]; exact k1) ?_
  obtain ⟨s2, e2⟩ : ∃ s2, s2 = zsQ (zna s1 (x + 2) 21 3000 3000) r 1 (x + 2) := ⟨_, rfl⟩
  rw [← e2]
  have x2 : zX s2 = x + 2 := by rw [e2]; rfl
  have k2 : zK s2 r = 11 := by rw [e2, zK_sQ, zK_na (by omega)]; exact k1
  refine zW_s rfl ?_
  refine zW_s rfl ?_
  refine zW_p rfl (zpnl (by decide) (show (Int32.ofInt 3000).toNatClampNeg = 3000 from rfl) (by omega)) ?_
  rw [show (Int32.ofInt 3000).toNatClampNeg = 3000 from rfl, znw_b (σ := s2) (y := x + 3) 20 3000 3000 (by rw [x2]), show zX s2 + 1 = x + 3 by rw [x2]]
  refine zW_p rfl (by rw [zK_na (by omega)]; exact k2) ?_
  obtain ⟨s3, e3⟩ : ∃ s3, s3 = zsQ (zna s2 (x + 3) 20 3000 3000) r 2 (x + 3) := ⟨_, rfl⟩
  rw [← e3]
  have x3 : zX s3 = x + 3 := by rw [e3]; rfl
  have k3 : zK s3 r = 11 := by rw [e3, zK_sQ, zK_na (by omega)]; exact k2
  refine zW_s rfl ?_
  refine zW_s rfl ?_
  refine zW_p rfl (zpnl (by decide) (show (Int32.ofInt 4096).toNatClampNeg = 4096 from rfl) (by omega)) ?_
  rw [show (Int32.ofInt 4096).toNatClampNeg = 4096 from rfl, znw_b (σ := s3) (y := x + 4) 20 4096 4096 (by rw [x3]), show zX s3 + 1 = x + 4 by rw [x3]]
  refine zW_p rfl (by rw [zK_na (by omega)]; exact k3) ?_
  obtain ⟨s4, e4⟩ : ∃ s4, s4 = zsQ (zna s3 (x + 4) 20 4096 4096) r 3 (x + 4) := ⟨_, rfl⟩
  rw [← e4]
  have x4 : zX s4 = x + 4 := by rw [e4]; rfl
  have k4 : zK s4 r = 11 := by rw [e4, zK_sQ, zK_na (by omega)]; exact k3
  refine zW_r rfl trivial ?_
  unfold h98 at hQ
  rw [e4, e3, e2, e1]
  exact hQ
def h56 (σ : zH) (x r : Nat) (dk : Nat) : zH := zsQ (zsQ (zna (zsQ (zna (zsQ (zna σ (x + 1) 20 64 64) r 1 (x + 1)) (x + 2) 20 16 16) r 2 (x + 2)) (x + 3) 20 4 4) r 3 (x + 3)) r 0 dk
theorem k56 {d r x dk : Nat} {σ : zH} (hx : zX σ = x) (hr : r ≤ x) (hk : zK σ r = 7) {Q : Option Value → zH → Prop} (hQ : Q none (h56 σ x r dk)) : zM (d + 1) 56 [.ref r, .ref dk] σ Q := by
  unfold zM
  refine zW_s rfl ?_
  refine zW_p rfl (by rw [hk]; decide) ?_
  refine zW_s rfl ?_
  refine zW_s rfl ?_
  refine zW_p rfl (zpnl (by decide) (show (Int32.ofInt 64).toNatClampNeg = 64 from rfl) (by omega)) ?_
  rw [show (Int32.ofInt 64).toNatClampNeg = 64 from rfl, znw_b (σ := σ) (y := x + 1) 20 64 64 (by rw [hx]), show zX σ + 1 = x + 1 by rw [hx]]
  refine zW_p rfl (by rw [zK_na (by omega)]; exact hk) ?_
  obtain ⟨s1, e1⟩ : ∃ s1, s1 = zsQ (zna σ (x + 1) 20 64 64) r 1 (x + 1) := ⟨_, rfl⟩
  rw [← e1]
  have x1 : zX s1 = x + 1 := by rw [e1]; rfl
  have k1 : zK s1 r = 7 := by rw [e1, zK_sQ, zK_na (by omega)]; exact hk
  refine zW_s rfl ?_
  refine zW_s rfl ?_
  refine zW_p rfl (zpnl (by decide) (show (Int32.ofInt 16).toNatClampNeg = 16 from rfl) (by omega)) ?_
  rw [show (Int32.ofInt 16).toNatClampNeg = 16 from rfl, znw_b (σ := s1) (y := x + 2) 20 16 16 (by rw [x1]), show zX s1 + 1 = x + 2 by rw [x1]]
  refine zW_p rfl (by rw [zK_na (by omega)]; exact k1) ?_
  obtain ⟨s2, e2⟩ : ∃ s2, s2 = zsQ (zna s1 (x + 2) 20 16 16) r 2 (x + 2) := ⟨_, rfl⟩
  rw [← e2]
  have x2 : zX s2 = x + 2 := by rw [e2]; rfl
  have k2 : zK s2 r = 7 := by rw [e2, zK_sQ, zK_na (by omega)]; exact k1
  refine zW_s rfl ?_
  refine zW_s rfl ?_
  refine zW_p rfl (zpnl (by decide) (show (Int32.ofInt 4).toNatClampNeg = 4 from rfl) (by omega)) ?_
  rw [show (Int32.ofInt 4).toNatClampNeg = 4 from rfl, znw_b (σ := s2) (y := x + 3) 20 4 4 (by rw [x2]), show zX s2 + 1 = x + 3 by rw [x2]]
  refine zW_p rfl (by rw [zK_na (by omega)]; exact k2) ?_
  obtain ⟨s3, e3⟩ : ∃ s3, s3 = zsQ (zna s2 (x + 3) 20 4 4) r 3 (x + 3) := ⟨_, rfl⟩
  rw [← e3]
  have x3 : zX s3 = x + 3 := by rw [e3]; rfl
  have k3 : zK s3 r = 7 := by rw [e3, zK_sQ, zK_na (by omega)]; exact k2
  refine zW_s rfl ?_
  refine zW_s rfl ?_
  refine zW_p rfl k3 ?_
  refine zW_r rfl trivial ?_
  unfold h56 at hQ
  rw [e3, e2, e1]
  exact hQ
theorem k53 {d r : Nat} {σ : zH} (hk : zK σ r = 6) {Q : Option Value → zH → Prop} (hQ : Q none σ) : zM (d + 1) 53 [.ref r] σ Q := by
  unfold zM
  refine zW_s rfl ?_
  refine zW_p rfl (by rw [hk]; decide) ?_
  refine zW_r rfl trivial ?_
  exact hQ
