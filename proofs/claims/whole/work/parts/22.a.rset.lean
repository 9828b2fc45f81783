/-! the reference: frames; what may change while sets are run through -/
def zFq (σ τ : zH) : Prop := zK τ = zK σ ∧ zN τ = zN σ ∧ zQ τ = zQ σ ∧ zX τ = zX σ ∧ zL τ = zL σ ∧ zJ τ = zJ σ ∧ zS τ = zS σ ∧ (∀ a i, ¬ (a = 160 ∧ (i = 12 ∨ i = 46 ∨ i = 47)) → zI τ a i = zI σ a i) ∧ (∀ a, ¬ (a = 166 ∨ a = 167 ∨ a = 180 ∨ a = 181 ∨ a = 184 ∨ a = 185) → zA τ a = zA σ a) ∧ (∀ a, ¬ (a = 182 ∨ a = 183) → zB τ a = zB σ a)
theorem zFq_r (σ : zH) : zFq σ σ := ⟨rfl, rfl, rfl, rfl, rfl, rfl, rfl, fun _ _ _ => rfl, fun _ _ => rfl, fun _ _ => rfl⟩
theorem zFq_t {σ τ υ : zH} (h1 : zFq σ τ) (h2 : zFq τ υ) : zFq σ υ := by
  obtain ⟨a1, a2, a3, a4, a5, a6, a7, a8, a9, a10⟩ := h1
  obtain ⟨b1, b2, b3, b4, b5, b6, b7, b8, b9, b10⟩ := h2
  exact ⟨b1.trans a1, b2.trans a2, b3.trans a3, b4.trans a4, b5.trans a5, b6.trans a6, b7.trans a7, fun a i h => (b8 a i h).trans (a8 a i h), fun a h => (b9 a h).trans (a9 a h), fun a h => (b10 a h).trans (a10 a h)⟩
/-- of the table alone -/
def zFu (σ τ : zH) : Prop := zK τ = zK σ ∧ zN τ = zN σ ∧ zQ τ = zQ σ ∧ zX τ = zX σ ∧ zL τ = zL σ ∧ zJ τ = zJ σ ∧ zS τ = zS σ ∧ (∀ a i, ¬ (a = 160 ∧ i = 12) → zI τ a i = zI σ a i) ∧ (∀ a, ¬ (a = 166 ∨ a = 167 ∨ a = 180 ∨ a = 181) → zA τ a = zA σ a) ∧ zB τ = zB σ
theorem zFu_q {σ τ : zH} (h : zFu σ τ) : zFq σ τ := by
  obtain ⟨a1, a2, a3, a4, a5, a6, a7, a8, a9, a10⟩ := h
  exact ⟨a1, a2, a3, a4, a5, a6, a7, fun a i h => a8 a i (by omega), fun a h => a9 a (by omega), fun a _ => by rw [a10]⟩
theorem zFu_r (σ : zH) : zFu σ σ := ⟨rfl, rfl, rfl, rfl, rfl, rfl, rfl, fun _ _ _ => rfl, fun _ _ => rfl, rfl⟩
theorem zFu_t {σ τ υ : zH} (h1 : zFu σ τ) (h2 : zFu τ υ) : zFu σ υ := by
  obtain ⟨a1, a2, a3, a4, a5, a6, a7, a8, a9, a10⟩ := h1
  obtain ⟨b1, b2, b3, b4, b5, b6, b7, b8, b9, b10⟩ := h2
  exact ⟨b1.trans a1, b2.trans a2, b3.trans a3, b4.trans a4, b5.trans a5, b6.trans a6, b7.trans a7, fun a i h => (b8 a i h).trans (a8 a i h), fun a h => (b9 a h).trans (a9 a h), b10.trans a10⟩
theorem zFu_Ra (σ : zH) (pl mn hd rs : Nat → Int32) (mk : Int32) : zFu σ (zRa σ pl mn hd rs mk) := by
  obtain ⟨k1, k2, k3, k4, k5, k6, k7, k8⟩ := zRa_k σ pl mn hd rs mk
  exact ⟨k1, k2, k3, k7, k8, k4, k6, fun a i h => zRa_oI pl mn hd rs mk h, fun a h => zRa_oA pl mn hd rs mk (by omega), k5⟩
def zRt (σ : zH) (P : Nat → List Nat) (mk : Nat) : Prop := zRR (zA σ 166) (zA σ 167) P ∧ zI σ 160 12 = nI mk
theorem zRt_Ra {σ : zH} {pl mn hd rs : Nat → Int32} {mk : Nat} {P : Nat → List Nat} (h : zRR pl mn P) : zRt (zRa σ pl mn hd rs (nI mk)) P mk := by
  obtain ⟨r1, r2, r3, r4, r5⟩ := zRa_r σ pl mn hd rs (nI mk)
  exact ⟨by rw [r1, r2]; exact h, r5⟩
theorem zRt_self {σ : zH} {P : Nat → List Nat} {mk : Nat} (h : zRt σ P mk) : zRa σ (zA σ 166) (zA σ 167) (zA σ 180) (zA σ 181) (nI mk) = σ := by
  rw [← h.2]
  exact zRa_self σ
theorem zMb_q {σ τ : zH} (h : zFq σ τ) (hM : zMb σ) : zMb τ := by
  unfold zMb at *
  rw [h.1, h.2.1, h.2.2.1]
  exact hM
theorem zDR_q {σ τ : zH} (h : zFq σ τ) {D : zDT} {n : Nat} (hD : zDR σ D n) : zDR τ D n := by
  obtain ⟨-, -, -, -, -, -, -, hI, hA, -⟩ := h
  unfold zDR at *
  rw [hI 160 5 (by omega), hA 162 (by omega), hA 163 (by omega), hA 164 (by omega)]
  exact hD
theorem zRs_q {σ τ : zH} (h : zFq σ τ) {s w p q g h0 : Nat} (hS : zRs σ s w p q g h0) : zRs τ s w p q g h0 := by
  obtain ⟨-, -, -, -, -, -, -, hI, hA, hB⟩ := h
  unfold zRs at *
  rw [hB 168 (by omega), hA 169 (by omega), hA 170 (by omega), hA 171 (by omega), hA 172 (by omega)]
  exact hS
/-- trees stay where their nodes do -/
theorem zNum_c {σ τ : zH} {v a : Nat} (h6 : zA τ 176 v = zA σ 176 v) (h7 : zA τ 177 v = zA σ 177 v) (h8 : zA τ 178 v = zA σ 178 v) (h : zNum σ v a) : zNum τ v a := by
  unfold zNum at *
  rw [h6, h7, h8]
  exact h
theorem zTr_c {σ τ : zH} {lo hi : Nat} (h6 : ∀ v, lo ≤ v → v < hi → zA τ 176 v = zA σ 176 v ∧ zA τ 177 v = zA σ 177 v ∧ zA τ 178 v = zA σ 178 v ∧ zA τ 179 v = zA σ 179 v) : ∀ (f K v : Nat) (C : (zCd → Bool) → Bool), zTr σ lo hi f K v C → zTr τ lo hi f K v C
  | 0, _, _, _, h => h.elim
  | f + 1, K, v, C, h => by
    obtain ⟨v1, v2, k1, h⟩ := h
    obtain ⟨g1, g2, g3, g4⟩ := h6 v v1 v2
    refine ⟨v1, v2, k1, ?_⟩
    rw [g1, g2, g3]
    rcases h with ⟨c, hA, hC⟩ | ⟨o, u, C1, e1, hu, hC⟩ | ⟨o, a, b, Ca, Cb, e1, e2, ha, hbT, hC⟩ | ⟨o, a, b, Ca, Cb, e1, e2, ha, hbT, hC⟩
    · refine Or.inl ⟨c, ?_, hC⟩
      unfold zAtm at *
      rw [g1, g2, g3, g4]
      rcases hA with ⟨x1, x2, x3, x4, l, r, x5, x6, x7, x8, x9, x10, x11, x12⟩ | hA
      · obtain ⟨l1, l2, l3, l4⟩ := h6 l x7 x8
        obtain ⟨r1, r2, r3, r4⟩ := h6 r x9 x10
        exact Or.inl ⟨x1, x2, x3, x4, l, r, x5, x6, x7, x8, x9, x10, zNum_c l1 l2 l3 x11, zNum_c r1 r2 r3 x12⟩
      · exact Or.inr hA
    · exact Or.inr (Or.inl ⟨o, u, C1, e1, zTr_c h6 f _ _ _ hu, hC⟩)
    · exact Or.inr (Or.inr (Or.inl ⟨o, a, b, Ca, Cb, e1, e2, zTr_c h6 f _ _ _ ha, zTr_c h6 f _ _ _ hbT, hC⟩))
    · refine Or.inr (Or.inr (Or.inr ⟨o, a, b, Ca, Cb, e1, e2, ?_, zTr_c h6 f _ _ _ hbT, hC⟩))
      rcases ha with ⟨oa, ha⟩ | ha
      · have hal : lo ≤ a ∧ a < hi := by
          cases f with
          | zero => exact ha.elim
          | succ f => exact ⟨ha.1, ha.2.1⟩
        exact Or.inl ⟨by rw [(h6 a hal.1 hal.2).1]; exact oa, zTr_c h6 f _ _ _ ha⟩
      · exact Or.inr (zTr_c h6 f _ _ _ ha)
theorem zTr_q {σ τ : zH} (h : zFq σ τ) {lo hi f K v : Nat} {C : (zCd → Bool) → Bool} (hT : zTr σ lo hi f K v C) : zTr τ lo hi f K v C := by
  obtain ⟨-, -, -, -, -, -, -, hI, hA, hB⟩ := h
  exact zTr_c (fun v _ _ => ⟨by rw [hA 176 (by omega)], by rw [hA 177 (by omega)], by rw [hA 178 (by omega)], by rw [hA 179 (by omega)]⟩) f K v C hT
theorem p_untold {d n mk : Nat} {σ : zH} {D : zDT} (hM : zMb σ) (hD : zDR σ D n) {P : Nat → List Nat} (hV : zVP n P mk) {Q : Option Value → zH → Prop} (hQ : ∀ τ, zFu σ τ → zRt τ P mk → Q none τ) : zM d 138 [.ref 160, .long (lN (zkRP P mk))] σ Q := by
  have h := e_untold (d := d) (pl := zA σ 166) (mn := zA σ 167) (hd := zA σ 180) (rs := zA σ 181) (mk0 := zI σ 160 12) hM hD.1 hV (Q := Q) (fun pl' mn' hR => hQ _ (zFu_Ra _ _ _ _ _ _) (zRt_Ra hR))
  rw [zRa_self] at h
  exact h
theorem p_told {d n mk : Nat} {σ : zH} (hM : zMb σ) {P : Nat → List Nat} (hT : zRt σ P mk) (hV : zVP n P mk) {Q : Option Value → zH → Prop} (hQ : Q (some (.long (lN (zkRP P mk)))) σ) : zM d 137 [.ref 160] σ Q := by
  have e := zRt_self hT
  have h := e_told (d := d) (hd := zA σ 180) (rs := zA σ 181) (Q := Q) hM hT.1 hV
  rw [e] at h
  exact h hQ
theorem p_rlay {d n ra : Nat} {σ : zH} (hM : zMb σ) (hcards : zI σ 160 5 = nI n) (hn : n ≤ 9) (hra : ra = 165 ∨ ra = 186) {row : List Nat} (hrl : row.length = n) (hrow : ∀ i, i < n → zA σ ra i = nI (zsR (row.getD i 0))) (hrc : ∀ c ∈ row, c < 32) {Q : Option Value → zH → Prop} (hQ : ∀ τ, zFu σ τ → zRt τ (zpl (row, [], [], [], 0)) 0 → Q none τ) : zM d 136 [.ref 160, .ref ra] σ Q := by
  have h := e_rlay (d := d) (pl := zA σ 166) (mn := zA σ 167) (hd := zA σ 180) (rs := zA σ 181) (mk0 := zI σ 160 12) hM hcards hn hra hrl hrow hrc (Q := Q) (fun pl' mn' hR => hQ _ (zFu_Ra _ _ _ _ _ _) (zRt_Ra hR))
  rw [zRa_self] at h
  exact h
theorem p_asks {d s w p q g h mk : Nat} {σ : zH} (hM : zMb σ) (hs : s < 96) (hS : zRs σ s w p q g h) (hw : zSw w p q g h) {P : Nat → List Nat} (hT : zRt σ P mk) (ht : zTot P ≤ 9) {Q : Option Value → zH → Prop} (hQ : Q (some (.int (nI (if zfree w h then zasks w p q P else 0)))) σ) : zM (d + 1) 175 [.ref 160, .int (nI s)] σ Q := by
  have e := zRt_self hT
  have h2 := e_asks (d := d) (hd := zA σ 180) (rs := zA σ 181) (mk := nI mk) (Q := Q) hM hs hS hw hT.1 ht
  rw [e] at h2
  exact h2 hQ
theorem p_ract {d s w p q g h c mk : Nat} {σ : zH} (hM : zMb σ) (hs : s < 96) (hS : zRs σ s w p q g h) (hw : zSw w p q g h) {P : Nat → List Nat} (hT : zRt σ P mk) (ht : zTot P ≤ 9) (h32 : ∀ p < 4, ∀ c ∈ P p, zco c) (hc : zfree w h = true → c < zasks w p q P) (hc2 : c < 2 ^ 30) {Q : Option Value → zH → Prop} (hQ : ∀ τ, zFu σ τ → zRt τ (zact w p q g h c P mk).1 (zact w p q g h c P mk).2 → Q none τ) : zM (d + 2) 179 [.ref 160, .int (nI s), .int (nI c)] σ Q := by
  have e := zRt_self hT
  have h2 := e_ract (d := d) (hd := zA σ 180) (rs := zA σ 181) (mk := mk) (Q := Q) hM hs hS hw hT.1 ht h32 hc hc2 (fun pl' mn' hd' rs' hR => hQ _ (zFu_Ra _ _ _ _ _ _) (zRt_Ra hR))
  rw [e] at h2
  exact h2
theorem p_hold {d n mk lo hi f K v : Nat} {σ : zH} {D : zDT} (hM : zMb σ) (hD : zDR σ D n) {P : Nat → List Nat} (hT : zRt σ P mk) (hV : zVP n P mk) (hb : zDb D) {C : (zCd → Bool) → Bool} (hhi : hi ≤ 3200) (hTr : zTr σ lo hi f K v C) {Q : Option Value → zH → Prop} (hQ : Q (some (.int (nI (zbn1 (C (zct D mk P)))))) σ) : zM (d + K + 1) 172 [.ref 160, .int (nI v)] σ Q := by
  have e := zRt_self hT
  have h2 := e_hold (d := d) (hd := zA σ 180) (rs := zA σ 181) (Q := Q) hM hD hT.1 hV hb hhi hTr
  rw [e] at h2
  exact h2 hQ
/-! numbers of the reference -/
theorem zdivh {a X z : Nat} (hX : 0 < X) (hz : z < X) : (a * X + z) / X = a := by rw [Nat.mul_comm, Nat.mul_add_div hX, Nat.div_eq_of_lt hz, Nat.add_zero]
theorem zdivh2 {a b X y z : Nat} (hX : 0 < X) (hy : y < X) (hz : z < X) (h : a * X + y = b * X + z) : a = b ∧ y = z := by
  have e1 := zdivh (a := a) hX hy
  rw [h, zdivh hX hz] at e1
  subst e1
  exact ⟨rfl, by omega⟩
theorem zdm_inj {a b : List Nat} (hl : a.length = b.length) (ha : ∀ c ∈ a, c < 32) (hb : ∀ c ∈ b, c < 32) (h : zdm 0 a = zdm 0 b) : a = b := by
  induction a generalizing b with
  | nil => cases b with
    | nil => rfl
    | cons => simp at hl
  | cons c l ih => cases b with
    | nil => simp at hl
    | cons c' l' =>
      simp only [List.length_cons, Nat.add_right_cancel_iff] at hl
      have h1 := zdm_lt (l := l) (fun x hx => ha x (by simp [hx]))
      have h2 := zdm_lt (l := l') (fun x hx => hb x (by simp [hx]))
      simp only [zdm, Nat.zero_mul, Nat.zero_add] at h
      rw [zdm_0 c l, zdm_0 c' l', ← hl] at h
      rw [← hl] at h2
      have hX : 0 < 32 ^ l.length := Nat.pow_pos (by decide)
      generalize 32 ^ l.length = X at *
      obtain ⟨e3, e4⟩ := zdivh2 hX h1 h2 h
      subst e3
      rw [ih hl (fun x hx => ha x (by simp [hx])) (fun x hx => hb x (by simp [hx])) e4]
def zkR (x : zTS) : Nat := zkRP (zpl x) (zmk x)
theorem zkR_ts (a : (Nat → List Nat) × Nat) : zkR (zts a) = zkRP a.1 a.2 := rfl
theorem zkR_lt {n : Nat} {x : zTS} (h : zVS n x) : zkR x < 2 ^ 61 := zdm_lt2 (zhdR_lt h) (zsqR_32 (zVP_32 h)) (by rw [zsqR_len]; have := h.1; have := h.2.1; omega)
theorem zkR_inj {n : Nat} {x y : zTS} (hx : zVS n x) (hy : zVS n y) (h : zkR x = zkR y) : x = y := by
  have h1 := zdm_lt (zsqR_32 (zVP_32 hx))
  have h2 := zdm_lt (zsqR_32 (zVP_32 hy))
  unfold zkR zkRP at h
  rw [zdm_0, zdm_0 (zhdR (zpl y) (zmk y)), zsqR_len, zsqR_len, hx.1, hy.1] at h
  rw [zsqR_len, hx.1] at h1
  rw [zsqR_len, hy.1] at h2
  have hX : 0 < 32 ^ n := Nat.pow_pos (by decide)
  obtain ⟨e0, h⟩ := zdivh2 hX h1 h2 h
  have es := zdm_inj (by rw [zsqR_len, zsqR_len, hx.1, hy.1]) (zsqR_32 (zVP_32 hx)) (zsqR_32 (zVP_32 hy)) h
  have lx := zVP_9 hx
  have ly := zVP_9 hy
  have lx0 := lx 0 (by decide)
  have lx1 := lx 1 (by decide)
  have lx2 := lx 2 (by decide)
  have ly0 := ly 0 (by decide)
  have ly1 := ly 1 (by decide)
  have ly2 := ly 2 (by decide)
  unfold zhdR at e0
  have f2 : (zpl x 2).length = (zpl y 2).length := by omega
  have f1 : (zpl x 1).length = (zpl y 1).length := by omega
  have f0 : (zpl x 0).length = (zpl y 0).length := by omega
  have f3 : zmk x = zmk y := by omega
  unfold zsqR at es
  obtain ⟨g0, es⟩ := List.append_inj es f0
  obtain ⟨g1, es⟩ := List.append_inj es f1
  obtain ⟨g2, g3⟩ := List.append_inj es f2
  obtain ⟨x0, x1, x2, x3, x4⟩ := x
  obtain ⟨y0, y1, y2, y3, y4⟩ := y
  have g0' : x0 = y0 := g0
  have g1' : x1 = y1 := g1
  have g2' : x2 = y2 := g2
  have g3' : x3 = y3 := g3
  have f3' : x4 = y4 := f3
  rw [g0', g1', g2', g3', f3']
def zrR (r : List Nat) : Nat := zdv 256 8 r
def zeR (L : zSt) : List (Nat × Nat) := L.map (fun e => (zkR e.1, zrR e.2))
theorem zput_R {n : Nat} {x : zTS} {r : List Nat} {L : zSt} (hL : zSok n 8 L) (hx : zVS n x) (hr : zrok 8 r) : zput (zeR L) (zkR x) (zrR r) = (zputS L x r).map zeR := zput_map (fun e he q => zkR_inj (hL e he).1 hx q) (fun e he => zmin_of (zdv_lx (B := 256) (by decide) 8 r e.2 hr (hL e he).2).1)
