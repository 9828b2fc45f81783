/-! the class's texts -/
def ztrt (B : List Nat) : Except (Nat × Nat) (List zStp) := match zstx (zTk B 0) with
  | .error e => .error e
  | .ok ((S, dn, ch), _) => if ch ≤ 8 then (if dn ≤ 500 then .ok S else .error (6, B.length)) else .error (5, B.length)
def zclt (B : List Nat) : Except (Nat × Nat) (List zCd) := match zcon (zTk B 0) with
  | .error e => .error e
  | .ok (cs, R) => match zexp 49 R with
    | .error e => .error e
    | .ok _ => .ok cs
/-- objects 9 to 13 and lo to hi - 1 may change -/
def zFtx (lo hi : Nat) (σ τ : zH) : Prop := zK τ = zK σ ∧ zN τ = zN σ ∧ zX τ = zX σ ∧ zL τ = zL σ ∧ ∀ a, (a < 9 ∨ 14 ≤ a) → (a < lo ∨ hi ≤ a) → zI τ a = zI σ a ∧ zJ τ a = zJ σ a ∧ zQ τ a = zQ σ a ∧ zA τ a = zA σ a ∧ zB τ a = zB σ a ∧ zS τ a = zS σ a
theorem zFtx_rg {lo hi : Nat} {J : Nat → Prop} {σ τ υ : zH} (h1 : zFr 9 14 σ τ) (h2 : zFg lo hi J τ υ) : zFtx lo hi σ υ := by
  obtain ⟨a1, a2, a3, a4, a5⟩ := h1
  obtain ⟨b1, b2, b3, b4, b5, b6, b7, b8⟩ := h2
  refine ⟨b1.trans a1, b2.trans a2, b3.trans a3, b4.trans a4, fun a h h' => ?_⟩
  obtain ⟨c1, c2, c3, c4, c5, c6⟩ := a5 a h
  obtain ⟨d1, d2, d3, d4⟩ := b7 a (by omega) h'
  exact ⟨d1.trans c1, d2.trans c2, by rw [b5]; exact c3, d3.trans c4, d4.trans c5, (b6 a (by omega)).trans c6⟩
theorem zCo_r {σ τ : zH} (h : zFr 9 14 σ τ) {o : Nat} (ho : 13 < o) (hO : zCo σ o) : zCo τ o := zCo_fr h (by omega) hO
theorem zTs_r {σ τ : zH} (h : zFr 9 14 σ τ) {Tr : Nat} (ht : 13 < Tr) (hO : zTs σ Tr) : zTs τ Tr := by
  have hc := zCo_r h (o := Tr + 2) (by omega) hO.2.2.2.2.2.2
  obtain ⟨b1, b2, b3, b4, b5, b6, b7⟩ := hO
  have f0 := zFr_o h (a := Tr) (by omega)
  have f1 := zFr_o h (a := Tr + 1) (by omega)
  refine ⟨by rw [h.1]; exact b1, by rw [f0.2.2.1]; exact b2, by rw [f0.2.2.1]; exact b3, by rw [h.1]; exact b4, by rw [h.2.1]; exact b5, fun k hk => ?_, hc⟩
  rw [f1.2.2.2.2.2, h.1]
  exact b6 k hk
def zRd (σ : zH) : Prop := zK σ 9 = 3 ∧ zQ σ 9 0 = 10 ∧ zTkb σ
set_option maxHeartbeats 1000000 in
theorem p_cbeg {d : Nat} {σ : zH} {B : List Nat} (hB : zTp σ B) (h9 : zRd σ) {Q : Option Value → zH → Prop} (hQ : ∀ τ, zRS τ (zTk B 0) B.length (.ok (zTk B 0)) → zI τ 9 3 = nI 0 → zI τ 9 4 = nI 0 → zFr 9 14 σ τ → Q none τ) : zM (d + 9) 17 [.ref 9, .ref 2] σ Q := by
  obtain ⟨h90, h9q, hb⟩ := h9
  have h0 := zTok1_k (B := B) hB.2.2.2.2.2.1
  refine b17 ⟨h90, ?_⟩
  rw [h9q]
  refine ⟨hb.1, p_split hB hb (fun τ g1 g2 => ?_)⟩
  rw [zqv_s]
  have e9 := zFr_o g2 (a := 9) (by omega)
  have q9 : zQ τ 9 0 = 10 := by rw [e9.2.2.1]; exact h9q
  have k9 : zK τ 9 = 3 := by rw [g2.1]; exact h90
  have g1' := g1
  obtain ⟨⟨a1, a2, a3, a4, a5, a6, a7, a8, a9, a10⟩, b1, b2⟩ := g1
  rw [q9, a2, a5, a8, zcl 0 (by omega), (b2 0 (by have := h0.2.2; omega)).1]
  refine ⟨k9, a1, rfl, vp_in_nI (by omega) (by omega), ?_⟩
  obtain ⟨υ, hυ⟩ : ∃ υ, υ = zsI (zsI (zsI (zsI (zsI (zsI τ 9 1 (nI 0)) 9 2 (nI ((zTk B 0).getD 0 (0, 0, 0)).1)) 9 3 (nI 0)) 9 4 (nI 0)) 9 5 (nI 0)) 9 6 (nI 0) := ⟨_, rfl⟩
  rw [← hυ]
  have hF : zFc (fun _ => True) τ υ := by
    rw [hυ]
    exact zFc_t (zFc_t (zFc_t (zFc_t (zFc_t (zFc_I _ trivial) (zFc_I _ trivial)) (zFc_I _ trivial)) (zFc_I _ trivial)) (zFc_I _ trivial)) (zFc_I _ trivial)
  refine hQ υ ⟨⟨by rw [hυ]; exact k9, by rw [hυ]; exact q9, zTks_c hF g1', h0.2.1, ?_, 0, by have := h0.2.2; omega, List.drop_zero, ?_⟩, ?_⟩ ?_ ?_ (zFr_t (zFr_m g2 (by omega) (by omega)) (zFr_m hF.1 (by omega) (by omega)))
  · rw [hυ, zIs (by omega), zIs (by omega), zIs (by omega), zIs (by omega), zIe]
    have := zdrop_c (T := zTk B 0) (t := 0) (by have := h0.2.2; omega)
    rw [List.drop_zero] at this
    rw [this]
    rfl
  · rw [hυ, zIs (by omega), zIs (by omega), zIs (by omega), zIs (by omega), zIs (by omega), zIe]
  · rw [hυ, zIs (by omega), zIe]
  · rw [hυ, zIs (by omega), zIs (by omega), zIs (by omega), zIe]
  · rw [hυ, zIs (by omega), zIs (by omega), zIe]
theorem zRS_rd {σ : zH} {T : List zTok} {n : Nat} {s : zPs} (h : zRS σ T n s) : zRd σ := by
  cases s with
  | error e => exact ⟨h.1.1, h.1.2.1, h.1.2.2.1.1⟩
  | ok R => exact ⟨h.1.1, h.1.2.1, h.1.2.2.1.1⟩
/-- what the Reader says of a text -/
def zVd {α : Type} (τ : zH) : Except (Nat × Nat) α → Prop
  | .error e => zI τ 9 5 = nI e.1 ∧ zI τ 9 6 = nI e.2 ∧ 0 < e.1 ∧ e.1 < 10
  | .ok _ => zI τ 9 5 = nI 0
set_option maxHeartbeats 2000000 in
theorem p_ctrk {d Tr : Nat} {σ : zH} {B : List Nat} (ht : 13 < Tr) (hB : zTp σ B) (h9 : zRd σ) (hTs : zTs σ Tr) {Q : Option Value → zH → Prop} (hQ : ∀ τ, zFtx Tr (Tr + 46) σ τ → zRd τ → zTs τ Tr → zVd τ (ztrt B) → (∀ S, ztrt B = .ok S → zTrk τ Tr S) → Q none τ) : zM (d + 58) 15 [.ref 9, .ref 2, .ref Tr] σ Q := by
  have h0 := zTok1_k (B := B) hB.2.2.2.2.2.1
  have hT := h0.1
  have hO := (zOrd_k (B := B) B.length 0 (by omega) (by omega)).1
  refine b15 ⟨h9.1, p_cbeg (d := d + 48) hB h9 (fun τ g1 g2 g3 g4 => ?_)⟩
  rw [zqv_s]
  have hTs1 := zTs_r g4 ht hTs
  have q1 : zQ τ Tr 1 = Tr + 2 := hTs1.2.2.1
  refine ⟨hTs1.1, b97 ⟨hTs1.1, ?_⟩⟩
  rw [q1]
  refine ⟨hTs1.2.2.2.2.2.2.1, ?_⟩
  rw [zqv_s]
  obtain ⟨υ, hυ⟩ : ∃ υ, υ = zsI (zsI τ Tr 2 (nI 0)) (Tr + 2) 3 (nI 0) := ⟨_, rfl⟩
  rw [← hυ]
  have F1 : zFg Tr (Tr + 46) zJ6 τ υ := by
    rw [hυ]
    exact zFg_t (zFg_I 2 _ (by omega) (by omega) (by omega)) (zFg_I 3 _ (by omega) (by omega) (by omega))
  have S1 : zRS υ (zTk B 0) B.length (.ok (zTk B 0)) := by
    rw [hυ]
    exact zRS_I 3 _ (by omega) (zRS_I 2 _ (by omega) g1)
  have hTs2 := zTs_g F1 ht hTs1
  have hP : ∀ e, zPblk (zTk B 0) B.length Tr (d + 16 + e + 38) 24 (nI 0) (zblk 4) := fun e => by
    have := p_cblk hT ht 4 (by omega) (d + e)
    rw [show d + 16 + e + 38 = d + e + 38 + 4 * 4 by omega]
    exact this
  refine ⟨(zRS_k hT S1).1, p_csts (d := d + 16) hT ht hP 0 0 1 υ _ _ (by omega) (by omega) hTs2 (by rw [hυ, zIo (by omega), zIe]) (by rw [hυ, zIe]) S1 (fun ρ k' m' f => ?_)⟩
  rw [zqv_s]
  refine ⟨(zRS_k hT f.1).1, p_cexp (k := 49) hT f.1 (by omega) (fun ω u1 u2 => ?_)⟩
  rw [zqv_s]
  have f2 := zAs_y ht f u2 u1
  have ez : zSqy ((Except.ok (zTk B 0) : zPs).bind (zsts (zblk 4) 41 0)) (zexp 49) = zstx (zTk B 0) := rfl
  rw [ez] at f2
  have hTs3 := zTs_g f2.2.1 ht hTs2
  obtain ⟨w1, w2, w3⟩ := zRS_k hT f2.1
  refine ⟨w1, ?_⟩
  have FT : zFtx Tr (Tr + 46) σ ω := zFtx_rg g4 (zFg_t F1 f2.2.1)
  have e3 : zI υ 9 3 = nI 0 := by rw [hυ, zIo (by omega), zIo (by omega)]; exact g2
  have e4 : zI υ 9 4 = nI 0 := by rw [hυ, zIo (by omega), zIo (by omega)]; exact g3
  -- a fault here leaves all as it is
  have flt : ∀ f, (f = 5 ∨ f = 6) → (∀ S dn ch R, zstx (zTk B 0) = .ok ((S, dn, ch), R) → ztrt B = .error (f, B.length)) → zM (d + 57) 19 [.ref 9, .int (nI f)] ω (fun r κ => zqv r (Q none κ)) := by
    intro f hf hz
    refine p_cfail hT f2.1 (by omega) (fun κ v1 v2 => ?_)
    rw [zqv_s]
    have FT2 : zFtx Tr (Tr + 46) σ κ := zFtx_rg g4 (zFg_t (zFg_t F1 f2.2.1) (zFg_J v2))
    refine hQ κ FT2 (zRS_rd v1) (zTs_g (zFg_c (lo := 0) (hi := 0) v2) ht hTs3) ?_ ?_
    · cases hx : zstx (zTk B 0) with
      | error e =>
        rw [hx] at v1
        have e' : ztrt B = .error e := by unfold ztrt; rw [hx]
        rw [e']
        exact v1.2
      | ok a =>
        obtain ⟨⟨S, dn, ch⟩, R⟩ := a
        rw [hx] at v1
        rw [hz S dn ch R hx]
        obtain ⟨-, -, hR, -⟩ := zstx_ok hO hx
        have v1' : zRS κ (zTk B 0) B.length (.error (zflt f R)) := v1
        rw [hR] at v1'
        have ef : zflt f [(49, 0, B.length)] = (f, B.length) := rfl
        rw [ef] at v1'
        exact v1'.2
    · intro S hS
      cases hx : zstx (zTk B 0) with
      | error e =>
        have e' : ztrt B = .error e := by unfold ztrt; rw [hx]
        rw [e'] at hS
        cases hS
      | ok a =>
        obtain ⟨⟨S', dn, ch⟩, R⟩ := a
        rw [hz S' dn ch R hx] at hS
        cases hS
  cases hx : zstx (zTk B 0) with
  | error e =>
    have e' : ztrt B = .error e := by unfold ztrt; rw [hx]
    by_cases c1 : zI ω 9 4 ≤ nI 8
    · rw [if_pos c1]
      by_cases c2 : zI ω 9 3 ≤ nI 500
      · rw [if_pos c2]
        rw [hx] at f2
        refine hQ ω FT (zRS_rd f2.1) hTs3 ?_ ?_
        · rw [e']; exact f2.1.2
        · intro S hS; rw [e'] at hS; cases hS
      · rw [if_neg c2]
        exact flt 6 (by omega) (fun S dn ch R h => by rw [hx] at h; cases h)
    · rw [if_neg c1]
      exact flt 5 (by omega) (fun S dn ch R h => by rw [hx] at h; cases h)
  | ok a =>
    obtain ⟨⟨S, dn, ch⟩, R⟩ := a
    obtain ⟨z1, z2, z3, z4, z5, z6, z7⟩ := zstx_ok hO hx
    have hB9 := hB.2.2.2.2.2.1
    obtain ⟨y1, y2, y3, y4⟩ := f2.2.2.2.2.2.2.2.2.2.2 S dn ch R hx
    rw [e3, nI_add, Nat.one_mul, Nat.zero_add] at y2
    rw [e4, nI_add, Nat.one_mul, Nat.zero_add] at y3
    rw [y2, y3]
    by_cases c1 : ch ≤ 8
    · rw [if_pos (nI_le c1 (by omega))]
      by_cases c2 : dn ≤ 500
      · rw [if_pos (nI_le c2 (by omega))]
        have e' : ztrt B = .ok S := by unfold ztrt; rw [hx]; simp only; rw [if_pos c1, if_pos c2]
        rw [hx] at f2
        refine hQ ω FT (zRS_rd f2.1) hTs3 ?_ ?_
        · rw [e']; exact f2.1.2
        · intro S' hS
          rw [e'] at hS
          simp only [Except.ok.injEq] at hS
          subst hS
          obtain ⟨x1, x2⟩ := y4 (by omega)
          have f8 : m' ≤ 450 := f2.2.2.2.2.2.2.2.1
          have f9 : zI ω Tr 2 = nI k' := f2.2.2.2.2.2.2.2.2.1
          refine ⟨hTs3, by rw [f9, y1, Nat.zero_add], z1, fun k hk => ?_⟩
          have := x2 k hk
          rw [Nat.zero_add] at this
          exact zCSb_CS f8 this
      · rw [if_neg (nI_ge (by omega) (by omega))]
        exact flt 6 (by omega) (fun S' dn' ch' R' h => by
          rw [hx] at h
          simp only [Except.ok.injEq, Prod.mk.injEq] at h
          obtain ⟨⟨rfl, rfl, rfl⟩, rfl⟩ := h
          unfold ztrt
          rw [hx]
          simp only
          rw [if_pos c1, if_neg c2])
    · rw [if_neg (nI_ge (by omega) (by omega))]
      exact flt 5 (by omega) (fun S' dn' ch' R' h => by
        rw [hx] at h
        simp only [Except.ok.injEq, Prod.mk.injEq] at h
        obtain ⟨⟨rfl, rfl, rfl⟩, rfl⟩ := h
        unfold ztrt
        rw [hx]
        simp only
        rw [if_neg c1])
set_option maxHeartbeats 2000000 in
theorem p_cclm {d o : Nat} {σ : zH} {B : List Nat} (ho : 13 < o) (hB : zTp σ B) (h9 : zRd σ) (hO : zCo σ o) {Q : Option Value → zH → Prop} (hQ : ∀ τ, zFtx o (o + 4) σ τ → zRd τ → zCo τ o → zVd τ (zclt B) → (∀ cs, zclt B = .ok cs → zClm τ o cs) → Q none τ) : zM (d + 39) 16 [.ref 9, .ref 2, .ref o] σ Q := by
  have h0 := zTok1_k (B := B) hB.2.2.2.2.2.1
  have hT := h0.1
  have hR := (zOrd_k (B := B) B.length 0 (by omega) (by omega)).1
  have hB9 := hB.2.2.2.2.2.1
  refine b16 ⟨h9.1, p_cbeg (d := d + 29) hB h9 (fun τ g1 g2 g3 g4 => ?_)⟩
  rw [zqv_s]
  have hO1 := zCo_r g4 ho hO
  have S1 : zRS (zsI τ o 3 (nI 0)) (zTk B 0) B.length (.ok (zTk B 0)) := zRS_I 3 _ ho g1
  have F1 : zFg o (o + 4) zJ4 τ (zsI τ o 3 (nI 0)) := zFg_I 3 _ (by omega) (by omega) (by omega)
  have hO2 := zCo_g F1 hO1
  refine ⟨hO1.1, (zRS_k hT S1).1, p_ccon hT d o 0 _ _ _ ho hO2 (by omega) zIe S1 (fun υ m f => ?_)⟩
  rw [zqv_s]
  have hO3 := zCo_g f.2.1 hO2
  refine ⟨(zRS_k hT f.1).1, p_cexp (k := 49) hT f.1 (by omega) (fun ω u1 u2 => ?_)⟩
  rw [zqv_s]
  have ez : (Except.ok (zTk B 0) : zPs).bind zcon = zcon (zTk B 0) := rfl
  rw [ez] at f u1
  have FT : zFtx o (o + 4) σ ω := zFtx_rg g4 (zFg_t (zFg_t F1 f.2.1) (zFg_c u2))
  have hO4 := zcO u2 hO3
  refine hQ ω FT (zRS_rd u1) hO4 ?_ ?_
  · unfold zclt
    cases hx : zcon (zTk B 0) with
    | error e => rw [hx] at u1; exact u1.2
    | ok a =>
      obtain ⟨cs, R⟩ := a
      rw [hx] at u1
      have u1' : zRS ω (zTk B 0) B.length (zexp 49 R) := u1
      show zVd ω (match zexp 49 R with
        | .error e => .error e
        | .ok _ => .ok cs)
      cases hy : zexp 49 R with
      | error e => rw [hy] at u1'; exact u1'.2
      | ok R2 => rw [hy] at u1'; exact u1'.2
  · intro cs hc
    unfold zclt at hc
    cases hx : zcon (zTk B 0) with
    | error e => rw [hx] at hc; cases hc
    | ok a =>
      obtain ⟨cs', R⟩ := a
      rw [hx] at hc f
      simp only at hc
      cases hy : zexp 49 R with
      | error e => rw [hy] at hc; cases hc
      | ok R2 =>
        rw [hy] at hc
        simp only [Except.ok.injEq] at hc
        subst hc
        obtain ⟨a1, a2, a3⟩ := zcon_bd B.length _ _ _ hR hx
        have hn := zOrd_n a1.1
        have hl : cs'.length ≤ 450 := by
          have : zplc R ≤ B.length := hn
          omega
        obtain ⟨b1, b2⟩ := f.2.2.2.2.2.2 cs' R rfl (by omega)
        obtain ⟨v1, v2⟩ := zCk_sf (zcon_gd _ _ _ hx)
        have hx2 := u2.1.2.2.2.2
        refine ⟨hO4, ?_, hl, ?_, v1, v2⟩
        · rw [zcI ho u2 f.2.2.2.2.2.1, b1, Nat.zero_add]
        · have hk : zKr o m υ ω := fun a l h i hi => by rw [(hx2 a (by omega)).2.2.2.1]
          exact zCls_k hk _ _ (by omega) b2
