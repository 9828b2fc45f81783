/-! one state for both: bytes, cards, what is printed, start, steps, claim, fault, run, table, taken -/
abbrev zMS : Type := List Nat × Nat × zDT × List Nat × List zStp × List zCd × Nat × Option (Option (Nat × Nat × Option (List Nat))) × Option zTS × Nat
def zmB (m : zMS) : List Nat := m.1
def zmN (m : zMS) : Nat := m.2.1
def zmD (m : zMS) : zDT := m.2.2.1
def zmr (m : zMS) : List Nat := m.2.2.2.1
def zmS (m : zMS) : List zStp := m.2.2.2.2.1
def zmC (m : zMS) : List zCd := m.2.2.2.2.2.1
def zmf (m : zMS) : Nat := m.2.2.2.2.2.2.1
def zmR (m : zMS) : Option (Option (Nat × Nat × Option (List Nat))) := m.2.2.2.2.2.2.2.1
def zmP (m : zMS) : Option zTS := m.2.2.2.2.2.2.2.2.1
def zmT (m : zMS) : Nat := m.2.2.2.2.2.2.2.2.2
def zMok (m : zMS) : Prop := ((zmB m).length ≤ 900 ∧ ∀ c ∈ zmB m, c < 256) ∧ (2 ≤ zmN m ∧ zmN m ≤ 9) ∧ zDb (zmD m) ∧ ((zmr m).length = zmN m ∧ ∀ c ∈ zmr m, zco c) ∧ ((zmS m).length ≤ 40 ∧ ∃ dn ch, zSeg (zmS m) (zmS m).length 0 (zmS m).length 0 dn ch ∧ ch ≤ 8) ∧ (∀ e g br, zmR m = some (some (e, g, br)) → e ≤ 3000 ∧ g ≤ 3000 ∧ (br = none ↔ g = e) ∧ ∀ r, br = some r → zrok 8 r) ∧ (∀ x, zmP m = some x → zVS (zmN m) x) ∧ zmT m ≤ 900
/-! the class's objects -/
def zc1 (σ : zH) (T T' o o' : Nat) (run : Option (Option (Nat × Nat × Option (List Nat)))) : Prop := (zK σ 1 = 12 ∧ zQ σ 1 0 = 2 ∧ zQ σ 1 1 = 4 ∧ zQ σ 1 2 = 9 ∧ zQ σ 1 3 = 14 ∧ zQ σ 1 4 = 18 ∧ zQ σ 1 5 = 54 ∧ zQ σ 1 6 = 59 ∧ zQ σ 1 7 = T ∧ zQ σ 1 8 = T' ∧ zQ σ 1 9 = o ∧ zQ σ 1 10 = o') ∧ (T = 60 ∧ T' = 106 ∨ T = 106 ∧ T' = 60) ∧ (o = 152 ∧ o' = 156 ∨ o = 156 ∧ o' = 152) ∧ (match run with | some (some (e, g, br)) => zI σ 1 11 = nI 1 ∧ zI σ 1 12 = nI e ∧ zI σ 1 13 = nI g ∧ zJ σ 1 14 = zbC br | _ => zI σ 1 11 = nI 0)
def zc4 (σ : zH) (n : Nat) (D : zDT) (row : List Nat) : Prop := zDk σ D n ∧ zRow σ 8 n row
def zc9 (σ : zH) (fk : Nat) : Prop := zRd σ ∧ zI σ 9 5 = nI fk
def zc18 (σ : zH) : Prop := ∃ nw nx wt C lg, zSp σ nw nx wt C lg ∧ zDis 0 nw nx wt
def zc54 (σ : zH) (P : Option zTS) (tk : Nat) : Prop := (zK σ 54 = 4 ∧ zQ σ 54 0 = 4 ∧ zQ σ 54 1 = 2 ∧ zQ σ 54 2 = 55) ∧ zTb σ 55 ∧ zI σ 54 6 = nI tk ∧ (match P with | none => zI σ 54 3 = nI 0 | some x => zI σ 54 3 = nI 1 ∧ zTc σ 55 (zpl x) (zmk x))
def zc59 (σ : zH) : Prop := zK σ 59 = 20 ∧ zN σ 59 = 9
def zcTr (σ : zH) (T T' : Nat) (St : List zStp) : Prop := zTrk σ T St ∧ zTs σ T'
def zcC (σ : zH) (o o' : Nat) (cs : List zCd) : Prop := zClm σ o cs ∧ zCo σ o'
def zIC (σ : zH) (m : zMS) : Prop := ∃ T T' o o', zc1 σ T T' o o' (zmR m) ∧ zTp σ (zmB m) ∧ zc4 σ (zmN m) (zmD m) (zmr m) ∧ zc9 σ (zmf m) ∧ zTb σ 14 ∧ zc18 σ ∧ zc54 σ (zmP m) (zmT m) ∧ zc59 σ ∧ zcTr σ T T' (zmS m) ∧ zcC σ o o' (zmC m)
/-! what changes elsewhere leaves them -/
theorem zc1_f {lo hi : Nat} {σ τ : zH} (h : zFr lo hi σ τ) (hl : hi ≤ 1 ∨ 1 < lo) {T T' o o' : Nat} {run : Option (Option (Nat × Nat × Option (List Nat)))} (hc : zc1 σ T T' o o' run) : zc1 τ T T' o o' run := by
  have f := zFr_o h (a := 1) (by omega)
  unfold zc1 at *
  rw [h.1, f.2.2.1, f.1, f.2.1]
  exact hc
theorem zTp_f {lo hi : Nat} {σ τ : zH} (h : zFr lo hi σ τ) (hl : hi ≤ 2 ∨ 3 < lo) {B : List Nat} (hc : zTp σ B) : zTp τ B := by
  have f2 := zFr_o h (a := 2) (by omega)
  have f3 := zFr_o h (a := 3) (by omega)
  unfold zTp at *
  rw [h.1, h.2.1, f2.2.2.1, f2.1, f3.2.2.2.1]
  exact hc
theorem zDk_f {lo hi : Nat} {σ τ : zH} (h : zFr lo hi σ τ) (hl : hi ≤ 4 ∨ 8 < lo) {D : zDT} {n : Nat} (hc : zDk σ D n) : zDk τ D n := by
  have f4 := zFr_o h (a := 4) (by omega)
  have f5 := zFr_o h (a := 5) (by omega)
  have f6 := zFr_o h (a := 6) (by omega)
  have f7 := zFr_o h (a := 7) (by omega)
  unfold zDk at *
  rw [h.1, h.2.1, f4.2.2.1, f4.1, f5.2.2.2.1, f6.2.2.2.1, f7.2.2.2.1]
  exact hc
theorem zc4_f {lo hi : Nat} {σ τ : zH} (h : zFr lo hi σ τ) (hl : hi ≤ 4 ∨ 8 < lo) {D : zDT} {n : Nat} {row : List Nat} (hc : zc4 σ n D row) : zc4 τ n D row := ⟨zDk_f h hl hc.1, zRow_fr h (by omega) hc.2⟩
theorem zRd_f {lo hi : Nat} {σ τ : zH} (h : zFr lo hi σ τ) (hl : hi ≤ 9 ∨ 13 < lo) (hc : zRd σ) : zRd τ := by
  have f9 := zFr_o h (a := 9) (by omega)
  have f10 := zFr_o h (a := 10) (by omega)
  unfold zRd zTkb at *
  rw [h.1, h.2.1, f9.2.2.1, f10.2.2.1]
  exact hc
theorem zc9_f {lo hi : Nat} {σ τ : zH} (h : zFr lo hi σ τ) (hl : hi ≤ 9 ∨ 13 < lo) {fk : Nat} (hc : zc9 σ fk) : zc9 τ fk := ⟨zRd_f h hl hc.1, by rw [(zFr_o h (a := 9) (by omega)).1]; exact hc.2⟩
theorem zc18_f {lo hi : Nat} {σ τ : zH} (h : zFr lo hi σ τ) (hl : hi ≤ 18 ∨ 53 < lo) (hc : zc18 σ) : zc18 τ := by
  obtain ⟨nw, nx, wt, C, lg, ⟨a1, a2, a3, a4, a5, a6⟩, hD⟩ := hc
  have f18 := zFr_o h (a := 18) (by omega)
  have f29 := zFr_o h (a := 29) (by omega)
  refine ⟨nw, nx, wt, C, lg, ⟨by rw [h.1, h.2.1, f18.2.2.1]; exact a1, zTb_fr h (by omega) a2, by rw [f18.2.2.1, f29.2.2.2.2.2]; exact a3, a4, fun w hw => ?_, by rw [f18.1]; exact a6⟩, hD⟩
  have hw' := hw
  unfold zWs at hw'
  exact zWc_fr h (by omega) (a5 w hw)
theorem zc54_f {lo hi : Nat} {σ τ : zH} (h : zFr lo hi σ τ) (hl : hi ≤ 54 ∨ 58 < lo) {P : Option zTS} {tk : Nat} (hc : zc54 σ P tk) : zc54 τ P tk := by
  have f54 := zFr_o h (a := 54) (by omega)
  obtain ⟨a1, a2, a3, a4⟩ := hc
  refine ⟨by rw [h.1, f54.2.2.1]; exact a1, zTb_fr h (by omega) a2, by rw [f54.1]; exact a3, ?_⟩
  cases P with
  | none => show zI τ 54 3 = nI 0; rw [f54.1]; exact a4
  | some x => exact ⟨by rw [f54.1]; exact a4.1, zTc_fr h (by omega) a4.2⟩
theorem zc59_f {lo hi : Nat} {σ τ : zH} (h : zFr lo hi σ τ) (hc : zc59 σ) : zc59 τ := by
  unfold zc59 at *
  rw [h.1, h.2.1]
  exact hc
theorem zcTr_f {lo hi : Nat} {σ τ : zH} (h : zFr lo hi σ τ) {T T' : Nat} (ht : T = 60 ∧ T' = 106 ∨ T = 106 ∧ T' = 60) (hl : hi ≤ 60 ∨ 151 < lo) {St : List zStp} (hc : zcTr σ T T' St) : zcTr τ T T' St := ⟨zTrk_fr h (by omega) hc.1, zTs_fr h (by omega) hc.2⟩
theorem zcC_f {lo hi : Nat} {σ τ : zH} (h : zFr lo hi σ τ) {o o' : Nat} (ho : o = 152 ∧ o' = 156 ∨ o = 156 ∧ o' = 152) (hl : hi ≤ 152 ∨ 159 < lo) {cs : List zCd} (hc : zcC σ o o' cs) : zcC τ o o' cs := ⟨zClm_fr h (by omega) hc.1, zCo_fr h (by omega) hc.2⟩
theorem zIC_f {lo hi : Nat} {σ τ : zH} (h : zFr lo hi σ τ) (hl : 159 < lo) {m : zMS} (hc : zIC σ m) : zIC τ m := by
  obtain ⟨T, T', o, o', a1, a2, a3, a4, a5, a6, a7, a8, a9, a10⟩ := hc
  exact ⟨T, T', o, o', zc1_f h (by omega) a1, zTp_f h (by omega) a2, zc4_f h (by omega) a3, zc9_f h (by omega) a4, zTb_fr h (by omega) a5, zc18_f h (by omega) a6, zc54_f h (by omega) a7, zc59_f h a8, zcTr_f h a1.2.1 (by omega) a9, zcC_f h a1.2.2.1 (by omega) a10⟩
