/-! the reference's object -/
def zrT (σ : zH) (B : List Nat) : Prop := zRtp σ B ∧ zI σ 160 2 = nI B.length
def zrD (σ : zH) (n : Nat) (D : zDT) (row : List Nat) : Prop := zDR σ D n ∧ ∀ i, i < n → zA σ 165 i = nI (zsR (row.getD i 0))
def zrP (σ : zH) (P : Option zTS) (tk : Nat) : Prop := zI σ 160 59 = nI tk ∧ (match P with | none => zI σ 160 56 = nI 0 | some x => zI σ 160 56 = nI 1 ∧ zJ σ 160 58 = lN (zkRP (zpl x) (zmk x)))
def zrRn (σ : zH) (run : Option (Option (Nat × Nat × Option (List Nat)))) : Prop := match run with | none => zI σ 160 51 = nI 0 | some none => zI σ 160 51 = nI 1 ∧ zI σ 160 52 = nI 2 | some (some (e, g, br)) => zI σ 160 51 = nI 1 ∧ zI σ 160 52 = nI (if g = e then 0 else 1) ∧ zI σ 160 53 = nI e ∧ zI σ 160 54 = nI g ∧ zJ σ 160 55 = zbR br
def zIR (σ : zH) (m : zMS) : Prop := ∃ bk cb, zMb σ ∧ zrT σ (zmB m) ∧ zrD σ (zmN m) (zmD m) (zmr m) ∧ zRkb σ bk (zmS m) ∧ zRcb σ (zmC m) cb ∧ zI σ 160 16 = nI (zmf m) ∧ zrP σ (zmP m) (zmT m) ∧ zrRn σ (zmR m)
def zFm (J L A : Nat → Prop) (σ τ : zH) : Prop := zK τ = zK σ ∧ zN τ = zN σ ∧ zQ τ = zQ σ ∧ zX τ = zX σ ∧ zL τ = zL σ ∧ zS τ = zS σ ∧ (∀ a, a ≠ 160 → zJ τ a = zJ σ a ∧ zI τ a = zI σ a) ∧ (∀ i, ¬ L i → zJ τ 160 i = zJ σ 160 i) ∧ (∀ i, ¬ J i → zI τ 160 i = zI σ 160 i) ∧ ∀ a, ¬ A a → zA τ a = zA σ a ∧ zB τ a = zB σ a
theorem zFm_n {J A : Nat → Prop} {σ τ : zH} (h : zFn J A σ τ) : zFm J (fun i => i = 18) A σ τ := h
theorem zFm_r (J L A : Nat → Prop) (σ : zH) : zFm J L A σ σ := ⟨rfl, rfl, rfl, rfl, rfl, rfl, fun _ _ => ⟨rfl, rfl⟩, fun _ _ => rfl, fun _ _ => rfl, fun _ _ => ⟨rfl, rfl⟩⟩
theorem zFm_t {J L A : Nat → Prop} {σ τ υ : zH} (h1 : zFm J L A σ τ) (h2 : zFm J L A τ υ) : zFm J L A σ υ := by
  obtain ⟨a1, a2, a3, a4, a5, a6, a7, a8, a9, a10⟩ := h1
  obtain ⟨b1, b2, b3, b4, b5, b6, b7, b8, b9, b10⟩ := h2
  exact ⟨b1.trans a1, b2.trans a2, b3.trans a3, b4.trans a4, b5.trans a5, b6.trans a6, fun a h => ⟨(b7 a h).1.trans (a7 a h).1, (b7 a h).2.trans (a7 a h).2⟩, fun i h => (b8 i h).trans (a8 i h), fun i h => (b9 i h).trans (a9 i h), fun a h => ⟨(b10 a h).1.trans (a10 a h).1, (b10 a h).2.trans (a10 a h).2⟩⟩
theorem zFm_m {J L A J' L' A' : Nat → Prop} {σ τ : zH} (h : zFm J L A σ τ) (hj : ∀ i, J i → J' i) (hl : ∀ i, L i → L' i) (ha : ∀ i, A i → A' i) : zFm J' L' A' σ τ := by
  obtain ⟨a1, a2, a3, a4, a5, a6, a7, a8, a9, a10⟩ := h
  exact ⟨a1, a2, a3, a4, a5, a6, a7, fun i h => a8 i (fun q => h (hl i q)), fun i h => a9 i (fun q => h (hj i q)), fun a h => a10 a (fun q => h (ha a q))⟩
theorem zFm_I {J L A : Nat → Prop} {σ : zH} {j : Nat} (v : Int32) (h : J j) : zFm J L A σ (zsI σ 160 j v) := by
  refine ⟨rfl, rfl, rfl, rfl, rfl, rfl, fun a ha => ⟨rfl, zIo ha⟩, fun _ _ => rfl, fun i hi => zIs (fun q => hi (q ▸ h)), fun _ _ => ⟨rfl, rfl⟩⟩
theorem zFm_J {J L A : Nat → Prop} {σ : zH} {j : Nat} (v : Int64) (h : L j) : zFm J L A σ (zsJ σ 160 j v) := by
  refine ⟨rfl, rfl, rfl, rfl, rfl, rfl, fun a ha => ⟨?_, rfl⟩, fun i hi => ?_, fun i hi => rfl, fun _ _ => ⟨rfl, rfl⟩⟩
  · funext i
    simp only [zh]
    rw [if_neg (by omega)]
  · simp only [zh]
    exact if_neg (fun q => hi (by rw [q.2]; exact h))
theorem zFm_A {J L A : Nat → Prop} {σ : zH} {a j : Nat} (v : Int32) (h : A a) : zFm J L A σ (zsA σ a j v) := by
  refine ⟨rfl, rfl, rfl, rfl, rfl, rfl, fun a ha => ⟨rfl, rfl⟩, fun _ _ => rfl, fun i hi => rfl, fun b hb => ⟨?_, rfl⟩⟩
  funext i
  rw [zA_sA]
  exact if_neg (fun q => hb (by rw [q.1]; exact h))
theorem zFm_q {σ τ : zH} (h : zFq σ τ) : zFm (fun i => i = 12 ∨ i = 46 ∨ i = 47) (fun _ => False) (fun a => a = 166 ∨ a = 167 ∨ (180 ≤ a ∧ a ≤ 185)) σ τ := by
  obtain ⟨a1, a2, a3, a4, a5, a6, a7, a8, a9, a10⟩ := h
  refine ⟨a1, a2, a3, a4, a5, a7, fun a ha => ⟨by rw [a6], ?_⟩, fun i _ => by rw [a6], fun i hi => a8 160 i (fun q => hi (by omega)), fun a ha => ⟨a9 a (fun q => ha (by omega)), a10 a (fun q => ha (by omega))⟩⟩
  funext i
  exact a8 a i (by omega)
theorem zFm_u {σ τ : zH} (h : zFu σ τ) : zFm (fun i => i = 12) (fun _ => False) (fun a => a = 166 ∨ a = 167 ∨ (180 ≤ a ∧ a ≤ 185)) σ τ := by
  obtain ⟨a1, a2, a3, a4, a5, a6, a7, a8, a9, a10⟩ := h
  refine ⟨a1, a2, a3, a4, a5, a7, fun a ha => ⟨by rw [a6], ?_⟩, fun i _ => by rw [a6], fun i hi => a8 160 i (fun q => hi (by omega)), fun a ha => ⟨a9 a (fun q => ha (by omega)), by rw [a10]⟩⟩
  funext i
  exact a8 a i (by omega)
theorem zFm_v {σ τ : zH} (h : zFv σ τ) : zFm (fun i => i = 0 ∨ i = 2 ∨ i = 12 ∨ i = 56 ∨ i = 57 ∨ i = 59 ∨ i = 60 ∨ i = 61) (fun i => i = 58) (fun a => a = 166 ∨ a = 167 ∨ (180 ≤ a ∧ a ≤ 185)) σ τ := by
  obtain ⟨a1, a2, a3, a4, a5, a6, a7, a8, a9, a10⟩ := h
  refine ⟨a1, a2, a3, a4, a5, a7, fun a ha => ⟨?_, ?_⟩, fun i hi => a6 160 i (fun q => hi q.2), fun i hi => a8 160 i (fun q => hi (by omega)), fun a ha => ⟨a9 a (fun q => ha (by omega)), by rw [a10]⟩⟩
  · funext i
    exact a6 a i (by omega)
  · funext i
    exact a8 a i (by omega)
theorem zFm_fr {J L A : Nat → Prop} {σ τ : zH} (h : zFm J L A σ τ) (hA : ∀ a, A a → 160 ≤ a ∧ a < 187) : zFr 160 187 σ τ := by
  obtain ⟨a1, a2, a3, a4, a5, a6, a7, a8, a9, a10⟩ := h
  refine ⟨a1, a2, a4, a5, fun a ha => ⟨(a7 a (by omega)).2, (a7 a (by omega)).1, by rw [a3], (a10 a (fun q => by have := hA a q; omega)).1, (a10 a (fun q => by have := hA a q; omega)).2, by rw [a6]⟩⟩
theorem zMb_m {J L A : Nat → Prop} {σ τ : zH} (h : zFm J L A σ τ) (hM : zMb σ) : zMb τ := by
  unfold zMb at *
  rw [h.1, h.2.1, h.2.2.1]
  exact hM
theorem zrT_m {J L A : Nat → Prop} {σ τ : zH} (h : zFm J L A σ τ) (hj : ¬ J 2) (ha : ¬ A 161) {B : List Nat} (hc : zrT σ B) : zrT τ B := by
  obtain ⟨⟨t1, t2, t3⟩, t4⟩ := hc
  have hA := (h.2.2.2.2.2.2.2.2.2 161 ha).1
  exact ⟨⟨t1, fun i hi => by rw [hA]; exact t2 i hi, t3⟩, by rw [h.2.2.2.2.2.2.2.2.1 2 hj]; exact t4⟩
theorem zrD_m {J L A : Nat → Prop} {σ τ : zH} (h : zFm J L A σ τ) (hj : ¬ J 5) (ha : ∀ a, 162 ≤ a → a ≤ 165 → ¬ A a) {n : Nat} {D : zDT} {row : List Nat} (hc : zrD σ n D row) : zrD τ n D row := by
  obtain ⟨⟨t1, t2, t3, t4⟩, t5⟩ := hc
  have hA := h.2.2.2.2.2.2.2.2.2
  exact ⟨⟨by rw [h.2.2.2.2.2.2.2.2.1 5 hj]; exact t1, by rw [(hA 162 (ha _ (by omega) (by omega))).1]; exact t2, by rw [(hA 163 (ha _ (by omega) (by omega))).1]; exact t3, by rw [(hA 164 (ha _ (by omega) (by omega))).1]; exact t4⟩, by rw [(hA 165 (ha _ (by omega) (by omega))).1]; exact t5⟩
theorem zrK_m {J L A : Nat → Prop} {σ τ : zH} (h : zFm J L A σ τ) (hj : ¬ J 29 ∧ ¬ J 30) (ha : ∀ a, 168 ≤ a → a ≤ 179 → ¬ A a) {bk : Nat} {St : List zStp} (hc : zRkb σ bk St) : zRkb τ bk St := by
  have hA := h.2.2.2.2.2.2.2.2.2
  exact zRkb_m (h.2.2.2.2.2.2.2.2.1 29 hj.1) (h.2.2.2.2.2.2.2.2.1 30 hj.2) (fun a l1 l2 i _ _ => by rw [(hA a (ha a (by omega) (by omega))).1, (hA a (ha a (by omega) (by omega))).2]; exact ⟨rfl, rfl⟩) (fun a l1 l2 i _ _ => by rw [(hA a (ha a (by omega) (by omega))).1]) hc
theorem zrC_m {J L A : Nat → Prop} {σ τ : zH} (h : zFm J L A σ τ) (hj : ¬ J 37 ∧ ¬ J 38) (ha : ∀ a, 176 ≤ a → a ≤ 179 → ¬ A a) {cb : Nat} {cs : List zCd} (hc : zRcb σ cs cb) : zRcb τ cs cb := by
  have hA := h.2.2.2.2.2.2.2.2.2
  exact zRcb_k (h.2.2.2.2.2.2.2.2.1 37 hj.1) (h.2.2.2.2.2.2.2.2.1 38 hj.2) (fun a l1 l2 i _ _ => by rw [(hA a (ha a (by omega) (by omega))).1]) hc
theorem zrP_m {J L A : Nat → Prop} {σ τ : zH} (h : zFm J L A σ τ) (hj : ¬ J 56 ∧ ¬ J 59) (hl : ¬ L 58) {P : Option zTS} {tk : Nat} (hc : zrP σ P tk) : zrP τ P tk := by
  have hI := h.2.2.2.2.2.2.2.2.1
  unfold zrP at *
  rw [hI 56 hj.1, hI 59 hj.2, h.2.2.2.2.2.2.2.1 58 hl]
  exact hc
theorem zrRn_m {J L A : Nat → Prop} {σ τ : zH} (h : zFm J L A σ τ) (hj : ¬ J 51 ∧ ¬ J 52 ∧ ¬ J 53 ∧ ¬ J 54) (hl : ¬ L 55) {run : Option (Option (Nat × Nat × Option (List Nat)))} (hc : zrRn σ run) : zrRn τ run := by
  have hI := h.2.2.2.2.2.2.2.2.1
  unfold zrRn at *
  rw [hI 51 hj.1, hI 52 hj.2.1, hI 53 hj.2.2.1, hI 54 hj.2.2.2, h.2.2.2.2.2.2.2.1 55 hl]
  exact hc
/-- fields that the invariant does not speak of -/
theorem zIR_m {J L A : Nat → Prop} {σ τ : zH} (h : zFm J L A σ τ) (hj : ¬ J 2 ∧ ¬ J 5 ∧ ¬ J 16 ∧ ¬ J 29 ∧ ¬ J 30 ∧ ¬ J 37 ∧ ¬ J 38 ∧ ¬ J 51 ∧ ¬ J 52 ∧ ¬ J 53 ∧ ¬ J 54 ∧ ¬ J 56 ∧ ¬ J 59) (hl : ¬ L 55 ∧ ¬ L 58) (ha : ∀ a, 161 ≤ a → a ≤ 179 → a ≠ 166 → a ≠ 167 → ¬ A a) {m : zMS} (hc : zIR σ m) : zIR τ m := by
  obtain ⟨bk, cb, a1, a2, a3, a4, a5, a6, a7, a8⟩ := hc
  obtain ⟨j1, j2, j3, j4, j5, j6, j7, j8, j9, j10, j11, j12, j13⟩ := hj
  exact ⟨bk, cb, zMb_m h a1, zrT_m h j1 (ha _ (by omega) (by omega) (by omega) (by omega)) a2, zrD_m h j2 (fun a _ _ => ha a (by omega) (by omega) (by omega) (by omega)) a3, zrK_m h ⟨j4, j5⟩ (fun a _ _ => ha a (by omega) (by omega) (by omega) (by omega)) a4, zrC_m h ⟨j6, j7⟩ (fun a _ _ => ha a (by omega) (by omega) (by omega) (by omega)) a5, by rw [h.2.2.2.2.2.2.2.2.1 16 j3]; exact a6, zrP_m h ⟨j12, j13⟩ hl.2 a7, zrRn_m h ⟨j8, j9, j10, j11⟩ hl.1 a8⟩
/-- the class's objects change -/
theorem zIR_f {lo hi : Nat} {σ τ : zH} (h : zFr lo hi σ τ) (hl : hi ≤ 160) {m : zMS} (hc : zIR σ m) : zIR τ m := by
  obtain ⟨bk, cb, a1, a2, a3, a4, a5, a6, a7, a8⟩ := hc
  have f := fun a (ha : 160 ≤ a) => zFr_o h (a := a) (by omega)
  have f0 := f 160 (by omega)
  refine ⟨bk, cb, ?_, ?_, ?_, ?_, ?_, by rw [f0.1]; exact a6, ?_, ?_⟩
  · unfold zMb at *
    rw [h.1, h.2.1, f0.2.2.1]
    exact a1
  · unfold zrT zRtp at *
    rw [f0.1, (f 161 (by omega)).2.2.2.1]
    exact a2
  · unfold zrD zDR at *
    rw [f0.1, (f 162 (by omega)).2.2.2.1, (f 163 (by omega)).2.2.2.1, (f 164 (by omega)).2.2.2.1, (f 165 (by omega)).2.2.2.1]
    exact a3
  · exact zRkb_m (by rw [f0.1]) (by rw [f0.1]) (fun a l1 l2 i _ _ => by rw [(f a (by omega)).2.2.2.1, (f a (by omega)).2.2.2.2.1]; exact ⟨rfl, rfl⟩) (fun a l1 l2 i _ _ => by rw [(f a (by omega)).2.2.2.1]) a4
  · exact zRcb_k (by rw [f0.1]) (by rw [f0.1]) (fun a l1 l2 i _ _ => by rw [(f a (by omega)).2.2.2.1]) a5
  · unfold zrP at *
    rw [f0.1, f0.2.1]
    exact a7
  · unfold zrRn at *
    rw [f0.1, f0.2.1]
    exact a8
