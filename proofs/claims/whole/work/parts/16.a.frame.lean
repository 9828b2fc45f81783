/-! what stays: all outside the objects lo to hi - 1 -/
def zFr (lo hi : Nat) (σ τ : zH) : Prop := zK τ = zK σ ∧ zN τ = zN σ ∧ zX τ = zX σ ∧ zL τ = zL σ ∧ ∀ a, (a < lo ∨ hi ≤ a) → zI τ a = zI σ a ∧ zJ τ a = zJ σ a ∧ zQ τ a = zQ σ a ∧ zA τ a = zA σ a ∧ zB τ a = zB σ a ∧ zS τ a = zS σ a
theorem zFr_r (lo hi : Nat) (σ : zH) : zFr lo hi σ σ := ⟨rfl, rfl, rfl, rfl, fun _ _ => ⟨rfl, rfl, rfl, rfl, rfl, rfl⟩⟩
theorem zFr_t {lo hi : Nat} {σ τ υ : zH} (h1 : zFr lo hi σ τ) (h2 : zFr lo hi τ υ) : zFr lo hi σ υ := by
  obtain ⟨a1, a2, a3, a4, a5⟩ := h1
  obtain ⟨b1, b2, b3, b4, b5⟩ := h2
  refine ⟨b1.trans a1, b2.trans a2, b3.trans a3, b4.trans a4, fun a ha => ?_⟩
  obtain ⟨c1, c2, c3, c4, c5, c6⟩ := a5 a ha
  obtain ⟨d1, d2, d3, d4, d5, d6⟩ := b5 a ha
  exact ⟨d1.trans c1, d2.trans c2, d3.trans c3, d4.trans c4, d5.trans c5, d6.trans c6⟩
theorem zFr_m {lo hi lo' hi' : Nat} {σ τ : zH} (h : zFr lo hi σ τ) (h1 : lo' ≤ lo) (h2 : hi ≤ hi') : zFr lo' hi' σ τ := ⟨h.1, h.2.1, h.2.2.1, h.2.2.2.1, fun a ha => h.2.2.2.2 a (by omega)⟩
theorem zFr_sI {lo hi a : Nat} {σ : zH} (j : Nat) (v : Int32) (h1 : lo ≤ a) (h2 : a < hi) : zFr lo hi σ (zsI σ a j v) := by
  refine ⟨rfl, rfl, rfl, rfl, fun b hb => ⟨?_, rfl, rfl, rfl, rfl, rfl⟩⟩
  funext i
  simp only [zh]
  rw [if_neg (by omega)]
theorem zFr_sJ {lo hi a : Nat} {σ : zH} (j : Nat) (v : Int64) (h1 : lo ≤ a) (h2 : a < hi) : zFr lo hi σ (zsJ σ a j v) := by
  refine ⟨rfl, rfl, rfl, rfl, fun b hb => ⟨rfl, ?_, rfl, rfl, rfl, rfl⟩⟩
  funext i
  simp only [zh]
  rw [if_neg (by omega)]
theorem zFr_sQ {lo hi a : Nat} {σ : zH} (j v : Nat) (h1 : lo ≤ a) (h2 : a < hi) : zFr lo hi σ (zsQ σ a j v) := by
  refine ⟨rfl, rfl, rfl, rfl, fun b hb => ⟨rfl, rfl, ?_, rfl, rfl, rfl⟩⟩
  funext i
  simp only [zh]
  rw [if_neg (by omega)]
theorem zFr_wA {lo hi a : Nat} {σ : zH} (f : Nat → Int32) (h1 : lo ≤ a) (h2 : a < hi) : zFr lo hi σ (zwA σ a f) := by
  refine ⟨rfl, rfl, rfl, rfl, fun b hb => ⟨rfl, rfl, rfl, ?_, rfl, rfl⟩⟩
  simp only [zh]
  rw [if_neg (by omega)]
theorem zFr_wB {lo hi a : Nat} {σ : zH} (f : Nat → Int64) (h1 : lo ≤ a) (h2 : a < hi) : zFr lo hi σ (zwB σ a f) := by
  refine ⟨rfl, rfl, rfl, rfl, fun b hb => ⟨rfl, rfl, rfl, rfl, ?_, rfl⟩⟩
  simp only [zh]
  rw [if_neg (by omega)]
theorem zFr_wS {lo hi a : Nat} {σ : zH} (f : Nat → Nat) (h1 : lo ≤ a) (h2 : a < hi) : zFr lo hi σ (zwS σ a f) := by
  refine ⟨rfl, rfl, rfl, rfl, fun b hb => ⟨rfl, rfl, rfl, rfl, rfl, ?_⟩⟩
  simp only [zh]
  rw [if_neg (by omega)]
theorem zFr_Ta {lo hi t : Nat} {σ : zH} (ly hd sz : Nat → Int32) (mk : Int32) (h1 : lo ≤ t) (h2 : t + 4 ≤ hi) : zFr lo hi σ (zTa σ t ly hd sz mk) := by
  unfold zTa
  exact zFr_t (zFr_t (zFr_t (zFr_wA ly (by omega) (by omega)) (zFr_wA hd (by omega) (by omega))) (zFr_wA sz (by omega) (by omega))) (zFr_sI 4 mk (by omega) (by omega))
theorem zFr_Wa {lo hi w : Nat} {σ : zH} (li ro : Nat → Int64) (tk sl : Nat → Int32) (sz : Int32) (h1 : lo ≤ w) (h2 : w + 5 ≤ hi) : zFr lo hi σ (zWa σ w li ro tk sl sz) := by
  unfold zWa
  exact zFr_t (zFr_t (zFr_t (zFr_t (zFr_wB li (by omega) (by omega)) (zFr_wB ro (by omega) (by omega))) (zFr_wA tk (by omega) (by omega))) (zFr_wA sl (by omega) (by omega))) (zFr_sI 4 sz (by omega) (by omega))
/-- an object's cells stay -/
theorem zFr_o {lo hi : Nat} {σ τ : zH} (h : zFr lo hi σ τ) {a : Nat} (ha : a < lo ∨ hi ≤ a) : zI τ a = zI σ a ∧ zJ τ a = zJ σ a ∧ zQ τ a = zQ σ a ∧ zA τ a = zA σ a ∧ zB τ a = zB σ a ∧ zS τ a = zS σ a := h.2.2.2.2 a ha
/-- a table with its piles; a Ways with what it holds -/
def zTc (σ : zH) (t : Nat) (P : Nat → List Nat) (mk : Nat) : Prop := zTb σ t ∧ zTR (zA σ (t + 1)) (zA σ (t + 3)) P ∧ zI σ t 4 = nI mk
def zWc (σ : zH) (w : Nat) (L : List (Nat × Nat)) : Prop := zWb σ w ∧ zWR (zB σ (w + 1)) (zB σ (w + 2)) (zA σ (w + 3)) (zA σ (w + 4)) (zI σ w 4) L
theorem zTb_fr {lo hi : Nat} {σ τ : zH} (h : zFr lo hi σ τ) {t : Nat} (ht : t + 4 ≤ lo ∨ hi ≤ t) (hT : zTb σ t) : zTb τ t := by
  obtain ⟨h1, -, h3, -, -, -⟩ := zFr_o h (a := t) (by omega)
  unfold zTb at *
  rw [h.1, h.2.1, h3]
  exact hT
theorem zTc_fr {lo hi : Nat} {σ τ : zH} (h : zFr lo hi σ τ) {t : Nat} {P : Nat → List Nat} {mk : Nat} (ht : t + 4 ≤ lo ∨ hi ≤ t) (hT : zTc σ t P mk) : zTc τ t P mk := by
  refine ⟨zTb_fr h ht hT.1, ?_, ?_⟩
  · rw [(zFr_o h (a := t + 1) (by omega)).2.2.2.1, (zFr_o h (a := t + 3) (by omega)).2.2.2.1]
    exact hT.2.1
  · rw [(zFr_o h (a := t) (by omega)).1]
    exact hT.2.2
theorem zWc_fr {lo hi : Nat} {σ τ : zH} (h : zFr lo hi σ τ) {w : Nat} {L : List (Nat × Nat)} (ht : w + 5 ≤ lo ∨ hi ≤ w) (hT : zWc σ w L) : zWc τ w L := by
  refine ⟨?_, ?_⟩
  · have h3 := (zFr_o h (a := w) (by omega)).2.2.1
    have := hT.1
    unfold zWb at *
    rw [h.1, h.2.1, h3]
    exact this
  · rw [(zFr_o h (a := w + 1) (by omega)).2.2.2.2.1, (zFr_o h (a := w + 2) (by omega)).2.2.2.2.1, (zFr_o h (a := w + 3) (by omega)).2.2.2.1, (zFr_o h (a := w + 4) (by omega)).2.2.2.1, (zFr_o h (a := w) (by omega)).1]
    exact hT.2
theorem zDk_fr {lo hi : Nat} {σ τ : zH} (h : zFr lo hi σ τ) {D : zDT} {n : Nat} (h8 : 8 < lo) (hD : zDk σ D n) : zDk τ D n := by
  unfold zDk at *
  rw [h.1, h.2.1, (zFr_o h (a := 4) (by omega)).2.2.1, (zFr_o h (a := 4) (by omega)).1, (zFr_o h (a := 5) (by omega)).2.2.2.1, (zFr_o h (a := 6) (by omega)).2.2.2.1, (zFr_o h (a := 7) (by omega)).2.2.2.1]
  exact hD
theorem zSr_fr {lo hi : Nat} {σ τ : zH} (h : zFr lo hi σ τ) {s w p q g h0 : Nat} (hs : s < lo ∨ hi ≤ s) (hS : zSr σ s w p q g h0) : zSr τ s w p q g h0 := by
  unfold zSr at *
  rw [h.1, (zFr_o h hs).1]
  exact hS
theorem zCo_fr {lo hi : Nat} {σ τ : zH} (h : zFr lo hi σ τ) {o : Nat} (hs : o + 4 ≤ lo ∨ hi ≤ o) (hO : zCo σ o) : zCo τ o := by
  unfold zCo at *
  rw [h.1, h.2.1, (zFr_o h (a := o) (by omega)).2.2.1]
  exact hO
theorem zCls_fr {lo hi : Nat} {σ τ : zH} (h : zFr lo hi σ τ) {o : Nat} (hs : o + 4 ≤ lo ∨ hi ≤ o) : ∀ {cs : List zCd} {i : Nat}, zCls σ o i cs → zCls τ o i cs
  | [], _, _ => trivial
  | c :: cs, i, hC => by
    refine ⟨?_, zCls_fr h hs hC.2⟩
    have := hC.1
    unfold zCc at *
    rw [(zFr_o h (a := o + 1) (by omega)).2.2.2.1, (zFr_o h (a := o + 2) (by omega)).2.2.2.1, (zFr_o h (a := o + 3) (by omega)).2.2.2.1]
    exact this
/-- how the piles lie, and what the cards are -/
def zVP (n : Nat) (P : Nat → List Nat) (mk : Nat) : Prop := zTot P = n ∧ n ≤ 9 ∧ (∀ p < 4, ∀ c ∈ P p, zco c) ∧ mk ≤ 9
theorem zVP_32 {n : Nat} {P : Nat → List Nat} {mk : Nat} (h : zVP n P mk) : ∀ p < 4, ∀ c ∈ P p, c < 32 := fun p hp c hc => (zco_0 (h.2.2.1 p hp c hc)).2
theorem zVP_9 {n : Nat} {P : Nat → List Nat} {mk : Nat} (h : zVP n P mk) : ∀ p < 4, (P p).length ≤ 9 := fun p hp => Nat.le_trans (zTot_le hp) (by have := h.1; have := h.2.1; omega)
/-! the table's methods once more, with frames -/
theorem p_lay {d t n mk : Nat} {σ : zH} {D : zDT} (hT : zTb σ t) (hD : zDk σ D n) (ht : 8 < t) {P : Nat → List Nat} (hV : zVP n P mk) {Q : Option Value → zH → Prop} (hQ : ∀ τ, zFr t (t + 4) σ τ → zTc τ t P mk → Q none τ) : zM d 59 [.ref t, .long (lN (zkey P mk))] σ Q := by
  have h := e_lay (d := d) (ly := zA σ (t + 1)) (hd := zA σ (t + 2)) (sz := zA σ (t + 3)) (mk0 := zI σ t 4) (mk := mk) (Q := Q) hT hD.1 (by omega) hD.2.2.2.2.2.2.2.2.2.2.2.2.2.1 hV.1 hV.2.1 (zVP_32 hV) (by have := hV.2.2.2; omega) (fun ly' sz' hR => hQ _ (zFr_Ta _ _ _ _ (by omega) (by omega)) ⟨zTa_b hT, by rw [(zTa_r σ t ly' _ sz' (nI mk)).1, (zTa_r σ t ly' _ sz' (nI mk)).2.2.1]; exact hR, (zTa_r σ t ly' _ sz' (nI mk)).2.2.2⟩)
  rw [zTa_self] at h
  exact h
theorem p_packed {d t n mk : Nat} {σ : zH} {P : Nat → List Nat} (hT : zTc σ t P mk) (hV : zVP n P mk) {Q : Option Value → zH → Prop} (hQ : Q (some (.long (lN (zkey P mk)))) σ) : zM d 60 [.ref t] σ Q := by
  have e : zTa σ t (zA σ (t + 1)) (zA σ (t + 2)) (zA σ (t + 3)) (nI mk) = σ := by rw [← hT.2.2]; exact zTa_self σ t
  have h := e_packed (d := d) (hd := zA σ (t + 2)) (mk := mk) (Q := Q) hT.1 hT.2.1 (by have := hV.1; have := hV.2.1; omega) (zVP_32 hV) (by have := hV.2.2.2; omega)
  rw [e] at h
  exact h hQ
theorem p_choicesAt {d t s w p q g h mk : Nat} {σ : zH} {P : Nat → List Nat} (hT : zTc σ t P mk) (hst : s ≠ t) (hS : zSr σ s w p q g h) (hw : zSw w p q g h) (ht : zTot P ≤ 9) {Q : Option Value → zH → Prop} (hQ : Q (some (.int (nI (zasks w p q P)))) σ) : zM (d + 1) 67 [.ref t, .ref s] σ Q := by
  have e : zTa σ t (zA σ (t + 1)) (zA σ (t + 2)) (zA σ (t + 3)) (zI σ t 4) = σ := zTa_self σ t
  have h := e_choicesAt (d := d) (hd := zA σ (t + 2)) (mk := zI σ t 4) (Q := Q) hT.1 hst hS hw hT.2.1 ht
  rw [e] at h
  exact h hQ
theorem p_act {d t s w p q g h c mk : Nat} {σ : zH} {P : Nat → List Nat} (hT : zTc σ t P mk) (hst : s ≠ t) (hS : zSr σ s w p q g h) (hw : zSw w p q g h) (ht : zTot P ≤ 9) (h32 : ∀ p < 4, ∀ c ∈ P p, zco c) (hc : c < 2 ^ 30) (hr : w = 6 → c < zbn (P p).length (P q).length) {Q : Option Value → zH → Prop} (hQ : ∀ τ, zFr t (t + 4) σ τ → zTc τ t (zact w p q g h c P mk).1 (zact w p q g h c P mk).2 → Q none τ) : zM (d + 3) 69 [.ref t, .ref s, .int (nI c)] σ Q := by
  have e : zTa σ t (zA σ (t + 1)) (zA σ (t + 2)) (zA σ (t + 3)) (nI mk) = σ := by rw [← hT.2.2]; exact zTa_self σ t
  have h2 := e_act (d := d) (hd := zA σ (t + 2)) (Q := Q) hT.1 hst hS hw hT.2.1 ht h32 hc hr (mk := mk) (fun ly' hd' sz' hR => hQ _ (zFr_Ta _ _ _ _ (by omega) (by omega)) ⟨zTa_b hT.1, by rw [(zTa_r σ t ly' hd' sz' _).1, (zTa_r σ t ly' hd' sz' _).2.2.1]; exact hR, (zTa_r σ t ly' hd' sz' _).2.2.2⟩)
  rw [e] at h2
  exact h2
theorem p_met {d t n mk o i : Nat} {σ : zH} {D : zDT} {P : Nat → List Nat} (hT : zTc σ t P mk) (ht : 8 < t) (hD : zDk σ D n) (hV : zVP n P mk) (hb : zDb D) {cs : List zCd} (hO : zCo σ o) (ho : o + 3 < t + 1 ∨ t + 3 < o + 1) (hto : i + cs.length ≤ 450) (hC : zCls σ o i cs) (hv : ∀ c ∈ cs, zvc c) (hs : zsafe cs 0) {Q : Option Value → zH → Prop} (hQ : Q (some (.int (nI (zbn1 (ztop (zev (zct D mk P) cs [])))))) σ) : zM (d + 4) 5 [.ref o, .ref t, .int (nI i), .int (nI (i + cs.length))] σ Q := by
  have e : zTa σ t (zA σ (t + 1)) (zA σ (t + 2)) (zA σ (t + 3)) (nI mk) = σ := by rw [← hT.2.2]; exact zTa_self σ t
  have h := e_met (d := d) (hd := zA σ (t + 2)) (mk := mk) (Q := Q) hT.1 ht hD hT.2.1 hV.2.2.1 (by have := hV.2.2.2; omega) hb (zVP_9 hV) hO ho hto hC hv hs
  rw [e] at h
  exact h hQ
theorem p_wput {d w : Nat} {σ : zH} {L : List (Nat × Nat)} (hW : zWc σ w L) {k r : Nat} (hk : k < 2 ^ 63) (hr : r < 2 ^ 63) {Q : Option Value → zH → Prop} (hQ1 : ∀ L', zput L k r = some L' → ∀ τ, zFr w (w + 5) σ τ → zWc τ w L' → Q (some (.int (nI 1))) τ) (hQ0 : zput L k r = none → Q (some (.int (nI 0))) σ) : zM (d + 1) 100 [.ref w, .long (lN k), .long (lN r)] σ Q := by
  have e := zWa_self σ w
  have hb := hW.1
  have h := e_wput (d := d) hW.1 hW.2 hk hr (Q := Q) (fun L' hL li ro tk sl sz hR => hQ1 L' hL _ (zFr_Wa _ _ _ _ _ (by omega) (by omega)) ⟨by unfold zWb at *; simp only [zWa_k]; exact hb, by simp only [zWa_r]; exact hR⟩)
  rw [e] at h
  exact h hQ0
theorem p_wclear {d w : Nat} {σ : zH} {L : List (Nat × Nat)} (hW : zWc σ w L) {Q : Option Value → zH → Prop} (hQ : ∀ τ, zFr w (w + 5) σ τ → zWc τ w [] → Q none τ) : zM d 99 [.ref w] σ Q := by
  have e := zWa_self σ w
  have hb := hW.1
  have h := e_wclear (d := d) hW.1 hW.2 (Q := Q) (fun sl hR => hQ _ (zFr_Wa _ _ _ _ _ (by omega) (by omega)) ⟨by unfold zWb at *; simp only [zWa_k]; exact hb, by simp only [zWa_r]; exact hR⟩)
  rw [e] at h
  exact h
