/-! the reference's plain steps -/
def zAsp (a : Nat) : Prop := 168 ≤ a ∧ a ≤ 175
/-- rows of steps are as they were but at s .. l - 1 -/
def zKp (s l : Nat) (σ τ : zH) : Prop := ∀ a, 168 ≤ a → a ≤ 175 → ∀ i, (i < s ∨ l ≤ i) → zA τ a i = zA σ a i ∧ zB τ a i = zB σ a i
theorem zKp_r (s l : Nat) (σ : zH) : zKp s l σ σ := fun _ _ _ _ _ => ⟨rfl, rfl⟩
theorem zKp_t {s l : Nat} {σ τ υ : zH} (h1 : zKp s l σ τ) (h2 : zKp s l τ υ) : zKp s l σ υ := fun a l1 l2 i hi => ⟨(h2 a l1 l2 i hi).1.trans (h1 a l1 l2 i hi).1, (h2 a l1 l2 i hi).2.trans (h1 a l1 l2 i hi).2⟩
theorem zKp_m {s l s' l' : Nat} {σ τ : zH} (h1 : s' ≤ s) (h2 : l ≤ l') (h : zKp s l σ τ) : zKp s' l' σ τ := fun a l1 l2 i hi => h a l1 l2 i (by omega)
theorem zKp_n {s l : Nat} {J A : Nat → Prop} {σ τ : zH} (h : zFn J A σ τ) (hA : ∀ a, 168 ≤ a → a ≤ 175 → ¬ A a) : zKp s l σ τ := fun a l1 l2 i _ => by
  have := h.2.2.2.2.2.2.2.2.2 a (hA a l1 l2)
  rw [this.1, this.2]
  exact ⟨rfl, rfl⟩
theorem zKp_A {s l a j : Nat} {σ : zH} (v : Int32) (h1 : s ≤ j) (h2 : j < l) : zKp s l σ (zsA σ a j v) := fun b l1 l2 i hi => ⟨by rw [zA_sA, if_neg (by omega)], rfl⟩
theorem zA_e {σ : zH} {a j : Nat} {v : Int32} : zA (zsA σ a j v) a j = v := by rw [zA_sA, if_pos ⟨rfl, rfl⟩]
theorem zA_o {σ : zH} {a b j : Nat} {v : Int32} (h : b ≠ a) : zA (zsA σ a j v) b = zA σ b := by
  funext i
  rw [zA_sA, if_neg (by omega)]
theorem zFn_rt {σ τ : zH} (h : zFn zJr zA0 σ τ) : zFn zJr zAsp σ τ := zFn_m h (fun _ q => q) (fun _ q => q.elim)
theorem zRuc_A {σ : zH} {a j : Nat} (v : Int32) (h : a ≠ 161) {B : List Nat} {R : List zTok} (hx : zRuc σ B R) : zRuc (zsA σ a j v) B R :=
  zRuc_n (J := fun _ => False) (A := fun b => b = a) (zFn_A v rfl) ⟨id, id, id, id, id, id⟩ (fun q => h q.symm) rfl hx
theorem zlg0 {w : Nat} (k : Nat) {v : Nat} (hw : w < 35) (hk : k < 35) (hv : zwdn k = v) : (lg_cmp (lN (zwdn w)) (lN v) = 0) ↔ w = k := by
  rw [← hv]
  exact zlgw k hw hk
def zPfn (B : List Nat) (s w : Nat) (σ0 : zH) (r : zPp) (Q : Option Value → zH → Prop) : Prop := (∀ τ p q g h R', r = .ok ((p, q, g, h), R') → zRuc τ B R' → zRs τ s w p q g h → zFn zJr zAsp σ0 τ → zKp s (s + 1) σ0 τ → Q (some (.int (nI 1))) τ) ∧ (∀ τ e, r = .error e → zFlt τ e → zFn zJr zAsp σ0 τ → zKp s (s + 1) σ0 τ → Q (some (.int (nI 0))) τ)
theorem zAx {σ τ : zH} (h : zFn zJr zA0 σ τ) (a : Nat) : zA τ a = zA σ a ∧ zB τ a = zB σ a := h.2.2.2.2.2.2.2.2.2 a id
/-- the end: a semicolon -/
theorem l_r59 {d s w p q h : Nat} {σ σ0 : zH} {B : List Nat} {R : List zTok} (hR : zRuc σ B R) (hs : s < 96) (hw : w ≤ 10) (hF : zFn zJr zAsp σ0 σ) (hK : zKp s (s + 1) σ0 σ) (f0 : zB σ 168 s = lN (zwdn w)) (f1 : zA σ 169 s = nI p) (f2 : (w = 6 ∨ w = 7 ∨ w = 9) → zA σ 170 s = nI q) (f4 : zA σ 172 s = nI h) {Q : Option Value → zH → Prop} {g : Nat} (f3 : (w = 1 ∨ w = 2 ∨ w = 3 ∨ w = 6 ∨ w = 7 ∨ w = 8) → zA σ 171 s = nI g) (hQ : zPfn B s w σ0 (zfin (p, q, g, h) R) Q) : zM (d + 3) 147 [.ref 160, .int (nI 59)] σ (fun r σ108 => zqi r (fun x109 => (x109 = 0 ∨ x109 = 1) ∧ Q (some (.int x109)) σ108)) := by
  refine p_rmust hR 41 (by omega) (by decide) (fun τ R' y1 y2 y3 => ?_) (fun τ e y1 y2 y3 => ?_)
  · rw [zqi_s]
    refine ⟨Or.inr rfl, hQ.1 τ p q g h R' ?_ y2 ⟨?_, ?_, fun c => ?_, fun c => ?_, ?_⟩ (zFn_t hF (zFn_rt y3)) (zKp_t hK (zKp_n y3 (fun _ _ _ q => q)))⟩
    · unfold zfin
      rw [y1]
    · rw [(zAx y3 168).2]; exact f0
    · rw [(zAx y3 169).1]; exact f1
    · rw [(zAx y3 170).1]; exact f2 c
    · rw [(zAx y3 171).1]; exact f3 c
    · rw [(zAx y3 172).1]; exact f4
  · rw [zqi_s]
    refine ⟨Or.inl rfl, hQ.2 τ e ?_ y2 (zFn_t hF (zFn_rt y3)) (zKp_t hK (zKp_n y3 (fun _ _ _ q => q)))⟩
    unfold zfin
    rw [y1]
theorem l_r520 {d s w p q h : Nat} {σ σ0 : zH} {B : List Nat} {R : List zTok} (hR : zRuc σ B R) (hs : s < 96) (hw : w ≤ 10) (hF : zFn zJr zAsp σ0 σ) (hK : zKp s (s + 1) σ0 σ) (f0 : zB σ 168 s = lN (zwdn w)) (f1 : zA σ 169 s = nI p) (f2 : (w = 6 ∨ w = 7 ∨ w = 9) → zA σ 170 s = nI q) (f4 : zA σ 172 s = nI h) {Q : Option Value → zH → Prop} {g : Nat} (hg : zI σ 160 19 = nI g) (hQ : zPfn B s w σ0 (zfin (p, q, g, h) R) Q) : zW (d + 4) 155 520 [(0, .ref 160), (2, .int (nI s))] [] σ Q := by
  have ⟨mK0, mQ1, mK1, mN1, mQ6, mK6, mN6, mQ7, mK7, mN7, mQ8, mK8, mN8, mQ9, mK9, mN9, mQ10, mK10, mN10, mQ11, mK11, mN11, mQ21, mK21, mN21, mQ22, mK22, mN22, mQ23, mK23, mN23, mQ24, mK24, mN24, mQ25, mK25, mN25, mQ26, mK26, mN26, mQ27, mK27, mN27, mQ28, mK28, mN28, mQ32, mK32, mN32, mQ33, mK33, mN33, mQ34, mK34, mN34, mQ35, mK35, mN35, mQ40, mK40, mN40, mQ41, mK41, mN41, mQ42, mK42, mN42, mQ43, mK43, mN43, mQ44, mK44, mN44, mQ45, mK45, mN45, mQ62, mK62, mN62⟩ := hR.1.1
  refine b155_520 ?_
  rw [mQ24, mK24, mN24, hg, zcl s (by omega)]
  refine ⟨mK0, rfl, vp_in_nI (by omega) (by omega), ?_⟩
  refine l_r59 (w := w) (zRuc_A _ (by omega) hR) hs hw (zFn_t hF (zFn_A _ (by unfold zAsp; omega))) (zKp_t hK (zKp_A _ (Nat.le_refl _) (by omega))) f0 ?_ (fun c => ?_) ?_ (fun _ => zA_e) hQ
  · rw [zA_o (by omega)]; exact f1
  · rw [zA_o (by omega)]; exact f2 c
  · rw [zA_o (by omega)]; exact f4
theorem zrd4_e {w p : Nat} {R : List zTok} (hw : (w = 1 ∨ w = 2 ∨ w = 3 ∨ w = 8 ∨ w = 6 ∨ w = 7)) : zrd4 w p R = ztgt (if w = 6 ∨ w = 7 then 9 else p) R := by
  unfold zrd4
  by_cases h : w = 6 ∨ w = 7
  · rw [if_neg (by omega), if_pos h, if_pos h]
  · rw [if_pos (by omega), if_neg h]
set_option maxHeartbeats 1000000 in
theorem l_r456 {d s w p q h : Nat} {σ σ0 : zH} {B : List Nat} {R : List zTok} (hR : zRuc σ B R) (hs : s < 96) (hw : w ≤ 10) (hF : zFn zJr zAsp σ0 σ) (hK : zKp s (s + 1) σ0 σ) (f0 : zB σ 168 s = lN (zwdn w)) (f1 : zA σ 169 s = nI p) (f2 : (w = 6 ∨ w = 7 ∨ w = 9) → zA σ 170 s = nI q) (f4 : zA σ 172 s = nI h) {Q : Option Value → zH → Prop} (hp : p < 4) (h4 : (w = 1 ∨ w = 2 ∨ w = 3 ∨ w = 8 ∨ w = 6 ∨ w = 7)) (hQ : zPfn B s w σ0 (zSqt (zrd4 w p R) (fun g R4 => zfin (p, q, g, h) R4)) Q) : zW (d + 4) 155 456 [(0, .ref 160), (2, .int (nI s)), (3, .long (lN (zwdn w)))] [] σ Q := by
  rw [zrd4_e h4] at hQ
  have l6 := zlg0 (w := w) 6 (v := 125797015120997) (by omega) (by decide) (by decide)
  have l7 := zlg0 (w := w) 7 (v := 1717662319) (by omega) (by decide) (by decide)
  refine b155_456 ⟨zRuc_k hR, p_rmustw hR 14 (by omega) (by decide) (fun τ R' y1 y2 y3 => ?_) (fun τ e y1 y2 y3 => ?_)⟩
  · rw [zqi_s, if_pos (by decide)]
    have e1 : ∀ fb, ztgt fb R = zpile fb R' := fun fb => by unfold ztgt; rw [y1]
    refine ⟨zRuc_k y2, p_rpile y2 (fun υ p1 p2 u1 u2 u3 => ?_) (fun υ p1 u1 u2 => ?_)⟩
    · rw [zqi_s, if_pos (by decide)]
      have F2 := zFn_t y3 u3
      have go : zpile (if w = 6 ∨ w = 7 then 9 else p) R' = .ok ((zhdt R').1 - 17, zgn R') → zW (d + 4) 155 520 [(0, .ref 160), (2, .int (nI s))] [] υ Q := by
        intro hz
        rw [e1, hz] at hQ
        exact l_r520 (w := w) (p := p) (q := q) (h := h) u1 hs hw (zFn_t hF (zFn_rt F2)) (zKp_t hK (zKp_n F2 (fun _ _ _ q => q))) (by rw [(zAx F2 168).2]; exact f0) (by rw [(zAx F2 169).1]; exact f1) (fun c => by rw [(zAx F2 170).1]; exact f2 c) (by rw [(zAx F2 172).1]; exact f4) u2 hQ
      by_cases c6 : w = 6
      · rw [if_pos (l6.mpr c6)]
        exact go (by rw [if_pos (Or.inl c6)]; exact zpile_e p1 p2)
      · rw [if_neg (fun q => c6 (l6.mp q))]
        by_cases c7 : w = 7
        · rw [if_pos (l7.mpr c7)]
          exact go (by rw [if_pos (Or.inr c7)]; exact zpile_e p1 p2)
        · rw [if_neg (fun q => c7 (l7.mp q))]
          have ⟨mK0, mQ1, mK1, mN1, mQ6, mK6, mN6, mQ7, mK7, mN7, mQ8, mK8, mN8, mQ9, mK9, mN9, mQ10, mK10, mN10, mQ11, mK11, mN11, mQ21, mK21, mN21, mQ22, mK22, mN22, mQ23, mK23, mN23, mQ24, mK24, mN24, mQ25, mK25, mN25, mQ26, mK26, mN26, mQ27, mK27, mN27, mQ28, mK28, mN28, mQ32, mK32, mN32, mQ33, mK33, mN33, mQ34, mK34, mN34, mQ35, mK35, mN35, mQ40, mK40, mN40, mQ41, mK41, mN41, mQ42, mK42, mN42, mQ43, mK43, mN43, mQ44, mK44, mN44, mQ45, mK45, mN45, mQ62, mK62, mN62⟩ := u1.1.1
          rw [mQ22, mK22, mN22, zcl s (by omega), u2, (zAx F2 169).1, f1, zRuc_14 y2]
          refine ⟨mK0, rfl, vp_in_nI (by omega) (by omega), ?_⟩
          by_cases cp : (zhdt R').1 - 17 = p
          · rw [if_neg (by rw [cp]; exact fun q => q rfl)]
            refine p_rwrong mK0 (fun ω v1 v2 => ?_)
            rw [zqi_s]
            have F3 := zFn_t F2 v2
            refine ⟨Or.inl rfl, hQ.2 ω _ ?_ v1 (zFn_t hF (zFn_rt F3)) (zKp_t hK (zKp_n F3 (fun _ _ _ q => q)))⟩
            rw [e1, if_neg (by omega)]
            unfold zpile zflt
            rw [if_pos ⟨p1, p2⟩, if_pos cp, if_neg (by omega)]
            rfl
          · rw [if_pos (by rw [nI_eq (by omega) (by omega)]; exact cp)]
            refine go ?_
            rw [if_neg (by omega)]
            unfold zpile
            rw [if_pos ⟨p1, p2⟩, if_neg cp]
    · rw [zqi_s, if_neg (by decide)]
      have F2 := zFn_t y3 u2
      refine hQ.2 υ _ ?_ u1 (zFn_t hF (zFn_rt F2)) (zKp_t hK (zKp_n F2 (fun _ _ _ q => q)))
      rw [e1, zpile_n p1]
      rfl
  · rw [zqi_s, if_neg (by decide)]
    refine hQ.2 τ e ?_ y2 (zFn_t hF (zFn_rt y3)) (zKp_t hK (zKp_n y3 (fun _ _ _ q => q)))
    unfold ztgt
    rw [y1]
    rfl
theorem l_r408 {d s w p q h : Nat} {σ σ0 : zH} {B : List Nat} {R : List zTok} (hR : zRuc σ B R) (hs : s < 96) (hw : w ≤ 10) (hF : zFn zJr zAsp σ0 σ) (hK : zKp s (s + 1) σ0 σ) (f0 : zB σ 168 s = lN (zwdn w)) (f1 : zA σ 169 s = nI p) (f2 : (w = 6 ∨ w = 7 ∨ w = 9) → zA σ 170 s = nI q) (f4 : zA σ 172 s = nI h) {Q : Option Value → zH → Prop} (hp : p < 4) (hQ : zPfn B s w σ0 (zSqt (zrd4 w p R) (fun g R4 => zfin (p, q, g, h) R4)) Q) : zW (d + 4) 155 408 [(0, .ref 160), (2, .int (nI s)), (3, .long (lN (zwdn w)))] [] σ Q := by
  have l1 := zlg0 (w := w) 1 (v := 1684365676) (by omega) (by decide) (by decide)
  have l2 := zlg0 (w := w) 2 (v := 1836021349) (by omega) (by decide) (by decide)
  have l3 := zlg0 (w := w) 3 (v := 1952541541) (by omega) (by decide) (by decide)
  have l8 := zlg0 (w := w) 8 (v := 1685026670) (by omega) (by decide) (by decide)
  have l6 := zlg0 (w := w) 6 (v := 125797015120997) (by omega) (by decide) (by decide)
  have l7 := zlg0 (w := w) 7 (v := 1717662319) (by omega) (by decide) (by decide)
  have go : (w = 1 ∨ w = 2 ∨ w = 3 ∨ w = 8 ∨ w = 6 ∨ w = 7) → zW (d + 4) 155 456 [(0, .ref 160), (2, .int (nI s)), (3, .long (lN (zwdn w)))] [] σ Q := fun c => l_r456 hR hs hw hF hK f0 f1 f2 f4 hp c hQ
  refine b155_408 ?_
  by_cases c1 : w = 1
  · rw [if_pos (l1.mpr c1)]; exact go (by omega)
  rw [if_neg (fun q => c1 (l1.mp q))]
  by_cases c2 : w = 2
  · rw [if_pos (l2.mpr c2)]; exact go (by omega)
  rw [if_neg (fun q => c2 (l2.mp q))]
  by_cases c3 : w = 3
  · rw [if_pos (l3.mpr c3)]; exact go (by omega)
  rw [if_neg (fun q => c3 (l3.mp q))]
  by_cases c8 : w = 8
  · rw [if_pos (l8.mpr c8)]; exact go (by omega)
  rw [if_neg (fun q => c8 (l8.mp q))]
  by_cases c6 : w = 6
  · rw [if_pos (l6.mpr c6)]; exact go (by omega)
  rw [if_neg (fun q => c6 (l6.mp q))]
  by_cases c7 : w = 7
  · rw [if_neg (fun q => q (l7.mpr c7))]; exact go (by omega)
  rw [if_pos (fun q => c7 (l7.mp q))]
  have e : zrd4 w p R = .ok (0, R) := by
    unfold zrd4
    rw [if_neg (by omega), if_neg (by omega)]
  rw [e] at hQ
  exact ⟨zRuc_k hR, l_r59 hR hs hw hF hK f0 f1 f2 f4 (g := 0) (fun c => by omega) hQ⟩
