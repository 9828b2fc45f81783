/-! the reference's plain steps, on -/
def zS4 (w p q h : Nat) (R : List zTok) : zPp := zSqt (zrd4 w p R) (fun g R4 => zfin (p, q, g, h) R4)
def zS3 (w p q : Nat) (R : List zTok) : zPp := zSqt (zrd3 w R) (fun h R3 => zS4 w p q h R3)
theorem l_r337a {d s w p q : Nat} {σ σ0 : zH} {B : List Nat} {R : List zTok} (hR : zRuc σ B R) (hs : s < 96) (hw : w ≤ 10) (hF : zFn zJr zAsp σ0 σ) (hK : zKp s (s + 1) σ0 σ) (f0 : zB σ 168 s = lN (zwdn w)) (f1 : zA σ 169 s = nI p) (f2 : (w = 6 ∨ w = 7 ∨ w = 9) → zA σ 170 s = nI q) {Q : Option Value → zH → Prop} {h : Nat} (f4 : zA σ 172 s = nI h) (hp : p < 4) (h3 : ¬ (w = 3 ∨ w = 5 ∨ w = 10)) (hQ : zPfn B s w σ0 (zS4 w p q h R) Q) : zW (d + 4) 155 337 [(0, .ref 160), (2, .int (nI s)), (3, .long (lN (zwdn w)))] [] σ Q := by
  have l3 := zlg0 (w := w) 3 (v := 1952541541) (by omega) (by decide) (by decide)
  have l5 := zlg0 (w := w) 5 (v := 1718380912) (by omega) (by decide) (by decide)
  have l10 := zlg0 (w := w) 10 (v := 1835102827) (by omega) (by decide) (by decide)
  refine b155_337 ?_
  rw [if_neg (fun q => h3 (Or.inl (l3.mp q))), if_neg (fun q => h3 (Or.inr (Or.inl (l5.mp q)))), if_pos (fun q => h3 (Or.inr (Or.inr (l10.mp q))))]
  exact l_r408 hR hs hw hF hK f0 f1 f2 f4 hp hQ
set_option maxHeartbeats 1000000 in
theorem l_r361 {d s w p q : Nat} {σ σ0 : zH} {B : List Nat} {R : List zTok} (hR : zRuc σ B R) (hs : s < 96) (hw : w ≤ 10) (hF : zFn zJr zAsp σ0 σ) (hK : zKp s (s + 1) σ0 σ) (f0 : zB σ 168 s = lN (zwdn w)) (f1 : zA σ 169 s = nI p) (f2 : (w = 6 ∨ w = 7 ∨ w = 9) → zA σ 170 s = nI q) {Q : Option Value → zH → Prop} (hp : p < 4) (h3 : w = 3 ∨ w = 5 ∨ w = 10) (hQ : zPfn B s w σ0 (zS3 w p q R) Q) : zW (d + 4) 155 361 [(0, .ref 160), (2, .int (nI s)), (3, .long (lN (zwdn w)))] [] σ Q := by
  have e3 : zrd3 w R = zfon 1 R := by
    unfold zrd3
    rw [if_neg (by omega), if_pos h3]
  unfold zS3 at hQ
  rw [e3] at hQ
  have ⟨mK0, mQ1, mK1, mN1, mQ6, mK6, mN6, mQ7, mK7, mN7, mQ8, mK8, mN8, mQ9, mK9, mN9, mQ10, mK10, mN10, mQ11, mK11, mN11, mQ21, mK21, mN21, mQ22, mK22, mN22, mQ23, mK23, mN23, mQ24, mK24, mN24, mQ25, mK25, mN25, mQ26, mK26, mN26, mQ27, mK27, mN27, mQ28, mK28, mN28, mQ32, mK32, mN32, mQ33, mK33, mN33, mQ34, mK34, mN34, mQ35, mK35, mN35, mQ40, mK40, mN40, mQ41, mK41, mN41, mQ42, mK42, mN42, mQ43, mK43, mN43, mQ44, mK44, mN44, mQ45, mK45, mN45, mQ62, mK62, mN62⟩ := hR.1.1
  refine b155_361 ⟨zRuc_k hR, p_isw hR 16 (by omega) (by decide) (fun k => ?_) (fun k => ?_)⟩
  · rw [zqi_s, if_neg (by decide), mQ25, mK25, mN25, zcl s (by omega)]
    refine ⟨mK0, rfl, vp_in_nI (by omega) (by omega), ?_⟩
    refine p_rgo (zRuc_A _ (by omega) hR) (fun τ g1 g2 => ?_)
    rw [zqv_s]
    have F1 := zFn_gr g2
    have e : zfon 1 R = .ok (11, zgn R) := by unfold zfon; rw [if_pos k]
    rw [e] at hQ
    exact l_r408 (h := 11) g1 hs hw (zFn_t (zFn_t hF (zFn_A _ (by unfold zAsp; omega))) (zFn_rt F1)) (zKp_t (zKp_t hK (zKp_A _ (Nat.le_refl _) (by omega))) (zKp_n F1 (fun _ _ _ q => q))) (by rw [(zAx F1 168).2]; exact f0) (by rw [(zAx F1 169).1, zA_o (by omega)]; exact f1) (fun c => by rw [(zAx F1 170).1, zA_o (by omega)]; exact f2 c) (by rw [(zAx F1 172).1, zA_e]) hp hQ
  · rw [zqi_s, if_pos (by decide)]
    have e : zfon 1 R = znum 1 9 R := by unfold zfon; rw [if_neg k]
    rw [e] at hQ
    refine ⟨zRuc_k hR, p_rnum hR (by omega) (by omega) (fun τ v R' y1 y2 y3 y3' y4 => ?_) (fun τ e y1 y2 y3 => ?_)⟩
    · rw [y1] at hQ
      have m2 := zMb_n y4 hR.1.1
      rw [zqi_s, if_pos (by decide), y4.2.2.1, y4.1, y4.2.1, mQ25, mK25, mN25, zcl s (by omega), y3]
      refine ⟨mK0, rfl, vp_in_nI (by omega) (by omega), ?_⟩
      exact l_r408 (h := v) (zRuc_A _ (by omega) y2) hs hw (zFn_t (zFn_t hF (zFn_rt y4)) (zFn_A _ (by unfold zAsp; omega))) (zKp_t (zKp_t hK (zKp_n y4 (fun _ _ _ q => q))) (zKp_A _ (Nat.le_refl _) (by omega))) (by show zB τ 168 s = _; rw [(zAx y4 168).2]; exact f0) (by rw [zA_o (by omega), (zAx y4 169).1]; exact f1) (fun c => by rw [zA_o (by omega), (zAx y4 170).1]; exact f2 c) zA_e hp hQ
    · rw [y1] at hQ
      rw [zqi_s, if_neg (by decide)]
      exact hQ.2 τ e rfl y2 (zFn_t hF (zFn_rt y3)) (zKp_t hK (zKp_n y3 (fun _ _ _ q => q)))
theorem l_r337b {d s w p q : Nat} {σ σ0 : zH} {B : List Nat} {R : List zTok} (hR : zRuc σ B R) (hs : s < 96) (hw : w ≤ 10) (hF : zFn zJr zAsp σ0 σ) (hK : zKp s (s + 1) σ0 σ) (f0 : zB σ 168 s = lN (zwdn w)) (f1 : zA σ 169 s = nI p) (f2 : (w = 6 ∨ w = 7 ∨ w = 9) → zA σ 170 s = nI q) {Q : Option Value → zH → Prop} (hp : p < 4) (h3 : w = 3 ∨ w = 5 ∨ w = 10) (hQ : zPfn B s w σ0 (zS3 w p q R) Q) : zW (d + 4) 155 337 [(0, .ref 160), (2, .int (nI s)), (3, .long (lN (zwdn w)))] [] σ Q := by
  have l3 := zlg0 (w := w) 3 (v := 1952541541) (by omega) (by decide) (by decide)
  have l5 := zlg0 (w := w) 5 (v := 1718380912) (by omega) (by decide) (by decide)
  have l10 := zlg0 (w := w) 10 (v := 1835102827) (by omega) (by decide) (by decide)
  have go := l_r361 (d := d) hR hs hw hF hK f0 f1 f2 hp h3 hQ
  refine b155_337 ?_
  by_cases c3 : w = 3
  · rw [if_pos (l3.mpr c3)]; exact go
  rw [if_neg (fun q => c3 (l3.mp q))]
  by_cases c5 : w = 5
  · rw [if_pos (l5.mpr c5)]; exact go
  rw [if_neg (fun q => c5 (l5.mp q)), if_neg (fun q => q (l10.mpr (by omega)))]
  exact go
set_option maxHeartbeats 1000000 in
theorem l_r265 {d s w p q : Nat} {σ σ0 : zH} {B : List Nat} {R : List zTok} (hR : zRuc σ B R) (hs : s < 96) (hw : w ≤ 10) (hF : zFn zJr zAsp σ0 σ) (hK : zKp s (s + 1) σ0 σ) (f0 : zB σ 168 s = lN (zwdn w)) (f1 : zA σ 169 s = nI p) (f2 : (w = 6 ∨ w = 7 ∨ w = 9) → zA σ 170 s = nI q) {Q : Option Value → zH → Prop} (hp : p < 4) (h3 : w = 0 ∨ w = 1 ∨ w = 2 ∨ w = 4) (hQ : zPfn B s w σ0 (zS3 w p q R) Q) : zW (d + 4) 155 265 [(0, .ref 160), (2, .int (nI s)), (3, .long (lN (zwdn w)))] [] σ Q := by
  have e3 : zrd3 w R = zman R := by
    unfold zrd3
    rw [if_pos h3]
  unfold zS3 at hQ
  rw [e3] at hQ
  have ⟨mK0, mQ1, mK1, mN1, mQ6, mK6, mN6, mQ7, mK7, mN7, mQ8, mK8, mN8, mQ9, mK9, mN9, mQ10, mK10, mN10, mQ11, mK11, mN11, mQ21, mK21, mN21, mQ22, mK22, mN22, mQ23, mK23, mN23, mQ24, mK24, mN24, mQ25, mK25, mN25, mQ26, mK26, mN26, mQ27, mK27, mN27, mQ28, mK28, mN28, mQ32, mK32, mN32, mQ33, mK33, mN33, mQ34, mK34, mN34, mQ35, mK35, mN35, mQ40, mK40, mN40, mQ41, mK41, mN41, mQ42, mK42, mN42, mQ43, mK43, mN43, mQ44, mK44, mN44, mQ45, mK45, mN45, mQ62, mK62, mN62⟩ := hR.1.1
  have go : ∀ h, (zhdt R).1 = 15 ∧ h = 10 ∨ (zhdt R).1 = 16 ∧ h = 11 → zPfn B s w σ0 (zS4 w p q h (zgn R)) Q → zW (d + 4) 155 285 [(0, .ref 160), (2, .int (nI s)), (3, .long (lN (zwdn w)))] [] σ Q := by
    intro h hk hQ2
    have X : ∀ x : Int32, (if x = 0 then nI 11 else nI 10) = nI h → zM (d + 3) 142 [.ref 160] (zsA σ 172 s (if x = 0 then nI 11 else nI 10)) (fun r σ108 => zqv r (zW (d + 4) 155 337 [(0, .ref 160), (2, .int (nI s)), (3, .long (lN (zwdn w)))] [] σ108 Q)) := by
      intro x hx
      rw [hx]
      refine p_rgo (zRuc_A _ (by omega) hR) (fun τ g1 g2 => ?_)
      rw [zqv_s]
      have F1 := zFn_gr g2
      exact l_r337a (h := h) g1 hs hw (zFn_t (zFn_t hF (zFn_A _ (by unfold zAsp; omega))) (zFn_rt F1)) (zKp_t (zKp_t hK (zKp_A _ (Nat.le_refl _) (by omega))) (zKp_n F1 (fun _ _ _ q => q))) (by rw [(zAx F1 168).2]; exact f0) (by rw [(zAx F1 169).1, zA_o (by omega)]; exact f1) (fun c => by rw [(zAx F1 170).1, zA_o (by omega)]; exact f2 c) (by rw [(zAx F1 172).1, zA_e]) hp (by omega) hQ2
    refine b155_285 ⟨zRuc_k hR, p_isw hR 15 (by omega) (by decide) (fun k => ?_) (fun k => ?_)⟩
    · rw [zqi_s, mQ25, mK25, mN25, zcl s (by omega)]
      refine ⟨rfl, vp_in_nI (by omega) (by omega), mK0, X (nI 1) ?_⟩
      rw [if_neg (by decide)]
      congr 1
      omega
    · rw [zqi_s, mQ25, mK25, mN25, zcl s (by omega)]
      refine ⟨rfl, vp_in_nI (by omega) (by omega), mK0, X (nI 0) ?_⟩
      rw [if_pos (by decide)]
      congr 1
      omega
  refine b155_265 ⟨zRuc_k hR, p_isw hR 15 (by omega) (by decide) (fun k => ?_) (fun k => ?_)⟩
  · rw [zqi_s, if_pos (by decide)]
    have e : zman R = .ok (10, zgn R) := by unfold zman; rw [if_pos k]
    rw [e] at hQ
    exact go 10 (Or.inl ⟨k, rfl⟩) hQ
  · rw [zqi_s, if_neg (by decide)]
    refine ⟨zRuc_k hR, p_isw hR 16 (by omega) (by decide) (fun k2 => ?_) (fun k2 => ?_)⟩
    · rw [zqi_s, if_neg (by decide)]
      have e : zman R = .ok (11, zgn R) := by unfold zman zfon; rw [if_neg k, if_pos k2]
      rw [e] at hQ
      exact go 11 (Or.inr ⟨k2, rfl⟩) hQ
    · rw [zqi_s, if_pos (by decide)]
      have e : zman R = znum 0 9 R := by unfold zman zfon; rw [if_neg k, if_neg k2]
      rw [e] at hQ
      refine ⟨zRuc_k hR, p_rnum hR (by omega) (by omega) (fun τ v R' y1 y2 y3 y3' y4 => ?_) (fun τ e y1 y2 y3 => ?_)⟩
      · rw [y1] at hQ
        rw [zqi_s, if_pos (by decide), y4.2.2.1, y4.1, y4.2.1, mQ25, mK25, mN25, zcl s (by omega), y3]
        refine ⟨mK0, rfl, vp_in_nI (by omega) (by omega), ?_⟩
        exact l_r337a (h := v) (zRuc_A _ (by omega) y2) hs hw (zFn_t (zFn_t hF (zFn_rt y4)) (zFn_A _ (by unfold zAsp; omega))) (zKp_t (zKp_t hK (zKp_n y4 (fun _ _ _ q => q))) (zKp_A _ (Nat.le_refl _) (by omega))) (by show zB τ 168 s = _; rw [(zAx y4 168).2]; exact f0) (by rw [zA_o (by omega), (zAx y4 169).1]; exact f1) (fun c => by rw [zA_o (by omega), (zAx y4 170).1]; exact f2 c) zA_e hp (by omega) hQ
      · rw [y1] at hQ
        rw [zqi_s, if_neg (by decide)]
        exact hQ.2 τ e rfl y2 (zFn_t hF (zFn_rt y3)) (zKp_t hK (zKp_n y3 (fun _ _ _ q => q)))
theorem l_r233 {d s w p q : Nat} {σ σ0 : zH} {B : List Nat} {R : List zTok} (hR : zRuc σ B R) (hs : s < 96) (hw : w ≤ 10) (hF : zFn zJr zAsp σ0 σ) (hK : zKp s (s + 1) σ0 σ) (f0 : zB σ 168 s = lN (zwdn w)) (f1 : zA σ 169 s = nI p) (f2 : (w = 6 ∨ w = 7 ∨ w = 9) → zA σ 170 s = nI q) {Q : Option Value → zH → Prop} (f4 : zA σ 172 s = nI 0) (hp : p < 4) (hQ : zPfn B s w σ0 (zS3 w p q R) Q) : zW (d + 4) 155 233 [(0, .ref 160), (2, .int (nI s)), (3, .long (lN (zwdn w)))] [] σ Q := by
  have l0 := zlg0 (w := w) 0 (v := 6518132) (by omega) (by decide) (by decide)
  have l1 := zlg0 (w := w) 1 (v := 1684365676) (by omega) (by decide) (by decide)
  have l2 := zlg0 (w := w) 2 (v := 1836021349) (by omega) (by decide) (by decide)
  have l4 := zlg0 (w := w) 4 (v := 1953854062) (by omega) (by decide) (by decide)
  have go : w = 0 ∨ w = 1 ∨ w = 2 ∨ w = 4 → zW (d + 4) 155 265 [(0, .ref 160), (2, .int (nI s)), (3, .long (lN (zwdn w)))] [] σ Q := fun c => l_r265 hR hs hw hF hK f0 f1 f2 hp c hQ
  refine b155_233 ?_
  by_cases c0 : w = 0
  · rw [if_pos (l0.mpr c0)]; exact go (by omega)
  rw [if_neg (fun q => c0 (l0.mp q))]
  by_cases c1 : w = 1
  · rw [if_pos (l1.mpr c1)]; exact go (by omega)
  rw [if_neg (fun q => c1 (l1.mp q))]
  by_cases c2 : w = 2
  · rw [if_pos (l2.mpr c2)]; exact go (by omega)
  rw [if_neg (fun q => c2 (l2.mp q))]
  by_cases c4 : w = 4
  · rw [if_neg (fun q => q (l4.mpr c4))]; exact go (by omega)
  rw [if_pos (fun q => c4 (l4.mp q))]
  by_cases c3 : w = 3 ∨ w = 5 ∨ w = 10
  · exact l_r337b hR hs hw hF hK f0 f1 f2 hp c3 hQ
  · have e : zrd3 w R = .ok (0, R) := by
      unfold zrd3
      rw [if_neg (by omega), if_neg c3]
    unfold zS3 at hQ
    rw [e] at hQ
    exact l_r337a (h := 0) hR hs hw hF hK f0 f1 f2 f4 hp c3 hQ
set_option maxHeartbeats 1000000 in
theorem l_r187 {d s w p : Nat} {σ σ0 : zH} {B : List Nat} {R : List zTok} (hR : zRuc σ B R) (hs : s < 96) (hw : w ≤ 10) (hF : zFn zJr zAsp σ0 σ) (hK : zKp s (s + 1) σ0 σ) (f0 : zB σ 168 s = lN (zwdn w)) (f1 : zA σ 169 s = nI p) (f4 : zA σ 172 s = nI 0) {Q : Option Value → zH → Prop} (hp : p < 4) (h2 : w = 6 ∨ w = 7 ∨ w = 9) (hQ : zPfn B s w σ0 (zSqt (zrd2 w p R) (fun q R2 => zS3 w p q R2)) Q) : zW (d + 4) 155 187 [(0, .ref 160), (2, .int (nI s)), (3, .long (lN (zwdn w)))] [] σ Q := by
  have e2 : zrd2 w p R = zpile p R := by
    unfold zrd2
    rw [if_pos h2]
  rw [e2] at hQ
  refine b155_187 ⟨zRuc_k hR, p_rpile hR (fun υ p1 p2 u1 u2 u3 => ?_) (fun υ p1 u1 u2 => ?_)⟩
  · have ⟨mK0, mQ1, mK1, mN1, mQ6, mK6, mN6, mQ7, mK7, mN7, mQ8, mK8, mN8, mQ9, mK9, mN9, mQ10, mK10, mN10, mQ11, mK11, mN11, mQ21, mK21, mN21, mQ22, mK22, mN22, mQ23, mK23, mN23, mQ24, mK24, mN24, mQ25, mK25, mN25, mQ26, mK26, mN26, mQ27, mK27, mN27, mQ28, mK28, mN28, mQ32, mK32, mN32, mQ33, mK33, mN33, mQ34, mK34, mN34, mQ35, mK35, mN35, mQ40, mK40, mN40, mQ41, mK41, mN41, mQ42, mK42, mN42, mQ43, mK43, mN43, mQ44, mK44, mN44, mQ45, mK45, mN45, mQ62, mK62, mN62⟩ := u1.1.1
    rw [zqi_s, if_pos (by decide), mQ22, mK22, mN22, mQ23, mK23, mN23, zcl s (by omega), u2, (zAx u3 169).1, f1, zRuc_14 hR]
    refine ⟨mK0, rfl, vp_in_nI (by omega) (by omega), ?_⟩
    by_cases cp : (zhdt R).1 - 17 = p
    · rw [if_neg (by rw [cp]; exact fun q => q rfl)]
      refine p_rwrong mK0 (fun ω v1 v2 => ?_)
      rw [zqi_s]
      have F3 := zFn_t u3 v2
      refine ⟨Or.inl rfl, hQ.2 ω _ ?_ v1 (zFn_t hF (zFn_rt F3)) (zKp_t hK (zKp_n F3 (fun _ _ _ q => q)))⟩
      unfold zpile zflt
      rw [if_pos ⟨p1, p2⟩, if_pos cp, if_neg (by omega)]
      rfl
    · rw [if_pos (by rw [nI_eq (by omega) (by omega)]; exact cp)]
      have hz : zpile p R = .ok ((zhdt R).1 - 17, zgn R) := by
        unfold zpile
        rw [if_pos ⟨p1, p2⟩, if_neg cp]
      rw [hz] at hQ
      refine ⟨rfl, vp_in_nI (by omega) (by omega), ?_⟩
      exact l_r233 (zRuc_A _ (by omega) u1) hs hw (zFn_t (zFn_t hF (zFn_rt u3)) (zFn_A _ (by unfold zAsp; omega))) (zKp_t (zKp_t hK (zKp_n u3 (fun _ _ _ q => q))) (zKp_A _ (Nat.le_refl _) (by omega))) (by show zB υ 168 s = _; rw [(zAx u3 168).2]; exact f0) (by rw [zA_o (by omega), (zAx u3 169).1]; exact f1) (fun c => zA_e) (by rw [zA_o (by omega), (zAx u3 172).1]; exact f4) hp hQ
  · rw [zqi_s, if_neg (by decide)]
    refine hQ.2 υ _ ?_ u1 (zFn_t hF (zFn_rt u2)) (zKp_t hK (zKp_n u2 (fun _ _ _ q => q)))
    rw [zpile_n p1]
    rfl
/-- behind the word of a plain step -/
theorem l_rpln {d s w : Nat} {σ : zH} {B : List Nat} {R : List zTok} (hR : zRuc σ B R) (hs : s < 96) (hw : w ≤ 10) (f0 : zB σ 168 s = lN (zwdn w)) (f4 : zA σ 172 s = nI 0) {Q : Option Value → zH → Prop} (hQ : zPfn B s w σ (zpln w R) Q) : zM (d + 3) 150 [.ref 160] σ (fun r σ115 => zqi r (fun x116 => (if ¬ x116 = 0 then (zK σ115 160 = 13) ∧ (zK σ115 (zQ σ115 160 22) = 20) ∧ (vp_in (nI s) (zN σ115 (zQ σ115 160 22))) ∧ (if (lg_cmp (lN (zwdn w)) (lN 125797015120997)) = 0 then zW (d + 4) 155 187 [(0, .ref 160), (2, .int (nI s)), (3, .long (lN (zwdn w)))] [] (zsA σ115 (zQ σ115 160 22) (nI s).toNatClampNeg (zI σ115 160 19)) Q else (if (lg_cmp (lN (zwdn w)) (lN 1717662319)) = 0 then zW (d + 4) 155 187 [(0, .ref 160), (2, .int (nI s)), (3, .long (lN (zwdn w)))] [] (zsA σ115 (zQ σ115 160 22) (nI s).toNatClampNeg (zI σ115 160 19)) Q else (if ¬ (lg_cmp (lN (zwdn w)) (lN 1937203568)) = 0 then zW (d + 4) 155 233 [(0, .ref 160), (2, .int (nI s)), (3, .long (lN (zwdn w)))] [] (zsA σ115 (zQ σ115 160 22) (nI s).toNatClampNeg (zI σ115 160 19)) Q else zW (d + 4) 155 187 [(0, .ref 160), (2, .int (nI s)), (3, .long (lN (zwdn w)))] [] (zsA σ115 (zQ σ115 160 22) (nI s).toNatClampNeg (zI σ115 160 19)) Q))) else Q (some (.int (nI 0))) σ115))) := by
  have l6 := zlg0 (w := w) 6 (v := 125797015120997) (by omega) (by decide) (by decide)
  have l7 := zlg0 (w := w) 7 (v := 1717662319) (by omega) (by decide) (by decide)
  have l9 := zlg0 (w := w) 9 (v := 1937203568) (by omega) (by decide) (by decide)
  refine p_rpile hR (fun υ p1 p2 u1 u2 u3 => ?_) (fun υ p1 u1 u2 => ?_)
  · have ⟨mK0, mQ1, mK1, mN1, mQ6, mK6, mN6, mQ7, mK7, mN7, mQ8, mK8, mN8, mQ9, mK9, mN9, mQ10, mK10, mN10, mQ11, mK11, mN11, mQ21, mK21, mN21, mQ22, mK22, mN22, mQ23, mK23, mN23, mQ24, mK24, mN24, mQ25, mK25, mN25, mQ26, mK26, mN26, mQ27, mK27, mN27, mQ28, mK28, mN28, mQ32, mK32, mN32, mQ33, mK33, mN33, mQ34, mK34, mN34, mQ35, mK35, mN35, mQ40, mK40, mN40, mQ41, mK41, mN41, mQ42, mK42, mN42, mQ43, mK43, mN43, mQ44, mK44, mN44, mQ45, mK45, mN45, mQ62, mK62, mN62⟩ := u1.1.1
    rw [zqi_s, if_pos (by decide), mQ22, mK22, mN22, zcl s (by omega), u2]
    refine ⟨mK0, rfl, vp_in_nI (by omega) (by omega), ?_⟩
    have hz := zpile_e p1 p2
    have hQ2 : zPfn B s w σ (zSqt (zrd2 w ((zhdt R).1 - 17) (zgn R)) (fun q R2 => zS3 w ((zhdt R).1 - 17) q R2)) Q := by
      have : zpln w R = zSqt (zrd2 w ((zhdt R).1 - 17) (zgn R)) (fun q R2 => zS3 w ((zhdt R).1 - 17) q R2) := by
        unfold zpln
        rw [hz]
        rfl
      rw [this] at hQ
      exact hQ
    have R1 := zRuc_A (σ := υ) (a := 169) (j := s) (nI ((zhdt R).1 - 17)) (by omega) u1
    have F1 : zFn zJr zAsp σ (zsA υ 169 s (nI ((zhdt R).1 - 17))) := zFn_t (zFn_rt u3) (zFn_A _ (by unfold zAsp; omega))
    have K1 : zKp s (s + 1) σ (zsA υ 169 s (nI ((zhdt R).1 - 17))) := zKp_t (zKp_n u3 (fun _ _ _ q => q)) (zKp_A _ (Nat.le_refl _) (by omega))
    have g0 : zB (zsA υ 169 s (nI ((zhdt R).1 - 17))) 168 s = lN (zwdn w) := by show zB υ 168 s = _; rw [(zAx u3 168).2]; exact f0
    have g4 : zA (zsA υ 169 s (nI ((zhdt R).1 - 17))) 172 s = nI 0 := by rw [zA_o (by omega), (zAx u3 172).1]; exact f4
    have go : (w = 6 ∨ w = 7 ∨ w = 9) → zW (d + 4) 155 187 [(0, .ref 160), (2, .int (nI s)), (3, .long (lN (zwdn w)))] [] (zsA υ 169 s (nI ((zhdt R).1 - 17))) Q := fun c => l_r187 R1 hs hw F1 K1 g0 zA_e g4 (by omega) c hQ2
    by_cases c6 : w = 6
    · rw [if_pos (l6.mpr c6)]; exact go (by omega)
    rw [if_neg (fun q => c6 (l6.mp q))]
    by_cases c7 : w = 7
    · rw [if_pos (l7.mpr c7)]; exact go (by omega)
    rw [if_neg (fun q => c7 (l7.mp q))]
    by_cases c9 : w = 9
    · rw [if_neg (fun q => q (l9.mpr c9))]; exact go (by omega)
    rw [if_pos (fun q => c9 (l9.mp q))]
    have e2 : zrd2 w ((zhdt R).1 - 17) (zgn R) = .ok (0, zgn R) := by
      unfold zrd2
      rw [if_neg (by omega)]
    rw [e2] at hQ2
    exact l_r233 (q := 0) R1 hs hw F1 K1 g0 zA_e (fun c => by omega) g4 (by omega) hQ2
  · rw [zqi_s, if_neg (by decide)]
    refine hQ.2 υ _ ?_ u1 (zFn_rt u2) (zKp_n u2 (fun _ _ _ q => q))
    unfold zpln
    rw [zpile_n p1]
    rfl
