/-! the reference's claim -/
theorem p_rbeg {d : Nat} {σ : zH} {B : List Nat} (hx : zRx σ B) (h4 : zI σ 160 4 = nI 0) (h16 : zI σ 160 16 = nI 0) {Q : Option Value → zH → Prop} (hQ : ∀ τ, zRuc τ B (zTk B 0) → zFn zJg zA0 σ τ → Q none τ) : zM (d + 2) 142 [.ref 160] σ Q := by
  have hk := zOrd_k (B := B) B.length 0 (by omega) (by omega)
  have hm : zhdt (zTk B 0) ∈ zTk B 0 := by
    cases hz : zTk B 0 with
    | nil => rw [hz] at hk; exact hk.1.elim
    | cons a l => exact List.mem_cons_self
  refine p_rnext hx (Nat.zero_le _) h4 (fun τ e g1 g2 g3 g4 g5 => hQ τ ⟨zRx_l g1 hx, hk.1, g2, (hk.2.2 _ hm).1, (hk.2.2 _ hm).2.1, e, g4, g3, g5, by rw [g1.2.2.2.2.2.2.2.1 160 16 (by omega)]; exact h16⟩ (zFn_y g1))
def zJk (i : Nat) : Prop := i = 0 ∨ i = 2 ∨ i = 3 ∨ zJc i
/-- the reference's claim stands in bank cb -/
def zRcb (σ : zH) (cs : List zCd) (cb : Nat) : Prop := zI σ 160 37 = nI cb ∧ (cb = 2 ∨ cb = 3) ∧ ((zI σ 160 38 = -1 ∧ cs = [(42, 9216, 9216)]) ∨ ∃ v C f, v < 3200 ∧ zI σ 160 38 = nI v ∧ zTr σ (800 * cb) (800 * cb + 800) f 19 v C ∧ ∀ g, ztop (zev g cs []) = C g)
theorem zRcb_cl {σ : zH} {cs : List zCd} {cb : Nat} (h : zRcb σ cs cb) : zRcl σ cs := by
  obtain ⟨-, h2, h3⟩ := h
  rcases h3 with h3 | ⟨v, C, f, a1, a2, a3, a4⟩
  · exact Or.inl h3
  · exact Or.inr ⟨v, C, f, _, _, a2, a1, by omega, a3, a4⟩
theorem zRcb_k {σ τ : zH} {cs : List zCd} {cb : Nat} (h37 : zI τ 160 37 = zI σ 160 37) (h38 : zI τ 160 38 = zI σ 160 38) (hk : ∀ a, 176 ≤ a → a ≤ 179 → ∀ i, 800 * cb ≤ i → i < 800 * cb + 800 → zA τ a i = zA σ a i) (h : zRcb σ cs cb) : zRcb τ cs cb := by
  obtain ⟨h1, h2, h3⟩ := h
  refine ⟨by rw [h37]; exact h1, h2, ?_⟩
  rw [h38]
  rcases h3 with h3 | ⟨v, C, f, a1, a2, a3, a4⟩
  · exact Or.inl h3
  · exact Or.inr ⟨v, C, f, a1, a2, zTr_c (fun w l1 l2 => ⟨hk 176 (by omega) (by omega) w l1 l2, hk 177 (by omega) (by omega) w l1 l2, hk 178 (by omega) (by omega) w l1 l2, hk 179 (by omega) (by omega) w l1 l2⟩) f 19 v C a3, a4⟩
theorem zRtp_n {J A : Nat → Prop} {σ τ : zH} (h : zFn J A σ τ) (ha : ¬ A 161) {B : List Nat} (hx : zRtp σ B) : zRtp τ B := by
  obtain ⟨t1, t2, t3⟩ := hx
  exact ⟨t1, fun i hi => by rw [(h.2.2.2.2.2.2.2.2.2 161 ha).1]; exact t2 i hi, t3⟩
def zJl (i : Nat) : Prop := zJk i ∨ i = 37 ∨ i = 38
set_option maxHeartbeats 4000000 in
theorem p_rclm {d cb : Nat} {σ : zH} {B : List Nat} {cs0 : List zCd} (hM : zMb σ) (hB : zRtp σ B) (h2 : zI σ 160 2 = nI B.length) (hC : zRcb σ cs0 cb) {Q : Option Value → zH → Prop} (h1 : ∀ τ cs, zclt B = .ok cs → zFn zJl zAn σ τ → zI τ 160 0 = nI 0 → zI τ 160 2 = nI 0 → zI τ 160 16 = nI 0 → zRcb τ cs (5 - cb) → (∀ a, 176 ≤ a → a ≤ 179 → ∀ i, i < 1600 → zA τ a i = zA σ a i) → Q (some (.int (nI 0))) τ) (h0 : ∀ τ e, zclt B = .error e → zFn zJl zAn σ τ → zI τ 160 0 = nI 0 → zI τ 160 2 = nI 0 → zFlt τ e → zRcb τ cs0 cb → (∀ a, 176 ≤ a → a ≤ 179 → ∀ i, i < 1600 → zA τ a i = zA σ a i) → Q (some (.int (-1 - nI e.2))) τ) : zM (d + 32) 167 [.ref 160] σ Q := by
  have ⟨mK0, mQ1, mK1, mN1, mQ6, mK6, mN6, mQ7, mK7, mN7, mQ8, mK8, mN8, mQ9, mK9, mN9, mQ10, mK10, mN10, mQ11, mK11, mN11, mQ21, mK21, mN21, mQ22, mK22, mN22, mQ23, mK23, mN23, mQ24, mK24, mN24, mQ25, mK25, mN25, mQ26, mK26, mN26, mQ27, mK27, mN27, mQ28, mK28, mN28, mQ32, mK32, mN32, mQ33, mK33, mN33, mQ34, mK34, mN34, mQ35, mK35, mN35, mQ40, mK40, mN40, mQ41, mK41, mN41, mQ42, mK42, mN42, mQ43, mK43, mN43, mQ44, mK44, mN44, mQ45, mK45, mN45, mQ62, mK62, mN62⟩ := hM
  obtain ⟨c1, c2, c3⟩ := hC
  have hB9 := hB.1
  refine b167 ⟨mK0, ?_⟩
  have e37 : zI (zsI (zsI (zsI (zsI (zsI σ 160 0 (nI 0)) 160 3 (zI (zsI σ 160 0 (nI 0)) 160 2)) 160 2 (nI 0)) 160 4 (nI 0)) 160 16 (nI 0)) 160 37 = nI cb := by
    rw [zIs (by omega), zIs (by omega), zIs (by omega), zIs (by omega), zIs (by omega)]; exact c1
  rw [e37, pk_sub (by omega), pk_mul, zIs (by omega), h2]
  obtain ⟨to, hto⟩ : ∃ to, to = 5 - cb := ⟨_, rfl⟩
  rw [← hto] at h1 ⊢
  obtain ⟨σ1, hσ1⟩ : ∃ σ1, σ1 = zsI (zsI (zsI (zsI (zsI (zsI (zsI σ 160 0 (nI 0)) 160 3 (nI B.length)) 160 2 (nI 0)) 160 4 (nI 0)) 160 16 (nI 0)) 160 36 (nI (800 * to))) 160 39 (nI 0) := ⟨_, rfl⟩
  rw [← hσ1]
  have F0 : zFn zJk zA0 σ σ1 := by
    rw [hσ1]
    exact zFn_t (zFn_t (zFn_t (zFn_t (zFn_t (zFn_t (zFn_I _ (by unfold zJk; omega)) (zFn_I _ (by unfold zJk; omega))) (zFn_I _ (by unfold zJk; omega))) (zFn_I _ (by unfold zJk zJc zJr; omega))) (zFn_I _ (by unfold zJk zJc zJr; omega))) (zFn_I _ (by unfold zJk zJc zJr; omega))) (zFn_I _ (by unfold zJk zJc zJr; omega))
  have i0 : zI σ1 160 0 = nI 0 := by rw [hσ1, zIs (by omega), zIs (by omega), zIs (by omega), zIs (by omega), zIs (by omega), zIs (by omega), zIe]
  have i3 : zI σ1 160 3 = nI B.length := by rw [hσ1, zIs (by omega), zIs (by omega), zIs (by omega), zIs (by omega), zIs (by omega), zIe]
  have i2 : zI σ1 160 2 = nI 0 := by rw [hσ1, zIs (by omega), zIs (by omega), zIs (by omega), zIs (by omega), zIe]
  have i4 : zI σ1 160 4 = nI 0 := by rw [hσ1, zIs (by omega), zIs (by omega), zIs (by omega), zIe]
  have i16 : zI σ1 160 16 = nI 0 := by rw [hσ1, zIs (by omega), zIs (by omega), zIe]
  have i36 : zI σ1 160 36 = nI (800 * to) := by rw [hσ1, zIs (by omega), zIe]
  have i39 : zI σ1 160 39 = nI 0 := by rw [hσ1, zIe]
  have x1 : zRx σ1 B := ⟨zMb_n F0 hM, zRtp_n F0 id hB, i3⟩
  have hO := (zOrd_k (B := B) B.length 0 (by omega) (by omega)).1
  have hlen := zTk_len (B := B) B.length 0 (by omega)
  refine p_rbeg x1 i4 i16 (fun τ g1 g2 => ?_)
  rw [zqv_s]
  have gI := g2.2.2.2.2.2.2.2.2.1
  have F1 : zFn zJk zAn σ τ := zFn_t (zFn_m F0 (fun _ q => q) (fun _ q => q.elim)) (zFn_m g2 (fun i q => by unfold zJg at q; unfold zJk zJc zJr; omega) (fun _ q => q.elim))
  have hm : zRoom B (5 * (800 * to)) (800 * to + 800) (800 * to) (zTk B 0) := ⟨by omega, by omega, hB9, by omega⟩
  have rest : ∀ υ, zFn zJc zAn τ υ → zFn zJk zAn σ υ := fun υ f => zFn_t F1 (zFn_m f (fun i q => by unfold zJk; exact Or.inr (Or.inr (Or.inr q))) (fun _ q => q))
  have A1 : ∀ a, zA τ a = zA σ a := fun a => (g2.2.2.2.2.2.2.2.2.2 a id).1.trans (F0.2.2.2.2.2.2.2.2.2 a id).1
  have bad : ∀ υ e, zclt B = .error e → zFlt υ e → zFn zJc zAn τ υ → zKn (800 * to) (800 * to + 800) τ υ → Q (some (.int (-1 - zI υ 160 17))) υ := by
    intro υ e hz q2 q3 q4
    rw [q2.2]
    have R1 := rest υ q3
    have uI := q3.2.2.2.2.2.2.2.2.1
    refine h0 υ e hz (zFn_m R1 (fun i q => Or.inl q) (fun _ q => q)) ?_ ?_ q2 ?_ ?_
    · rw [uI 0 (by unfold zJc zJr; omega), gI 0 (by unfold zJg; omega)]; exact i0
    · rw [uI 2 (by unfold zJc zJr; omega), gI 2 (by unfold zJg; omega)]; exact i2
    · refine zRcb_k (σ := σ) (R1.2.2.2.2.2.2.2.2.1 37 (by unfold zJk zJc zJr; omega)) (R1.2.2.2.2.2.2.2.2.1 38 (by unfold zJk zJc zJr; omega)) (fun a l1 l2 i u1 u2 => ?_) ⟨c1, c2, c3⟩
      rw [q4 a l1 l2 i (by omega), A1]
    · intro a l1 l2 i hi
      rw [q4 a l1 l2 i (by omega), A1]
  refine ⟨zRuc_k g1, p_rcon B d τ (zTk B 0) (800 * to) _ g1 (by rw [gI 36 (by unfold zJg; omega)]; exact i36) (by rw [gI 39 (by unfold zJg; omega)]; exact i39) hm (by omega) ⟨fun υ cs R2 v q1 q2 q3 q4 q5 q6 q7 q8 => ?_, fun υ e q1 q2 q3 q4 => ?_⟩⟩
  · simp only [zqi_s]
    rw [if_neg (by rw [← nI_0]; exact nI_nlt (by omega) (by omega))]
    refine ⟨zRuc_k q2, ?_⟩
    have ht := zty_ok (zhdt R2).1 q2.2.2.2.1
    obtain ⟨a1, a2, a3⟩ := zcon_bd B.length _ _ _ g1.2.1 q1
    have hpl : zplc R2 ≤ B.length := zOrd_n a1.1
    rw [zRuc_13 q2]
    by_cases h49 : (zhdt R2).1 = 49
    · rw [if_pos (by rw [ht.2.1.mpr h49]; exact nI_0)]
      have hz : zclt B = .ok cs := by
        unfold zclt
        rw [q1]
        simp only [zexp]
        rw [if_pos h49]
      have R1 := rest υ q3
      have uI := q3.2.2.2.2.2.2.2.2.1
      refine b167_78 ?_
      rw [if_pos (by rw [← nI_0]; exact nI_le (by omega) (by omega))]
      refine ⟨zRuc_k q2, h1 _ cs hz ?_ ?_ ?_ ?_ ?_ ?_⟩
      · exact zFn_t (zFn_t (zFn_m R1 (fun i q => Or.inl q) (fun _ q => q)) (zFn_I _ (Or.inr (Or.inl rfl)))) (zFn_I _ (Or.inr (Or.inr rfl)))
      · rw [zIs (by omega), zIs (by omega), uI 0 (by unfold zJc zJr; omega), gI 0 (by unfold zJg; omega)]; exact i0
      · rw [zIs (by omega), zIs (by omega), uI 2 (by unfold zJc zJr; omega), gI 2 (by unfold zJg; omega)]; exact i2
      · rw [zIs (by omega), zIs (by omega)]; exact zRuc_16 q2
      · refine ⟨by rw [zIs (by omega), zIe], by omega, Or.inr ?_⟩
        obtain ⟨f, C, t1, t2⟩ := q7
        refine ⟨v, C, f, q8, by rw [zIe], ?_, fun g => ?_⟩
        · refine zTr_u (σ := υ) (Nat.le_refl _) (by omega) (fun w _ _ => ?_) (Nat.le_refl _) (Nat.le_refl _) t1
          rw [zA_sI, zA_sI]
          exact ⟨rfl, rfl, rfl, rfl⟩
        · have := t2 g [] []
          rw [List.append_nil] at this
          rw [this]
          rfl
      · intro a l1 l2 i hi
        rw [zA_sI, zA_sI, q4 a l1 l2 i (by omega), A1]
    · rw [if_neg (by rw [← nI_0, nI_eq (by omega) (by omega)]; exact fun q => h49 (ht.2.1.mp q))]
      refine p_cant q2 (fun ω y1 y2 => ?_)
      rw [zqi_s]
      refine ⟨by rw [y2.1]; exact zRuc_k q2, p_bad0 ?_⟩
      rw [zqi_s]
      refine b167_78 ?_
      rw [if_neg (by decide)]
      refine ⟨by rw [y2.1]; exact zRuc_k q2, bad ω _ ?_ y1 (zFn_t q3 (zFn_rc y2)) (fun a l1 l2 i hi => by rw [(y2.2.2.2.2.2.2.2.2.2 a id).1]; exact q4 a l1 l2 i hi)⟩
      unfold zclt
      rw [q1]
      simp only [zexp]
      rw [if_neg h49]
  · simp only [zqi_s]
    rw [if_pos (by decide)]
    refine b167_78 ?_
    rw [if_neg (by decide)]
    have hz : zclt B = .error e := by
      unfold zclt
      rw [q1]
    exact ⟨by rw [q3.1]; exact zRuc_k g1, bad υ e hz q2 q3 q4⟩
