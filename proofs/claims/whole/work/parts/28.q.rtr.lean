/-! the reference's trick -/
def zRkb (σ : zH) (bk : Nat) (St : List zStp) : Prop := zI σ 160 29 = nI bk ∧ bk < 2 ∧ zI σ 160 30 = nI St.length ∧ St.length ≤ 40 ∧ ∀ k, k < St.length → zRSb σ bk k (zSg St k) (800 * bk) (800 * bk + 800)
theorem zRkb_k {σ : zH} {bk : Nat} {St : List zStp} (h : zRkb σ bk St) : zRk σ bk St := by
  obtain ⟨h1, h2, h3, h4, h5⟩ := h
  exact ⟨h1, h2, h3, h4, fun k hk => zRSb_St (by omega) (h5 k hk)⟩
theorem zRkb_m {σ τ : zH} {bk : Nat} {St : List zStp} (h29 : zI τ 160 29 = zI σ 160 29) (h30 : zI τ 160 30 = zI σ 160 30) (hr : ∀ a, 168 ≤ a → a ≤ 175 → ∀ i, 48 * bk ≤ i → i < 48 * bk + 48 → zA τ a i = zA σ a i ∧ zB τ a i = zB σ a i) (hn : ∀ a, 176 ≤ a → a ≤ 179 → ∀ i, 800 * bk ≤ i → i < 800 * bk + 800 → zA τ a i = zA σ a i) (h : zRkb σ bk St) : zRkb τ bk St := by
  obtain ⟨h1, h2, h3, h4, h5⟩ := h
  exact ⟨by rw [h29]; exact h1, h2, by rw [h30]; exact h3, h4, fun k hk => zRSb_k (Nat.le_refl _) (fun a l1 l2 => hr a l1 l2 _ (by omega) (by omega)) (fun a l1 l2 i u1 u2 => hn a l1 l2 i u1 u2) (h5 k hk)⟩
def zJt (i : Nat) : Prop := i = 0 ∨ i = 2 ∨ i = 3 ∨ i = 29 ∨ i = 30 ∨ zJs i
set_option maxHeartbeats 8000000 in
theorem p_rtrk {d bk : Nat} {σ : zH} {B : List Nat} {St0 : List zStp} (hM : zMb σ) (hB : zRtp σ B) (h2 : zI σ 160 2 = nI B.length) (hC : zRkb σ bk St0) {Q : Option Value → zH → Prop} (h1 : ∀ τ S, ztrt B = .ok S → zFn zJt zAst σ τ → zI τ 160 0 = nI 0 → zI τ 160 2 = nI 0 → zI τ 160 16 = nI 0 → zRkb τ (1 - bk) S → (∀ a, 176 ≤ a → a ≤ 179 → ∀ i, 1600 ≤ i → zA τ a i = zA σ a i) → Q (some (.int (nI S.length))) τ) (h0 : ∀ τ e, ztrt B = .error e → zFn zJt zAst σ τ → zI τ 160 0 = nI 0 → zI τ 160 2 = nI 0 → zFlt τ e → zRkb τ bk St0 → (∀ a, 176 ≤ a → a ≤ 179 → ∀ i, 1600 ≤ i → zA τ a i = zA σ a i) → Q (some (.int (-1 - nI e.2))) τ) : zM (d + 51) 152 [.ref 160] σ Q := by
  have ⟨mK0, mQ1, mK1, mN1, mQ6, mK6, mN6, mQ7, mK7, mN7, mQ8, mK8, mN8, mQ9, mK9, mN9, mQ10, mK10, mN10, mQ11, mK11, mN11, mQ21, mK21, mN21, mQ22, mK22, mN22, mQ23, mK23, mN23, mQ24, mK24, mN24, mQ25, mK25, mN25, mQ26, mK26, mN26, mQ27, mK27, mN27, mQ28, mK28, mN28, mQ32, mK32, mN32, mQ33, mK33, mN33, mQ34, mK34, mN34, mQ35, mK35, mN35, mQ40, mK40, mN40, mQ41, mK41, mN41, mQ42, mK42, mN42, mQ43, mK43, mN43, mQ44, mK44, mN44, mQ45, mK45, mN45, mQ62, mK62, mN62⟩ := hM
  have hC' := hC
  obtain ⟨c1, c2, c3, c4, c5⟩ := hC
  have hB9 := hB.1
  refine b152 ⟨mK0, ?_⟩
  have e29 : zI (zsI (zsI (zsI (zsI (zsI σ 160 0 (nI 0)) 160 3 (zI (zsI σ 160 0 (nI 0)) 160 2)) 160 2 (nI 0)) 160 4 (nI 0)) 160 16 (nI 0)) 160 29 = nI bk := by
    rw [zIs (by omega), zIs (by omega), zIs (by omega), zIs (by omega), zIs (by omega)]; exact c1
  rw [e29, pk_sub (by omega), zIe, pk_mul, zIs (by omega), h2]
  obtain ⟨nb, hnb⟩ : ∃ nb, nb = 1 - bk := ⟨_, rfl⟩
  rw [← hnb] at h1 ⊢
  obtain ⟨σ1, hσ1⟩ : ∃ σ1, σ1 = zsI (zsI (zsI (zsI (zsI (zsI (zsI (zsI σ 160 0 (nI 0)) 160 3 (nI B.length)) 160 2 (nI 0)) 160 4 (nI 0)) 160 16 (nI 0)) 160 29 (nI nb)) 160 36 (nI (800 * nb))) 160 31 (nI 0) := ⟨_, rfl⟩
  rw [← hσ1]
  have F0 : zFn zJt zA0 σ σ1 := by
    rw [hσ1]
    exact zFn_t (zFn_t (zFn_t (zFn_t (zFn_t (zFn_t (zFn_t (zFn_I _ (by unfold zJt; omega)) (zFn_I _ (by unfold zJt; omega))) (zFn_I _ (by unfold zJt; omega))) (zFn_I _ (by unfold zJt zJs zJc zJr; omega))) (zFn_I _ (by unfold zJt zJs zJc zJr; omega))) (zFn_I _ (by unfold zJt; omega))) (zFn_I _ (by unfold zJt zJs zJc zJr; omega))) (zFn_I _ (by unfold zJt zJs zJc zJr; omega))
  have i0 : zI σ1 160 0 = nI 0 := by rw [hσ1, zIs (by omega), zIs (by omega), zIs (by omega), zIs (by omega), zIs (by omega), zIs (by omega), zIs (by omega), zIe]
  have i3 : zI σ1 160 3 = nI B.length := by rw [hσ1, zIs (by omega), zIs (by omega), zIs (by omega), zIs (by omega), zIs (by omega), zIs (by omega), zIe]
  have i2 : zI σ1 160 2 = nI 0 := by rw [hσ1, zIs (by omega), zIs (by omega), zIs (by omega), zIs (by omega), zIs (by omega), zIe]
  have i4 : zI σ1 160 4 = nI 0 := by rw [hσ1, zIs (by omega), zIs (by omega), zIs (by omega), zIs (by omega), zIe]
  have i16 : zI σ1 160 16 = nI 0 := by rw [hσ1, zIs (by omega), zIs (by omega), zIs (by omega), zIe]
  have i29 : zI σ1 160 29 = nI nb := by rw [hσ1, zIs (by omega), zIs (by omega), zIe]
  have i36 : zI σ1 160 36 = nI (800 * nb) := by rw [hσ1, zIs (by omega), zIe]
  have i31 : zI σ1 160 31 = nI 0 := by rw [hσ1, zIe]
  have i30 : zI σ1 160 30 = nI St0.length := by rw [hσ1, zIs (by omega), zIs (by omega), zIs (by omega), zIs (by omega), zIs (by omega), zIs (by omega), zIs (by omega), zIs (by omega)]; exact c3
  have x1 : zRx σ1 B := ⟨zMb_n F0 hM, zRtp_n F0 id hB, i3⟩
  have hO := (zOrd_k (B := B) B.length 0 (by omega) (by omega)).1
  have hlen := zTk_len (B := B) B.length 0 (by omega)
  have A0 : ∀ a, zA σ1 a = zA σ a ∧ zB σ1 a = zB σ a := fun a => F0.2.2.2.2.2.2.2.2.2 a id
  refine p_rbeg x1 i4 i16 (fun τ g1 g2 => ?_)
  rw [zqv_s]
  have gI := g2.2.2.2.2.2.2.2.2.1
  have A1 : ∀ a, zA τ a = zA σ a ∧ zB τ a = zB σ a := fun a => ⟨(g2.2.2.2.2.2.2.2.2.2 a id).1.trans (A0 a).1, (g2.2.2.2.2.2.2.2.2.2 a id).2.trans (A0 a).2⟩
  have F1 : zFn zJt zAst σ τ := zFn_t (zFn_m F0 (fun _ q => q) (fun _ q => q.elim)) (zFn_m g2 (fun i q => by unfold zJg at q; unfold zJt zJs zJc zJr; omega) (fun _ q => q.elim))
  have hm : zRoom B (5 * (800 * nb)) (800 * nb + 800) (800 * nb) (zTk B 0) := ⟨by omega, by omega, hB9, by omega⟩
  have rest : ∀ υ, zFn zJs zAst τ υ → zFn zJt zAst σ υ := fun υ f => zFn_t F1 (zFn_m f (fun i q => by unfold zJt; exact Or.inr (Or.inr (Or.inr (Or.inr (Or.inr q))))) (fun _ q => q))
  have bad : ∀ υ e, ztrt B = .error e → zRE nb 0 (800 * nb) τ υ e → Q (some (.int (-1 - zI (zsI υ 160 29 (nI bk)) 160 17))) (zsI υ 160 29 (nI bk)) := by
    intro υ e hz q
    obtain ⟨q1, q2, q3, q4⟩ := q
    have R1 := rest υ q2
    have uI := q2.2.2.2.2.2.2.2.2.1
    rw [zIs (by omega), q1.2]
    refine h0 _ e hz (zFn_t R1 (zFn_I _ (by unfold zJt; omega))) ?_ ?_ ⟨?_, ?_⟩ ?_ ?_
    · rw [zIs (by omega), uI 0 (by unfold zJs zJc zJr; omega), gI 0 (by unfold zJg; omega)]; exact i0
    · rw [zIs (by omega), uI 2 (by unfold zJs zJc zJr; omega), gI 2 (by unfold zJg; omega)]; exact i2
    · rw [zIs (by omega)]; exact q1.1
    · rw [zIs (by omega)]; exact q1.2
    · refine zRkb_m (σ := σ) ?_ ?_ (fun a l1 l2 i u1 u2 => ?_) (fun a l1 l2 i u1 u2 => ?_) hC'
      · rw [zIe]; exact c1.symm
      · rw [zIs (by omega), uI 30 (by unfold zJs zJc zJr; omega), gI 30 (by unfold zJg; omega), i30]; exact c3.symm
      · have := q3 a l1 l2 i (by omega)
        rw [(A1 a).1, (A1 a).2] at this
        exact this
      · rw [zA_sI, q4 a l1 l2 i (by omega), (A1 a).1]
    · intro a l1 l2 i hi
      rw [zA_sI, q4 a l1 l2 i (by omega), (A1 a).1]
  have E144 : ∀ υ e, ztrt B = .error e → zRE nb 0 (800 * nb) τ υ e → zK υ 160 = 13 → zW (d + 51) 152 144 [(0, .ref 160), (1, .int (nI bk)), (2, .int (nI 0))] [] υ Q := by
    intro υ e hz q hk
    refine b152_144 ?_
    rw [if_neg (by decide)]
    exact ⟨hk, bad υ e hz q⟩
  have E114 : ∀ υ e, ztrt B = .error e → zRE nb 0 (800 * nb) τ υ e → zK υ 160 = 13 → zW (d + 51) 152 114 [(0, .ref 160), (1, .int (nI bk)), (2, .int (nI 0))] [] υ Q := by
    intro υ e hz q hk
    refine b152_114 ?_
    rw [if_pos (by decide)]
    exact E144 υ e hz q hk
  have E86 : ∀ υ e, ztrt B = .error e → zRE nb 0 (800 * nb) τ υ e → zK υ 160 = 13 → zW (d + 51) 152 86 [(0, .ref 160), (1, .int (nI bk)), (2, .int (nI 0))] [] υ Q := by
    intro υ e hz q hk
    refine b152_86 ?_
    rw [if_pos (by decide)]
    exact E114 υ e hz q hk
  have hP : ∀ e, zPsr B nb (d + 16 + e + 31) 156 0 (zblk 4) := fun e => by
    have := p_rblk (bk := nb) B 4 (by omega) (d + e)
    rw [show d + 16 + e + 31 = d + e + 31 + 4 * 4 by omega]
    exact this
  have hb := zblk_ok B.length 4 (by omega)
  have ex : zstx (zTk B 0) = zSqy (zstw (zblk 4) 41 0 (zTk B 0)) (zexp 49) := (zwr_x (by omega) _).symm
  refine ⟨zRuc_k g1, p_rsts (d := d + 16) (dp := 0) hb hP τ (zTk B 0) 0 (800 * nb) _ g1 (by rw [gI 29 (by unfold zJg; omega)]; exact i29) (by omega) (by rw [gI 31 (by unfold zJg; omega)]; exact i31) (by rw [gI 36 (by unfold zJg; omega)]; exact i36) (Nat.le_refl _) hm (by omega) (by omega) (fun υ S dn ch R2 q1 q2 => ?_) (fun υ e q1 q2 => ?_)⟩
  · rw [zqi_s, if_neg (by decide)]
    refine ⟨zRuc_k q2.1, ?_⟩
    have ht := zty_ok (zhdt R2).1 q2.1.2.2.2.1
    rw [zRuc_13 q2.1]
    by_cases h49 : (zhdt R2).1 = 49
    · rw [if_pos (by rw [ht.2.1.mpr h49]; exact nI_0)]
      obtain ⟨r1, r2⟩ := zOrd_e q2.1.2.1 h49
      have hx : zstx (zTk B 0) = .ok ((S, dn, ch), R2) := by
        rw [ex, q1]
        simp only [zSqy, zexp]
        rw [if_pos h49, r2]
      obtain ⟨z1, z2, z3, z4, z5, z6, z7⟩ := zstx_ok hO hx
      have hseg := z2 S S.length (fun i hi => by rw [Nat.zero_add]) (Nat.le_refl _)
      rw [Nat.zero_add] at hseg
      have u31 : zI υ 160 31 = nI S.length := by rw [q2.2.2.2.2.1, Nat.zero_add]
      have u29 : zI υ 160 29 = nI nb := by rw [q2.2.1.2.2.2.2.2.2.2.2.1 29 (by unfold zJs zJc zJr; omega), gI 29 (by unfold zJg; omega)]; exact i29
      have hSb : ∀ k, k < S.length → zRSb υ nb k (zSg S k) (800 * nb) (800 * nb + 800) := fun k hk => by
        have := q2.2.2.2.2.2.2 k hk
        rw [Nat.zero_add] at this
        exact zRSb_k (by omega) (fun _ _ _ => ⟨rfl, rfl⟩) (fun _ _ _ _ _ _ => rfl) this
      have hSt : ∀ k, k < S.length → zRSt υ nb k (zSg S k) := fun k hk => zRSb_St (by omega) (hSb k hk)
      have u3 : zI υ 160 3 = nI B.length := q2.1.1.2.2
      have flt : ∀ f, ztrt B = .error (f, B.length) → ∀ ω, zFlt ω (f, B.length) → zFn zJr zA0 υ ω → zRE nb 0 (800 * nb) τ ω (f, B.length) := fun f _ ω y1 y2 => zRE_g q2 y2 y1
      refine b152_86 ?_
      rw [if_neg (by decide), u31]
      refine ⟨zRuc_k q2.1, p_rch (d := d + 45) q2.1.1.1 (by omega) u29 hSt z1 hseg ?_⟩
      rw [zqi_s]
      by_cases cc : ch ≤ 8
      · rw [if_pos (by have : min 100 ch ≤ 8 := by omega
                       exact nI_le this (by omega))]
        refine b152_114 ?_
        rw [if_neg (by decide), u31]
        refine ⟨zRuc_k q2.1, p_rdn (d := d + 45) q2.1.1.1 (by omega) u29 hSt z1 hseg ?_⟩
        rw [zqi_s]
        by_cases cd : dn ≤ 500
        · rw [if_pos (by have : min 501 dn ≤ 500 := by omega
                         exact nI_le this (by omega))]
          have hz : ztrt B = .ok S := by
            unfold ztrt
            rw [hx]
            simp only
            rw [if_pos cc, if_pos cd]
          refine b152_144 ?_
          rw [if_pos (by decide), zIe, u31]
          have R1 := rest υ q2.2.1
          have uI := q2.2.1.2.2.2.2.2.2.2.2.1
          refine ⟨zRuc_k q2.1, h1 _ S hz (zFn_t R1 (zFn_I _ (by unfold zJt; omega))) ?_ ?_ ?_ ?_ ?_⟩
          · rw [zIs (by omega), uI 0 (by unfold zJs zJc zJr; omega), gI 0 (by unfold zJg; omega)]; exact i0
          · rw [zIs (by omega), uI 2 (by unfold zJs zJc zJr; omega), gI 2 (by unfold zJg; omega)]; exact i2
          · rw [zIs (by omega)]; exact zRuc_16 q2.1
          · refine ⟨by rw [zIs (by omega)]; exact u29, by omega, zIe, z1, fun k hk => ?_⟩
            exact zRSb_k (σ := υ) (Nat.le_refl _) (fun _ _ _ => ⟨rfl, rfl⟩) (fun _ _ _ _ _ _ => rfl) (hSb k hk)
          · intro a l1 l2 i hi
            rw [zA_sI, q2.2.2.2.1 a l1 l2 i (by omega), (A1 a).1]
        · rw [if_neg (by have : 500 < min 501 dn := by omega
                         exact nI_ge this (by omega)), u3]
          have hz : ztrt B = .error (6, B.length) := by
            unfold ztrt
            rw [hx]
            simp only
            rw [if_pos cc, if_neg cd]
          refine ⟨zRuc_k q2.1, p_rwrong (zRuc_k q2.1) (fun ω y1 y2 => ?_)⟩
          rw [zqi_s]
          exact E144 ω _ hz (flt 6 hz ω y1 y2) (by rw [y2.1]; exact zRuc_k q2.1)
      · rw [if_neg (by have : 8 < min 100 ch := by omega
                       exact nI_ge this (by omega)), u3]
        have hz : ztrt B = .error (5, B.length) := by
          unfold ztrt
          rw [hx]
          simp only
          rw [if_neg cc]
        refine ⟨zRuc_k q2.1, p_rwrong (zRuc_k q2.1) (fun ω y1 y2 => ?_)⟩
        rw [zqi_s]
        exact E114 ω _ hz (flt 5 hz ω y1 y2) (by rw [y2.1]; exact zRuc_k q2.1)
    · rw [if_neg (by rw [← nI_0, nI_eq (by omega) (by omega)]; exact fun q => h49 (ht.2.1.mp q))]
      refine p_cant q2.1 (fun ω y1 y2 => ?_)
      rw [zqi_s]
      have hz : ztrt B = .error (zflt 2 R2) := by
        unfold ztrt
        rw [ex, q1]
        simp only [zSqy, zexp]
        rw [if_neg h49]
      exact E86 ω _ hz (zRE_g q2 y2 y1) (by rw [y2.1]; exact zRuc_k q2.1)
  · rw [zqi_s, if_pos (by decide)]
    have hz : ztrt B = .error e := by
      unfold ztrt
      rw [ex, q1]
      rfl
    exact E86 υ e hz q2 (by rw [q2.2.1.1]; exact zRuc_k g1)
