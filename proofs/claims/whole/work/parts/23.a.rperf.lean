/-! the reference's perform -/
/-- what the reference's tricks rest on stays -/
def zFz (σ τ : zH) : Prop := zK τ = zK σ ∧ zN τ = zN σ ∧ zQ τ = zQ σ ∧ (∀ i, (i = 5 ∨ i = 29 ∨ i = 30 ∨ i = 38) → zI τ 160 i = zI σ 160 i) ∧ (∀ a, ((161 ≤ a ∧ a ≤ 165) ∨ (169 ≤ a ∧ a ≤ 179) ∨ a = 186) → zA τ a = zA σ a) ∧ zB τ 168 = zB σ 168
theorem zFq_z {σ τ : zH} (h : zFq σ τ) : zFz σ τ := by
  obtain ⟨a1, a2, a3, a4, a5, a6, a7, a8, a9, a10⟩ := h
  exact ⟨a1, a2, a3, fun i hi => a8 160 i (by omega), fun a ha => a9 a (by omega), a10 168 (by omega)⟩
theorem zFz_t {σ τ υ : zH} (h1 : zFz σ τ) (h2 : zFz τ υ) : zFz σ υ := by
  obtain ⟨a1, a2, a3, a4, a5, a6⟩ := h1
  obtain ⟨b1, b2, b3, b4, b5, b6⟩ := h2
  exact ⟨b1.trans a1, b2.trans a2, b3.trans a3, fun i hi => (b4 i hi).trans (a4 i hi), fun a ha => (b5 a ha).trans (a5 a ha), b6.trans a6⟩
theorem zMb_z {σ τ : zH} (h : zFz σ τ) (hM : zMb σ) : zMb τ := by
  unfold zMb at *
  rw [h.1, h.2.1, h.2.2.1]
  exact hM
theorem zDR_z {σ τ : zH} (h : zFz σ τ) {D : zDT} {n : Nat} (hD : zDR σ D n) : zDR τ D n := by
  obtain ⟨-, -, -, hI, hA, -⟩ := h
  unfold zDR at *
  rw [hI 5 (by omega), hA 162 (by omega), hA 163 (by omega), hA 164 (by omega)]
  exact hD
theorem zRs_z {σ τ : zH} (h : zFz σ τ) {s w p q g h0 : Nat} (hS : zRs σ s w p q g h0) : zRs τ s w p q g h0 := by
  obtain ⟨-, -, -, hI, hA, hB⟩ := h
  unfold zRs at *
  rw [hB, hA 169 (by omega), hA 170 (by omega), hA 171 (by omega), hA 172 (by omega)]
  exact hS
theorem zTr_z {σ τ : zH} (h : zFz σ τ) {lo hi f K v : Nat} {C : (zCd → Bool) → Bool} (hT : zTr σ lo hi f K v C) : zTr τ lo hi f K v C := by
  obtain ⟨-, -, -, hI, hA, hB⟩ := h
  exact zTr_c (fun v _ _ => ⟨by rw [hA 176 (by omega)], by rw [hA 177 (by omega)], by rw [hA 178 (by omega)], by rw [hA 179 (by omega)]⟩) f K v C hT
theorem zRSt_z {σ τ : zH} (h : zFz σ τ) {bk k : Nat} {s : zStp} (hS : zRSt σ bk k s) : zRSt τ bk k s := by
  obtain ⟨b1, b2, b3, b4, b5, b6, b7⟩ := hS
  have h' := h
  obtain ⟨-, -, -, hI, hA, hB⟩ := h
  refine ⟨by rw [hB]; exact b1, b2, b3, b4, fun e => ⟨zRs_z h' (b5 e).1, (b5 e).2⟩, fun e => by rw [hA 172 (by omega), hA 175 (by omega)]; exact b6 e, fun e => ?_⟩
  obtain ⟨c1, c2, v, C, f, lo, hi, c3, c4, c5, c6⟩ := b7 e
  rw [hA 174 (by omega), hA 175 (by omega), hA 173 (by omega)]
  exact ⟨c1, c2, v, C, f, lo, hi, c3, c4, zTr_z h' c5, c6⟩
theorem zRk_z {σ τ : zH} (h : zFz σ τ) {bk : Nat} {St : List zStp} (hS : zRk σ bk St) : zRk τ bk St := by
  obtain ⟨a1, a2, a3, a4, a5⟩ := hS
  have hI := h.2.2.2.1
  exact ⟨by rw [hI 29 (by omega)]; exact a1, a2, by rw [hI 30 (by omega)]; exact a3, a4, fun k hk => zRSt_z h (a5 k hk)⟩
/-- the reference's tape: signed bytes -/
def zRtp (σ : zH) (B : List Nat) : Prop := B.length ≤ 900 ∧ (∀ i, i < B.length → zA σ 161 i &&& nI 255 = nI (B.getD i 0)) ∧ ∀ c ∈ B, c < 256
theorem zRtp_z {σ τ : zH} (h : zFz σ τ) {B : List Nat} (hB : zRtp σ B) : zRtp τ B := by
  unfold zRtp at *
  rw [h.2.2.2.2.1 161 (by omega)]
  exact hB
/-- what performing may change -/
def zFp (σ τ : zH) : Prop := zK τ = zK σ ∧ zN τ = zN σ ∧ zQ τ = zQ σ ∧ zX τ = zX σ ∧ zL τ = zL σ ∧ zJ τ = zJ σ ∧ zS τ = zS σ ∧ (∀ a i, ¬ (a = 160 ∧ (i = 12 ∨ i = 57 ∨ i = 59 ∨ i = 60)) → zI τ a i = zI σ a i) ∧ (∀ a, ¬ (a = 166 ∨ a = 167 ∨ a = 180 ∨ a = 181) → zA τ a = zA σ a) ∧ zB τ = zB σ
theorem zFp_r (σ : zH) : zFp σ σ := ⟨rfl, rfl, rfl, rfl, rfl, rfl, rfl, fun _ _ _ => rfl, fun _ _ => rfl, rfl⟩
theorem zFp_t {σ τ υ : zH} (h1 : zFp σ τ) (h2 : zFp τ υ) : zFp σ υ := by
  obtain ⟨a1, a2, a3, a4, a5, a6, a7, a8, a9, a10⟩ := h1
  obtain ⟨b1, b2, b3, b4, b5, b6, b7, b8, b9, b10⟩ := h2
  exact ⟨b1.trans a1, b2.trans a2, b3.trans a3, b4.trans a4, b5.trans a5, b6.trans a6, b7.trans a7, fun a i h => (b8 a i h).trans (a8 a i h), fun a h => (b9 a h).trans (a9 a h), b10.trans a10⟩
theorem zFp_z {σ τ : zH} (h : zFp σ τ) : zFz σ τ := by
  obtain ⟨a1, a2, a3, a4, a5, a6, a7, a8, a9, a10⟩ := h
  exact ⟨a1, a2, a3, fun i hi => a8 160 i (by omega), fun a ha => a9 a (by omega), by rw [a10]⟩
theorem zFu_p {σ τ : zH} (h : zFu σ τ) : zFp σ τ := by
  obtain ⟨a1, a2, a3, a4, a5, a6, a7, a8, a9, a10⟩ := h
  exact ⟨a1, a2, a3, a4, a5, a6, a7, fun a i h => a8 a i (by omega), fun a h => a9 a (by omega), a10⟩
theorem zFp_I {σ : zH} {j : Nat} (v : Int32) (hj : j = 57 ∨ j = 59 ∨ j = 60) : zFp σ (zsI σ 160 j v) := by
  refine ⟨rfl, rfl, rfl, rfl, rfl, rfl, rfl, fun a i h => ?_, fun _ _ => rfl, rfl⟩
  simp only [zh]
  rw [if_neg (by omega)]
def zRsh (σ : zH) (n : Nat) (B : List Nat) (st : zPf) : Prop := zI σ 160 57 = nI (zbn1 st.1) ∧ zI σ 160 59 = nI st.2.2.1 ∧ zI σ 160 60 = nI st.2.2.2 ∧ zI σ 160 61 = nI B.length ∧ zRt σ (zpl st.2.1) (zmk st.2.1) ∧ st.2.2.1 ≤ B.length ∧ zVS n st.2.1
theorem zRt_sI {σ : zH} {j : Nat} {v : Int32} {P : Nat → List Nat} {mk : Nat} (hj : j ≠ 12) (h : zRt σ P mk) : zRt (zsI σ 160 j v) P mk := by
  refine ⟨h.1, ?_⟩
  simp only [zh]
  rw [if_neg (by omega)]
  exact h.2
theorem zRt_ts {σ : zH} {a : (Nat → List Nat) × Nat} (h : zRt σ a.1 a.2) : zRt σ (zpl (zts a)) (zmk (zts a)) := by
  refine ⟨fun p hp => ?_, h.2⟩
  rw [zpl_ts a hp]
  exact h.1 p hp
theorem zpf_stk {D : zDT} {St : List zStp} {B : List Nat} {f a b : Nat} {st : zPf} (h : st.1 = true) : zpf D St B f a b st = st := by
  cases f with
  | zero => rfl
  | succ f => rw [zpf, if_pos (Or.inr h)]
set_option maxHeartbeats 4000000 in
theorem l_thr {n bk : Nat} {σ0 : zH} {D : zDT} {St : List zStp} {B : List Nat} (hM0 : zMb σ0) (hD0 : zDR σ0 D n) (hb : zDb D) (hRk0 : zRk σ0 bk St) (hB0 : zRtp σ0 B) : ∀ (f d e a b dp : Nat), e + dp = 4 → zwf St f a b dp → b ≤ St.length → ∀ (σ : zH) (st : zPf) (Q : Option Value → zH → Prop), zRsh σ n B st → zFp σ0 σ → (∀ τ, zRsh τ n B (zpf D St B f a b st) → zFp σ0 τ → Q none τ) → zW (d + e + 22) 198 2 [(0, .ref 160), (2, .int (nI b)), (3, .int (nI a))] [] σ Q := by
  have h40 := hRk0.2.2.2.1
  intro f
  induction f with
  | zero =>
    intro d e a b dp he hwf hbl σ st Q hS hF hQ
    have hab : a = b := hwf
    refine b198_2 ?_
    rw [if_pos (nI_le (by omega) (by omega))]
    exact hQ σ hS hF
  | succ f ih =>
    intro d e a b dp he hwf hbl σ st Q hS hF hQ
    rw [zpf] at hQ
    have hS0 := hS
    obtain ⟨s1, s2, s3, s4, s5, s6, s7⟩ := hS
    rcases hwf with hab | ⟨hab, hwf⟩
    · rw [if_pos (Or.inl (by omega))] at hQ
      refine b198_2 ?_
      rw [if_pos (nI_le (by omega) (by omega))]
      exact hQ σ hS0 hF
    have hM := zMb_z (zFp_z hF) hM0
    have ⟨mK0, mQ1, mK1, mN1, mQ6, mK6, mN6, mQ7, mK7, mN7, mQ8, mK8, mN8, mQ9, mK9, mN9, mQ10, mK10, mN10, mQ11, mK11, mN11, mQ21, mK21, mN21, mQ22, mK22, mN22, mQ23, mK23, mN23, mQ24, mK24, mN24, mQ25, mK25, mN25, mQ26, mK26, mN26, mQ27, mK27, mN27, mQ28, mK28, mN28, mQ32, mK32, mN32, mQ33, mK33, mN33, mQ34, mK34, mN34, mQ35, mK35, mN35, mQ40, mK40, mN40, mQ41, mK41, mN41, mQ42, mK42, mN42, mQ43, mK43, mN43, mQ44, mK44, mN44, mQ45, mK45, mN45, mQ62, mK62, mN62⟩ := hM
    obtain ⟨k1, k2, k3, k4, k5⟩ := zRk_z (zFp_z hF) hRk0
    have hRS0 := hRk0.2.2.2.2 a (by omega)
    obtain ⟨b1, b2, b3, b4, b5, b6, b7⟩ := k5 a (by omega)
    obtain ⟨si, hsi⟩ : ∃ si, si = 48 * bk + a := ⟨_, rfl⟩
    have hsi96 : si < 96 := by omega
    have hidx : nI 48 * nI bk + nI a = nI si := by rw [pk_mul, nI_add, hsi]
    have hcl : (nI si).toNatClampNeg = si := zcl si (by omega)
    rw [← hsi] at b1 b5 b6 b7
    have hl11 := zlgl (w := zpW (zSg St a)) 11 499984983411 (by omega) (by decide) (by decide)
    have hl12 := zlgl (w := zpW (zSg St a)) 12 26982 (by omega) (by decide) (by decide)
    rw [nI_0] at hl11 hl12
    cases hst : st.1 with
    | true =>
      rw [if_pos (Or.inr hst)] at hQ
      refine b198_2 ?_
      rw [if_neg (nI_ge hab (by omega)), s1, hst, if_pos (by decide)]
      exact ⟨mK0, hQ σ hS0 hF⟩
    | false =>
    rw [if_neg (by rw [hst]; simp; omega)] at hQ
    -- behind the step
    have cont : ∀ (st1 : zPf) (τ : zH), zwf St f (zpA (zSg St a)) b dp → (∀ υ, zRsh υ n B (zpf D St B f (zpA (zSg St a)) b (zdn1 st1)) → zFp σ0 υ → Q none υ) → zRsh τ n B st1 → zFp σ0 τ → zW (d + e + 22) 198 274 [(0, .ref 160), (2, .int (nI b)), (3, .int (nI (zpA (zSg St a))))] [] τ Q := by
      intro st1 τ hwf1 hQ1 hS1 hF1
      have hS1' := hS1
      obtain ⟨t1, t2, t3, t4, t5, t6, t7⟩ := hS1
      refine b198_274 ?_
      rw [t1, t3]
      refine ⟨(zMb_z (zFp_z hF1) hM0).1, ?_⟩
      cases hst1 : st1.1 with
      | true =>
        rw [if_pos (by decide)]
        have hd : zdn1 st1 = st1 := by unfold zdn1; rw [if_pos hst1]
        rw [hd] at hQ1
        exact ih d e _ b dp he hwf1 hbl τ st1 Q hS1' hF1 hQ1
      | false =>
        rw [if_neg (by decide), nI_add]
        have hd : zdn1 st1 = (false, st1.2.1, st1.2.2.1, st1.2.2.2 + 1) := by unfold zdn1; rw [if_neg (by rw [hst1]; decide)]
        rw [hd] at hQ1
        refine ih d e _ b dp he hwf1 hbl _ (false, st1.2.1, st1.2.2.1, st1.2.2.2 + 1) Q ⟨?_, ?_, ?_, ?_, zRt_sI (by decide) t5, t6, t7⟩ (zFp_t hF1 (zFp_I _ (by omega))) hQ1 <;> simp only [zh] <;> simp
        · rw [t1, hst1]
        · exact t2
        · exact t4
    refine b198_2 ?_
    rw [if_neg (nI_ge hab (by omega)), s1, hst, if_neg (by decide), k1, hidx, mQ21, mK21, mN21, hcl, b1]
    refine ⟨mK0, rfl, vp_in_nI (by omega) (by omega), ?_⟩
    rcases hwf with ⟨w10, wA, hwf1⟩ | ⟨w11, hdp, g1, g2, hwf1, hwf2⟩ | ⟨w12, hdp, g1, g2, g3, hwf1, hwf2, hwf3⟩
    · rw [if_pos (fun q => by have := hl11.mp q; omega), if_pos (fun q => by have := hl12.mp q; omega), nI_add]
      rw [if_neg (by omega), if_neg (by omega)] at hQ
      obtain ⟨hRs, hSw⟩ := b5 w10
      obtain ⟨s, hs⟩ : ∃ s, s = zSg St a := ⟨_, rfl⟩
      rw [← hs] at hRs hSw hQ cont wA
      obtain ⟨sk, x, tk, dn⟩ := st
      simp only at s1 s2 s3 s5 s6 s7 hst
      subst hst
      have hV : zVP n (zpl x) (zmk x) := s7
      have ht9 : zTot (zpl x) ≤ 9 := by have := hV.1; have := hV.2.1; omega
      have hak := zasks_le hSw hV
      have hap := zasks_pos hSw hV
      rw [← wA]
      refine p_asks (d := d + e + 20) hM hsi96 hRs hSw s5 ht9 ?_
      rw [zqi_s]
      by_cases hfr : zfree (zpW s) (zpH s) = true
      · rw [if_pos hfr, if_neg (nI_nle (by omega) (by omega)), s2, s4]
        refine ⟨mK0, ?_⟩
        obtain ⟨t1, t2, t3⟩ := zRtp_z (zFp_z hF) hB0
        -- stuck
        have hstuck : B.length ≤ tk ∨ zasks (zpW s) (zpP s) (zpQ s) (zpl x) ≤ B.getD tk 0 → zW (d + e + 22) 198 2 [(0, .ref 160), (2, .int (nI b)), (3, .int (nI a))] [] (zsI σ 160 57 (nI 1)) Q := by
          intro h
          have hz : zdn1 (zpp B s (false, x, tk, dn)) = (true, x, tk, dn) := by
            unfold zpp
            rw [if_pos hfr, if_pos h]
            rfl
          rw [hz] at hQ
          have hq : Q none (zsI σ 160 57 (nI 1)) := by
            refine hQ _ ?_ (zFp_t hF (zFp_I _ (by omega)))
            have hzz : zpf D St B f (zpA s) b (true, x, tk, dn) = (true, x, tk, dn) := by
              cases f with
              | zero => rfl
              | succ f => rw [zpf, if_pos (Or.inr rfl)]
            rw [hzz]
            refine ⟨?_, ?_, ?_, ?_, zRt_sI (by decide) s5, s6, s7⟩ <;> simp only [zh] <;> simp <;> first | assumption | rfl
          refine b198_2 ?_
          split
          · exact hq
          · rw [show zI (zsI σ 160 57 (nI 1)) 160 57 = nI 1 by simp only [zh]; simp, if_pos (by decide)]
            exact ⟨mK0, hq⟩
        by_cases hl : tk = B.length
        · rw [if_pos (by rw [hl])]
          refine b198_225 ?_
          rw [show zI (zsI σ 160 57 (nI 1)) 160 57 = nI 1 by simp only [zh]; simp, if_neg (by decide)]
          exact ⟨mK0, Or.inr rfl, mK0, hstuck (Or.inl (by omega))⟩
        · have hclt : (nI tk).toNatClampNeg = tk := zcl tk (by omega)
          have e1 := t2 tk (by omega)
          have hB256 : B.getD tk 0 < 256 := t3 _ (zgd_mem (by omega))
          rw [if_neg (fun q => hl ((nI_eq (by omega) (by omega)).mp q)), mQ1, mK1, mN1, hclt, e1]
          refine ⟨rfl, vp_in_nI (by omega) (by omega), ?_⟩
          by_cases hlt : B.getD tk 0 < zasks (zpW s) (zpP s) (zpQ s) (zpl x)
          · rw [if_pos (nI_lt hlt (by omega))]
            have e57 : zI (zsI σ 160 57 (nI 0)) 160 57 = nI 0 := by simp only [zh]; simp
            have e59 : zI (zsI σ 160 57 (nI 0)) 160 59 = nI tk := by simp only [zh]; simpa using s2
            rw [e57, e59, if_pos (by decide), hclt, e1, nI_add]
            refine ⟨vp_in_nI (by omega) (by omega), ?_⟩
            have hF1 : zFp σ (zsI (zsI σ 160 57 (nI 0)) 160 59 (nI (tk + 1))) := zFp_t (zFp_I _ (by omega)) (zFp_I _ (by omega))
            refine p_ract (d := d + e + 19) (zMb_z (zFp_z hF1) hM) hsi96 (zRs_z (zFp_z hF1) hRs) hSw (zRt_sI (by decide) (zRt_sI (by decide) s5)) ht9 hV.2.2.1 (fun _ => hlt) (by omega) (fun τ hu hT => ?_)
            rw [zqv_s]
            have hz : zpp B s (false, x, tk, dn) = (false, zacS s x (B.getD tk 0), tk + 1, dn) := by unfold zpp; rw [if_pos hfr, if_neg (by simp only; omega)]
            have hI := hu.2.2.2.2.2.2.2.1
            refine cont _ τ (by rw [wA]; exact hwf1) hQ ?_ (zFp_t hF (zFp_t hF1 (zFu_p hu)))
            rw [hz]
            refine ⟨?_, ?_, ?_, ?_, zRt_ts hT, by show tk + 1 ≤ B.length; omega, zVS_ts (zact_V hSw hV)⟩
            · rw [hI 160 57 (by omega)]; simp only [zh]; simp; rfl
            · rw [hI 160 59 (by omega)]; simp only [zh]; simp
            · rw [hI 160 60 (by omega)]; simp only [zh]; simpa using s3
            · rw [hI 160 61 (by omega)]; simp only [zh]; simpa using s4
          · rw [if_neg (nI_nlt (by omega) (by omega))]
            have e57 : zI (zsI σ 160 57 (nI 1)) 160 57 = nI 1 := by simp only [zh]; simp
            rw [e57, if_neg (by decide)]
            exact hstuck (Or.inr (by omega))
      · rw [if_neg hfr, if_pos (by decide)]
        refine ⟨mK0, p_ract (d := d + e + 19) hM hsi96 hRs hSw s5 ht9 hV.2.2.1 (fun h => absurd h hfr) (by decide) (fun τ hu hT => ?_)⟩
        rw [zqv_s]
        have hz : zpp B s (false, x, tk, dn) = (false, zacS s x 0, tk, dn) := by unfold zpp; rw [if_neg hfr]
        have hI := hu.2.2.2.2.2.2.2.1
        refine cont _ τ (by rw [wA]; exact hwf1) hQ ?_ (zFp_t hF (zFu_p hu))
        rw [hz]
        exact ⟨by rw [hI 160 57 (by omega)]; exact s1, by rw [hI 160 59 (by omega)]; exact s2, by rw [hI 160 60 (by omega)]; exact s3, by rw [hI 160 61 (by omega)]; exact s4, zRt_ts hT, s6, zVS_ts (zact_V hSw hV)⟩
    · -- times
      rw [if_neg (by rw [hl11]; exact fun q => q w11)]
      rw [if_pos w11] at hQ
      obtain ⟨e', rfl⟩ : ∃ e', e = e' + 1 := ⟨e - 1, by omega⟩
      obtain ⟨h01, h02, h03, h04⟩ := b6 w11
      have loop : ∀ (m j : Nat), j + m = zpH (zSg St a) → ∀ τ st1, zRsh τ n B st1 → zFp σ0 τ → zit (fun s => zpf D St B f (a + 1) (zpA (zSg St a)) s) (zpH (zSg St a)) st = zit (fun s => zpf D St B f (a + 1) (zpA (zSg St a)) s) m st1 → zW (d + (e' + 1) + 22) 198 42 [(0, .ref 160), (2, .int (nI b)), (3, .int (nI a)), (4, .int (nI si)), (5, .int (nI j))] [] τ Q := by
        intro m
        induction m with
        | zero =>
          intro j hj τ st1 hS1 hF1 hr
          have ⟨mK0, mQ1, mK1, mN1, mQ6, mK6, mN6, mQ7, mK7, mN7, mQ8, mK8, mN8, mQ9, mK9, mN9, mQ10, mK10, mN10, mQ11, mK11, mN11, mQ21, mK21, mN21, mQ22, mK22, mN22, mQ23, mK23, mN23, mQ24, mK24, mN24, mQ25, mK25, mN25, mQ26, mK26, mN26, mQ27, mK27, mN27, mQ28, mK28, mN28, mQ32, mK32, mN32, mQ33, mK33, mN33, mQ34, mK34, mN34, mQ35, mK35, mN35, mQ40, mK40, mN40, mQ41, mK41, mN41, mQ42, mK42, mN42, mQ43, mK43, mN43, mQ44, mK44, mN44, mQ45, mK45, mN45, mQ62, mK62, mN62⟩ := zMb_z (zFp_z hF1) hM0
          obtain ⟨-, -, -, -, -, d6, -⟩ := zRSt_z (zFp_z hF1) hRS0
          rw [← hsi] at d6
          obtain ⟨i1, i2, i3, i4⟩ := d6 w11
          refine b198_42 ?_
          rw [mQ25, mK25, mN25, mQ28, mK28, mN28, hcl, i1, i4, if_pos (nI_le (by omega) (by omega))]
          rw [hr, zit] at hQ
          exact ⟨mK0, rfl, vp_in_nI (by omega) (by omega), rfl, vp_in_nI (by omega) (by omega), cont st1 τ hwf2 hQ hS1 hF1⟩
        | succ m ihm =>
          intro j hj τ st1 hS1 hF1 hr
          have ⟨mK0, mQ1, mK1, mN1, mQ6, mK6, mN6, mQ7, mK7, mN7, mQ8, mK8, mN8, mQ9, mK9, mN9, mQ10, mK10, mN10, mQ11, mK11, mN11, mQ21, mK21, mN21, mQ22, mK22, mN22, mQ23, mK23, mN23, mQ24, mK24, mN24, mQ25, mK25, mN25, mQ26, mK26, mN26, mQ27, mK27, mN27, mQ28, mK28, mN28, mQ32, mK32, mN32, mQ33, mK33, mN33, mQ34, mK34, mN34, mQ35, mK35, mN35, mQ40, mK40, mN40, mQ41, mK41, mN41, mQ42, mK42, mN42, mQ43, mK43, mN43, mQ44, mK44, mN44, mQ45, mK45, mN45, mQ62, mK62, mN62⟩ := zMb_z (zFp_z hF1) hM0
          obtain ⟨-, -, -, -, -, d6, -⟩ := zRSt_z (zFp_z hF1) hRS0
          rw [← hsi] at d6
          obtain ⟨i1, i2, i3, i4⟩ := d6 w11
          refine b198_42 ?_
          rw [mQ25, mK25, mN25, mQ28, mK28, mN28, hcl, i1, i4, if_neg (nI_ge (by omega) (by omega)), hS1.1]
          refine ⟨mK0, rfl, vp_in_nI (by omega) (by omega), ?_⟩
          cases hk : st1.1 with
          | true =>
            rw [if_pos (by decide)]
            have hz : ∀ m', zit (fun s => zpf D St B f (a + 1) (zpA (zSg St a)) s) m' st1 = st1 := by
              intro m'
              induction m' with
              | zero => rfl
              | succ m' ihz => rw [zit, zpf_stk hk]; exact ihz
            rw [hr, hz] at hQ
            exact ⟨rfl, vp_in_nI (by omega) (by omega), cont st1 τ hwf2 hQ hS1 hF1⟩
          | false =>
            rw [if_neg (by decide), nI_add, nI_add]
            refine ⟨rfl, vp_in_nI (by omega) (by omega), ?_⟩
            rw [show d + (e' + 1) + 21 = d + e' + 22 by omega]
            refine b198 ?_
            refine ih d e' (a + 1) (zpA (zSg St a)) (dp + 1) (by omega) hwf1 (by omega) τ st1 _ hS1 hF1 (fun υ hS2 hF2 => ?_)
            rw [zqv_s, show d + e' + 22 + 1 = d + (e' + 1) + 22 by omega]
            exact ihm (j + 1) (by omega) υ _ hS2 hF2 (by rw [hr, zit])
      exact loop (zpH (zSg St a)) 0 (by omega) σ st hS0 hF rfl
    · -- if
      rw [if_pos (by rw [hl11]; omega), if_neg (by rw [hl12]; exact fun q => q w12)]
      rw [if_neg (by omega), if_pos w12] at hQ
      obtain ⟨e', rfl⟩ : ∃ e', e = e' + 1 := ⟨e - 1, by omega⟩
      obtain ⟨i1, i2, v, C, f', lo, hi, i3, i4, i5, i6⟩ := b7 w12
      rw [mQ26, mK26, mN26, i3]
      refine ⟨rfl, vp_in_nI (by omega) (by omega), ?_⟩
      refine p_hold (d := d + e' + 2) hM (zDR_z (zFp_z hF) hD0) s5 s7 hb i4 i5 ?_
      rw [zqi_s, ← i6, show ztop (zev (zct D (zmk st.2.1) (zpl st.2.1)) (zpC (zSg St a)) []) = zmeet D (zpC (zSg St a)) st.2.1 from rfl]
      have fin : ∀ a' b', zwf St f a' b' (dp + 1) → b' ≤ St.length → (∀ υ, zRsh υ n B (zpf D St B f (zpA (zSg St a)) b (zdn1 (zpf D St B f a' b' st))) → zFp σ0 υ → Q none υ) → zW (d + (e' + 1) + 22) 198 160 [(0, .ref 160), (2, .int (nI b)), (4, .int (nI si))] [.int (nI b'), .int (nI a'), .ref 160] σ Q := by
        intro a' b' hw' hb' hQ'
        refine b198_160 ?_
        refine ⟨mK0, ?_⟩
        rw [show d + (e' + 1) + 21 = d + e' + 22 by omega]
        refine b198 ?_
        refine ih d e' a' b' (dp + 1) (by omega) hw' hb' σ st _ hS0 hF (fun υ hS2 hF2 => ?_)
        have ⟨mK0, mQ1, mK1, mN1, mQ6, mK6, mN6, mQ7, mK7, mN7, mQ8, mK8, mN8, mQ9, mK9, mN9, mQ10, mK10, mN10, mQ11, mK11, mN11, mQ21, mK21, mN21, mQ22, mK22, mN22, mQ23, mK23, mN23, mQ24, mK24, mN24, mQ25, mK25, mN25, mQ26, mK26, mN26, mQ27, mK27, mN27, mQ28, mK28, mN28, mQ32, mK32, mN32, mQ33, mK33, mN33, mQ34, mK34, mN34, mQ35, mK35, mN35, mQ40, mK40, mN40, mQ41, mK41, mN41, mQ42, mK42, mN42, mQ43, mK43, mN43, mQ44, mK44, mN44, mQ45, mK45, mN45, mQ62, mK62, mN62⟩ := zMb_z (zFp_z hF2) hM0
        obtain ⟨-, -, -, -, -, -, d7⟩ := zRSt_z (zFp_z hF2) hRS0
        rw [← hsi] at d7
        rw [zqv_s, mQ28, mK28, mN28, hcl, (d7 w12).2.1, show d + e' + 22 + 1 = d + (e' + 1) + 22 by omega]
        exact ⟨mK0, rfl, vp_in_nI (by omega) (by omega), cont _ υ hwf3 hQ' hS2 hF2⟩
      cases hm : zmeet D (zpC (zSg St a)) st.2.1 with
      | true =>
        rw [hm, if_pos rfl] at hQ
        rw [if_neg (by decide), nI_add]
        refine b198_138 ?_
        rw [if_neg (by decide), mQ27, mK27, mN27, hcl, i1]
        exact ⟨mK0, rfl, vp_in_nI (by omega) (by omega), fin _ _ hwf1 (by omega) hQ⟩
      | false =>
        rw [hm, if_neg (by decide)] at hQ
        rw [if_pos (by decide), mQ27, mK27, mN27, i1]
        refine ⟨mK0, rfl, vp_in_nI (by omega) (by omega), b198_138 ?_⟩
        rw [if_pos (by decide), mQ28, mK28, mN28, hcl, i2]
        exact ⟨mK0, rfl, vp_in_nI (by omega) (by omega), fin _ _ hwf2 (by omega) hQ⟩
