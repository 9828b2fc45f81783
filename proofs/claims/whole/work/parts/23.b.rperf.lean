/-! the reference's perform, whole -/
def zFv (σ τ : zH) : Prop := zK τ = zK σ ∧ zN τ = zN σ ∧ zQ τ = zQ σ ∧ zX τ = zX σ ∧ zL τ = zL σ ∧ (∀ a i, ¬ (a = 160 ∧ i = 58) → zJ τ a i = zJ σ a i) ∧ zS τ = zS σ ∧ (∀ a i, ¬ (a = 160 ∧ (i = 0 ∨ i = 2 ∨ i = 12 ∨ i = 56 ∨ i = 57 ∨ i = 59 ∨ i = 60 ∨ i = 61)) → zI τ a i = zI σ a i) ∧ (∀ a, ¬ (a = 166 ∨ a = 167 ∨ a = 180 ∨ a = 181) → zA τ a = zA σ a) ∧ zB τ = zB σ
theorem zFv_z {σ τ : zH} (h : zFv σ τ) : zFz σ τ := by
  obtain ⟨a1, a2, a3, a4, a5, a6, a7, a8, a9, a10⟩ := h
  exact ⟨a1, a2, a3, fun i hi => a8 160 i (by omega), fun a ha => a9 a (by omega), by rw [a10]⟩
theorem zFp_v {σ τ : zH} (h : zFp σ τ) : zFv σ τ := by
  obtain ⟨a1, a2, a3, a4, a5, a6, a7, a8, a9, a10⟩ := h
  exact ⟨a1, a2, a3, a4, a5, fun a i _ => by rw [a6], a7, fun a i h => a8 a i (by omega), fun a h => a9 a (by omega), a10⟩
theorem zFv_t {σ τ υ : zH} (h1 : zFv σ τ) (h2 : zFv τ υ) : zFv σ υ := by
  obtain ⟨a1, a2, a3, a4, a5, a6, a7, a8, a9, a10⟩ := h1
  obtain ⟨b1, b2, b3, b4, b5, b6, b7, b8, b9, b10⟩ := h2
  exact ⟨b1.trans a1, b2.trans a2, b3.trans a3, b4.trans a4, b5.trans a5, fun a i h => (b6 a i h).trans (a6 a i h), b7.trans a7, fun a i h => (b8 a i h).trans (a8 a i h), fun a h => (b9 a h).trans (a9 a h), b10.trans a10⟩
def zRpd (τ : zH) (B : List Nat) (st : zPf) : Prop := zI τ 160 0 = nI 0 ∧ zI τ 160 2 = nI 0 ∧ zI τ 160 56 = nI 1 ∧ zI τ 160 57 = nI (zbn1 st.1) ∧ zJ τ 160 58 = lN (zkRP (zpl st.2.1) (zmk st.2.1)) ∧ zI τ 160 59 = nI st.2.2.1 ∧ zI τ 160 60 = nI st.2.2.2 ∧ zI τ 160 61 = nI B.length
set_option maxHeartbeats 4000000 in
theorem p_rperf {d n bk f : Nat} {σ : zH} {D : zDT} {St : List zStp} {B : List Nat} {row : List Nat} (hM : zMb σ) (hD : zDR σ D n) (hb : zDb D) (hRk : zRk σ bk St) (hB : zRtp σ B) (h2 : zI σ 160 2 = nI B.length) (hn9 : n ≤ 9) (hrl : row.length = n) (hrow : ∀ i, i < n → zA σ 165 i = nI (zsR (row.getD i 0))) (hrc : ∀ c ∈ row, zco c) (hwf : zwf St f 0 St.length 0) {Q : Option Value → zH → Prop} (hQ : ∀ τ, zFv σ τ → zRpd τ B (zpf D St B f 0 St.length (false, (row, [], [], [], 0), 0, 0)) → Q (some (.int (if (zpf D St B f 0 St.length (false, (row, [], [], [], 0), 0, 0)).1 then (-1) - nI (zpf D St B f 0 St.length (false, (row, [], [], [], 0), 0, 0)).2.2.2 else nI (zpf D St B f 0 St.length (false, (row, [], [], [], 0), 0, 0)).2.2.2))) τ) : zM (d + 27) 197 [.ref 160] σ Q := by
  have ⟨mK0, mQ1, mK1, mN1, mQ6, mK6, mN6, mQ7, mK7, mN7, mQ8, mK8, mN8, mQ9, mK9, mN9, mQ10, mK10, mN10, mQ11, mK11, mN11, mQ21, mK21, mN21, mQ22, mK22, mN22, mQ23, mK23, mN23, mQ24, mK24, mN24, mQ25, mK25, mN25, mQ26, mK26, mN26, mQ27, mK27, mN27, mQ28, mK28, mN28, mQ32, mK32, mN32, mQ33, mK33, mN33, mQ34, mK34, mN34, mQ35, mK35, mN35, mQ40, mK40, mN40, mQ41, mK41, mN41, mQ42, mK42, mN42, mQ43, mK43, mN43, mQ44, mK44, mN44, mQ45, mK45, mN45, mQ62, mK62, mN62⟩ := hM
  refine b197 ?_
  refine ⟨mK0, ?_⟩
  rw [mQ9, show zI (zsI σ 160 0 (nI 0)) 160 2 = nI B.length by simp only [zh]; simpa using h2]
  have hF1 : zFv σ (zsI (zsI (zsI (zsI (zsI (zsI σ 160 0 (nI 0)) 160 61 (nI B.length)) 160 2 (nI 0)) 160 59 (nI 0)) 160 60 (nI 0)) 160 57 (nI 0)) := by
    refine ⟨rfl, rfl, rfl, rfl, rfl, fun _ _ _ => rfl, rfl, fun a i h => ?_, fun _ _ => rfl, rfl⟩
    simp only [zh]
    repeat rw [if_neg (by omega)]
  obtain ⟨σ1, hσ1⟩ : ∃ σ1, σ1 = zsI (zsI (zsI (zsI (zsI (zsI σ 160 0 (nI 0)) 160 61 (nI B.length)) 160 2 (nI 0)) 160 59 (nI 0)) 160 60 (nI 0)) 160 57 (nI 0) := ⟨_, rfl⟩
  have e0 : zI σ1 160 0 = nI 0 ∧ zI σ1 160 2 = nI 0 ∧ zI σ1 160 57 = nI 0 ∧ zI σ1 160 59 = nI 0 ∧ zI σ1 160 60 = nI 0 ∧ zI σ1 160 61 = nI B.length := by
    rw [hσ1]
    refine ⟨?_, ?_, ?_, ?_, ?_, ?_⟩ <;> simp only [zh] <;> simp
  rw [← hσ1] at hF1 ⊢
  clear hσ1
  obtain ⟨e1, e2, e3, e4, e5, e6⟩ := e0
  have hz1 := zFv_z hF1
  have hM1 := zMb_z hz1 hM
  have hD1 := zDR_z hz1 hD
  refine p_rlay hM1 hD1.1 hn9 (Or.inl rfl) hrl (by rw [hz1.2.2.2.2.1 165 (by omega)]; exact hrow) (fun c hc => (zco_0 (hrc c hc)).2) (fun σ2 hu2 hT2 => ?_)
  have hI2 := hu2.2.2.2.2.2.2.2.1
  have hp2 := zFu_p hu2
  have hF2 := zFv_t hF1 (zFp_v hp2)
  have hz2 := zFv_z hF2
  have hRk2 := zRk_z hz2 hRk
  rw [zqv_s, hRk2.2.2.1]
  refine ⟨(zMb_z hz2 hM).1, b198 ?_⟩
  have hS2 : zRsh σ2 n B (false, (row, [], [], [], 0), 0, 0) := ⟨by rw [hI2 160 57 (by omega), e3]; rfl, by rw [hI2 160 59 (by omega)]; exact e4, by rw [hI2 160 60 (by omega)]; exact e5, by rw [hI2 160 61 (by omega)]; exact e6, hT2, Nat.zero_le _, zVS_row hn9 hrl hrc⟩
  refine l_thr (σ0 := σ2) (zMb_z hz2 hM) (zDR_z hz2 hD) hb hRk2 (zRtp_z hz2 hB) f d 4 0 St.length 0 rfl hwf (Nat.le_refl _) σ2 _ _ hS2 (zFp_r σ2) (fun σ3 hS3 hF3 => ?_)
  generalize zpf D St B f 0 St.length (false, (row, [], [], [], 0), 0, 0) = st at hS3 hQ ⊢
  obtain ⟨t1, t2, t3, t4, t5, t6, t7⟩ := hS3
  have hF3' := zFv_t hF2 (zFp_v hF3)
  have hM3 := zMb_z (zFv_z hF3') hM
  rw [zqv_s]
  refine ⟨hM3.1, p_told hM3 t5 t7 ?_⟩
  rw [zql_s]
  have i57 : zI (zsI σ3 160 56 (nI 1)) 160 57 = nI (zbn1 st.1) := by simp only [zh]; simpa using t1
  have i60 : zI (zsI σ3 160 56 (nI 1)) 160 60 = nI st.2.2.2 := by simp only [zh]; simpa using t3
  rw [i57, i60]
  refine ⟨hM3.1, ?_⟩
  have hF4 : zFv σ3 (zsI (zsJ σ3 160 58 (lN (zkRP (zpl st.2.1) (zmk st.2.1)))) 160 56 (nI 1)) := by
    refine ⟨rfl, rfl, rfl, rfl, rfl, fun a i h => ?_, rfl, fun a i h => ?_, fun _ _ => rfl, rfl⟩
    · simp only [zh]
      rw [if_neg (by omega)]
    · simp only [zh]
      rw [if_neg (by omega)]
  have hI3 := hF3.2.2.2.2.2.2.2.1
  have hq := hQ (zsI (zsJ σ3 160 58 (lN (zkRP (zpl st.2.1) (zmk st.2.1)))) 160 56 (nI 1)) (zFv_t hF3' hF4) (by
    refine ⟨?_, ?_, ?_, ?_, ?_, ?_, ?_, ?_⟩ <;> simp only [zh] <;> simp
    · rw [hI3 160 0 (by omega), hI2 160 0 (by omega)]; exact e1
    · rw [hI3 160 2 (by omega), hI2 160 2 (by omega)]; exact e2
    · exact t1
    · exact t2
    · exact t3
    · exact t4)
  cases hs : st.1 with
  | true =>
    rw [hs, if_pos rfl] at hq
    rw [if_neg (by decide)]
    exact hq
  | false =>
    rw [hs, if_neg (by decide)] at hq
    rw [if_pos (by decide)]
    exact hq
