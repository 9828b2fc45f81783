/-! the class's signs, and split -/
theorem e_sgk {d c : Nat} {eq : Bool} {σ : zH} (hc : c < 256) {Q : Option Value → zH → Prop} (hQ : Q (some (.int (nI (zsk c eq)))) σ) : zM d 91 [.int (nI c), .int (nI (zbn1 eq))] σ Q := by
  refine b91 ?_
  unfold zsk at hQ
  by_cases h33 : c = 33
  · rw [if_pos h33] at hQ
    rw [if_pos (by rw [h33])]
    cases eq <;> exact hQ
  rw [if_neg h33] at hQ
  rw [if_neg (fun q => h33 ((nI_eq (by omega) (by omega)).mp q))]
  by_cases h40 : c = 40
  · rw [if_pos h40] at hQ
    rw [if_pos (by rw [h40])]
    exact hQ
  rw [if_neg h40] at hQ
  rw [if_neg (fun q => h40 ((nI_eq (by omega) (by omega)).mp q))]
  by_cases h41 : c = 41
  · rw [if_pos h41] at hQ
    rw [if_pos (by rw [h41])]
    exact hQ
  rw [if_neg h41] at hQ
  rw [if_neg (fun q => h41 ((nI_eq (by omega) (by omega)).mp q))]
  by_cases h59 : c = 59
  · rw [if_pos h59] at hQ
    rw [if_pos (by rw [h59])]
    exact hQ
  rw [if_neg h59] at hQ
  rw [if_neg (fun q => h59 ((nI_eq (by omega) (by omega)).mp q))]
  by_cases h60 : c = 60
  · rw [if_pos h60] at hQ
    rw [if_pos (by rw [h60])]
    cases eq <;> exact hQ
  rw [if_neg h60] at hQ
  rw [if_neg (fun q => h60 ((nI_eq (by omega) (by omega)).mp q))]
  by_cases h61 : c = 61
  · rw [if_pos h61] at hQ
    rw [if_pos (by rw [h61])]
    exact hQ
  rw [if_neg h61] at hQ
  rw [if_neg (fun q => h61 ((nI_eq (by omega) (by omega)).mp q))]
  by_cases h62 : c = 62
  · rw [if_pos h62] at hQ
    rw [if_pos (by rw [h62])]
    cases eq <;> exact hQ
  rw [if_neg h62] at hQ
  rw [if_neg (fun q => h62 ((nI_eq (by omega) (by omega)).mp q))]
  by_cases h123 : c = 123
  · rw [if_pos h123] at hQ
    rw [if_pos (by rw [h123])]
    exact hQ
  rw [if_neg h123] at hQ
  rw [if_neg (fun q => h123 ((nI_eq (by omega) (by omega)).mp q))]
  by_cases h125 : c = 125
  · rw [if_pos h125] at hQ
    rw [if_pos (by rw [h125])]
    exact hQ
  rw [if_neg h125] at hQ
  rw [if_neg (fun q => h125 ((nI_eq (by omega) (by omega)).mp q))]
  exact hQ
theorem zsk_lt (c : Nat) (eq : Bool) : zsk c eq < 49 := by
  unfold zsk
  cases eq <;> (repeat' split) <;> omega
set_option maxHeartbeats 2000000 in
theorem p_sgn {d i : Nat} {σ : zH} {B : List Nat} {T : List zTok} (hB : zTp σ B) (hT : zTks σ T) (hl : T.length ≤ 900) (hi : i < B.length) (hR : zcR (B.getD i 0) = false) {Q : Option Value → zH → Prop} (hQ : ∀ τ, zTks τ (T ++ [(ztk B i).1]) → zFr 10 14 σ τ → Q (some (.int (nI (ztk B i).2))) τ) : zM (d + 1) 90 [.ref 10, .ref 2, .int (nI i)] σ Q := by
  have ⟨t1, t2, t3, t4, t5, t6, t7, t8⟩ := hB
  have k9 := hT.1.1
  have hz : ztk B i = ((zsk (B.getD i 0) (zeqn B i), 0, i), i + zsl (zsk (B.getD i 0) (zeqn B i))) := by unfold ztk; rw [if_neg (by rw [hR]; decide)]
  rw [hz] at hQ
  simp only at hQ
  have h256 : B.getD i 0 < 256 := t8 _ (zgd_mem (by omega))
  have hcli : (nI i).toNatClampNeg = i := zcl i (by omega)
  have hk := zsk_lt (B.getD i 0) (zeqn B i)
  have hA := t7 i hi
  obtain ⟨k, hkk⟩ : ∃ k, k = zsk (B.getD i 0) (zeqn B i) := ⟨_, rfl⟩
  refine b90 ?_
  rw [t1, t2, t3, t4, t5, nI_add, hcli, hA]
  refine ⟨rfl, ?_⟩
  by_cases h1 : i + 1 < B.length
  · have hcli1 : (nI (i + 1)).toNatClampNeg = i + 1 := zcl _ (by omega)
    have h256' : B.getD (i + 1) 0 < 256 := t8 _ (zgd_mem h1)
    have e : (if ¬ nI (B.getD (i + 1) 0) = nI 61 then nI 0 else nI 1) = nI (zbn1 (zeqn B i)) := by
      unfold zeqn
      by_cases h61 : B.getD (i + 1) 0 = 61
      · rw [if_neg (by rw [h61]; exact fun q => q rfl), decide_eq_true h1, decide_eq_true h61]
        rfl
      · rw [if_pos (fun q => h61 ((nI_eq (by omega) (by omega)).mp q)), decide_eq_true h1, decide_eq_false h61]
        rfl
    rw [if_neg (nI_ge (by omega) (by omega)), hcli1, t7 _ h1, e]
    refine ⟨rfl, vp_in_nI (by omega) (by omega), vp_in_nI (by omega) (by omega), e_sgk h256 ?_⟩
    rw [zqi_s]
    rw [← hkk] at hQ hk ⊢
    refine ⟨k9, p_tadd (v := 0) hT hl (fun τ g1 g2 => ?_)⟩
    have q := hQ τ g1 g2
    rw [zqv_s]
    unfold zsl at q
    by_cases c43 : k = 43
    · rw [if_pos (by rw [c43])]
      rw [if_pos (Or.inl c43)] at q
      refine b90_75 ?_
      rw [if_neg (by decide), nI_add]
      exact q
    rw [if_neg (fun q => c43 ((nI_eq (by omega) (by omega)).mp q))]
    by_cases c45 : k = 45
    · rw [if_pos (by rw [c45])]
      rw [if_pos (Or.inr (Or.inl c45))] at q
      refine b90_75 ?_
      rw [if_neg (by decide), nI_add]
      exact q
    rw [if_neg (fun q => c45 ((nI_eq (by omega) (by omega)).mp q)), nI_add]
    by_cases c47 : k = 47
    · rw [if_neg (c := ¬ nI k = nI 47) (by rw [c47]; exact fun q => q rfl), if_neg (by decide)]
      rw [if_pos (Or.inr (Or.inr c47))] at q
      exact q
    · rw [if_pos (c := ¬ nI k = nI 47) (fun q => c47 ((nI_eq (by omega) (by omega)).mp q)), if_pos (by decide)]
      rw [if_neg (by omega)] at q
      exact q
  · rw [if_pos (nI_le (by omega) (by omega))]
    refine b90_28 ?_
    have e : zeqn B i = false := by unfold zeqn; rw [decide_eq_false h1]; rfl
    rw [t1, t2, t3, t4, hcli, hA, show nI 0 = nI (zbn1 (zeqn B i)) by rw [e]; rfl]
    refine ⟨rfl, rfl, vp_in_nI (by omega) (by omega), e_sgk h256 ?_⟩
    rw [zqi_s, show nI (zbn1 (zeqn B i)) = nI 0 by rw [e]; rfl]
    rw [← hkk] at hQ hk ⊢
    refine ⟨k9, p_tadd (v := 0) hT hl (fun τ g1 g2 => ?_)⟩
    have q := hQ τ g1 g2
    have n2 : ¬ (k = 43 ∨ k = 45 ∨ k = 47) := by
      intro h
      have h2 : zsl (zsk (B.getD i 0) (zeqn B i)) = 2 := by unfold zsl; rw [← hkk, if_pos h]
      have h3 := zsk_eq h2
      rw [e] at h3
      exact absurd h3 (by decide)
    unfold zsl at q
    rw [if_neg n2] at q
    rw [zqv_s, if_neg (fun q => n2 (Or.inl ((nI_eq (by omega) (by omega)).mp q))), if_neg (fun q => n2 (Or.inr (Or.inl ((nI_eq (by omega) (by omega)).mp q)))), if_pos (c := ¬ nI k = nI 47) (fun q => n2 (Or.inr (Or.inr ((nI_eq (by omega) (by omega)).mp q)))), if_pos (by decide), nI_add]
    exact q
set_option maxHeartbeats 2000000 in
theorem p_split {d : Nat} {σ0 : zH} {B : List Nat} (hB0 : zTp σ0 B) (hb0 : zTkb σ0) {Q : Option Value → zH → Prop} (hQ : ∀ τ, zTks τ (zTk B 0) → zFr 10 14 σ0 τ → Q none τ) : zM (d + 8) 87 [.ref 10, .ref 2] σ0 Q := by
  have loop : ∀ (m i x : Nat) (T1 : List zTok) (σ : zH), B.length - i ≤ m → i ≤ B.length → x ≤ i → T1.length ≤ i → T1 ++ zTk B i = zTk B 0 → zTks σ T1 → zFr 10 14 σ0 σ → zW (d + 8) 87 9 [(0, .ref 10), (1, .ref 2), (2, .int (nI i)), (3, .int (nI x))] [] σ Q := by
    intro m
    induction m with
    | zero =>
      intro i x T1 σ hm hi hx hl he hT hF
      have ⟨t1, t2, t3, t4, t5, t6, t7, t8⟩ := zTp_fr hF (by omega) hB0
      have ext : zW (d + 8) 87 91 [(0, .ref 10), (1, .ref 2)] [] σ Q := by
        refine b87_91 ?_
        rw [t5]
        refine ⟨t1, hT.1.1, p_tadd (v := 0) hT (by omega) (fun τ g1 g2 => ?_)⟩
        rw [zqv_s]
        rw [zTk_u, if_pos (by omega)] at he
        rw [he] at g1
        exact hQ τ g1 (zFr_t hF g2)
      refine b87_9 ?_
      split
      · exact ext
      · rw [t5, if_pos (nI_le (by omega) (by omega))]
        exact ⟨t1, ext⟩
    | succ m ih =>
      intro i x T1 σ hm hi hx hl he hT hF
      by_cases hiB : B.length ≤ i
      · exact ih i x T1 σ (by omega) hi hx hl he hT hF
      have hB := zTp_fr hF (by omega) hB0
      have ⟨t1, t2, t3, t4, t5, t6, t7, t8⟩ := hB
      have h256 : B.getD i 0 < 256 := t8 _ (zgd_mem (by omega))
      have hcli : (nI i).toNatClampNeg = i := zcl i (by omega)
      rw [zTk_u, if_neg hiB] at he
      have hte := ztk_e (B := B) (i := i) (by omega)
      have blank : zcB (B.getD i 0) = true → zW (d + 8) 87 9 [(0, .ref 10), (1, .ref 2), (2, .int (nI (i + 1))), (3, .int (nI (x + 1)))] [] σ Q := by
        intro h
        rw [if_pos h] at he
        exact ih (i + 1) (x + 1) T1 σ (by omega) (by omega) (by omega) (by omega) he hT hF
      have nxt : zcB (B.getD i 0) = false → ∀ τ, zTks τ (T1 ++ [(ztk B i).1]) → zFr 10 14 σ τ → zW (d + 8) 87 9 [(0, .ref 10), (1, .ref 2), (2, .int (nI (ztk B i).2)), (3, .int (nI (x + 1)))] [] τ Q := by
        intro h τ g1 g2
        rw [if_neg (by rw [h]; decide)] at he
        refine ih _ (x + 1) _ τ (by omega) (by omega) (by omega) (by simp; omega) (by rw [List.append_assoc]; exact he) g1 (zFr_t hF g2)
      refine b87_9 ?_
      rw [if_neg (nI_ge (by omega) (by omega)), t1, t2, t3, t4, t5, if_neg (nI_ge (by omega) (by omega)), hcli, t7 i (by omega), nI_add, nI_add]
      refine ⟨rfl, rfl, vp_in_nI (by omega) (by omega), ?_⟩
      by_cases c32 : B.getD i 0 = 32
      · rw [if_pos (by rw [c32])]
        exact blank (by rw [c32]; rfl)
      rw [if_neg (fun q => c32 ((nI_eq (by omega) (by omega)).mp q))]
      by_cases c10 : B.getD i 0 = 10
      · rw [if_neg (by rw [c10]; exact fun q => q rfl)]
        exact blank (by rw [c10]; rfl)
      rw [if_pos (fun q => c10 ((nI_eq (by omega) (by omega)).mp q))]
      have hnb : zcB (B.getD i 0) = false := by unfold zcB; rw [decide_eq_false c32, decide_eq_false c10]; rfl
      have at68 : zcR (B.getD i 0) = true → zW (d + 8) 87 68 [(0, .ref 10), (1, .ref 2), (2, .int (nI i)), (3, .int (nI x))] [] σ Q := by
        intro hr
        refine b87_68 ?_
        refine ⟨hT.1.1, p_run hB hT (by omega) (by omega) hr (fun τ g1 g2 => ?_)⟩
        rw [zqi_s, nI_add]
        exact nxt hnb τ g1 g2
      refine e_let h256 ?_
      rw [zqi_s]
      cases ca : zcA (B.getD i 0) with
      | true =>
        rw [if_pos (by decide)]
        exact at68 (by unfold zcR; rw [ca]; rfl)
      | false =>
        rw [if_neg (by decide)]
        refine e_dgt h256 ?_
        rw [zqi_s]
        cases cd : zcD (B.getD i 0) with
        | true =>
          rw [if_neg (by decide)]
          exact at68 (by unfold zcR; rw [ca, cd]; rfl)
        | false =>
          rw [if_pos (by decide)]
          refine ⟨hT.1.1, p_sgn (d := d + 6) hB hT (by omega) (by omega) (by unfold zcR; rw [ca, cd]; rfl) (fun τ g1 g2 => ?_)⟩
          rw [zqi_s]
          exact nxt hnb τ g1 g2
  refine b87 ?_
  refine ⟨hb0.1, ?_⟩
  refine loop B.length 0 0 [] _ (by omega) (by omega) (by omega) (by simp) rfl ⟨hb0, ?_, fun j hj => absurd hj (by simp)⟩ (zFr_sI 3 _ (by omega) (by omega))
  simp only [zh]
  simp
