/-! a run of the reference -/
def zRu (σ0 σ : zH) (i : Nat) (fl : Bool) (j : Nat) (u v : List Nat) : Prop := zFy σ0 σ ∧ zI σ 160 4 = nI j ∧ zI σ 160 14 = nI i ∧ zI σ 160 15 = (if fl then nI 0 else znr (u.take 2)) ∧ zJ σ 160 18 = lN (zpkw (v.take 8))
def zrk (fl : Bool) (w : List Nat) : Nat := if w.all (fun c => zcA c == fl) = true ∧ w.length ≤ (if fl then 8 else 2) then (if fl then 1 else 2) else 4
theorem zhAD (B : List Nat) (j : Nat) : zWd B j = if (zhA B j || zhD B j) = true then B.getD j 0 :: zWd B (j + 1) else [] := by
  rw [zWd_u]
  unfold zhA zhD zcR
  by_cases h : j < B.length
  · rw [decide_eq_true h]
    simp [h]
  · rw [decide_eq_false h]
    simp [h]
set_option maxHeartbeats 2000000 in
theorem p_rrun {d i : Nat} {σ0 : zH} {B : List Nat} {fl : Bool} (hx0 : zRx σ0 B) (h4 : zI σ0 160 4 = nI i) (h14 : zI σ0 160 14 = nI i) (hi : i ≤ B.length) {Q : Option Value → zH → Prop} (hQ : ∀ τ, zRu σ0 τ i fl (i + (zWd B i).length) (zWd B i) (zWd B i) → zI τ 160 13 = nI (zrk fl (zWd B i)) → Q none τ) : zM (d + 1) 143 [.ref 160, .int (nI (zbn1 fl))] σ0 Q := by
  have hB := hx0.2.1.2.2
  have hB9 := hx0.2.1.1
  have hwl := zWd_le B i hi
  obtain ⟨w, hw⟩ : ∃ w, w = zWd B i := ⟨_, rfl⟩
  rw [← hw] at hQ hwl
  have top : ∀ (j : Nat) (u : List Nat) (σ : zH), j ≤ B.length → i + u.length = j → u ++ zWd B j = w → zRu σ0 σ i fl j u u → ((zhA B j || zhD B j) = true → zW (d + 1) 143 34 [(0, .ref 160), (1, .int (nI (zbn1 fl))), (2, .int (nI (zbn1 (u.all (fun c => zcA c == fl))))), (3, .int (nI u.length))] [] σ Q) → zW (d + 1) 143 14 [(0, .ref 160), (1, .int (nI (zbn1 fl))), (2, .int (nI (zbn1 (u.all (fun c => zcA c == fl))))), (3, .int (nI u.length))] [] σ Q := by
    intro j u σ hj hu he hr h34
    obtain ⟨r1, r2, r3, r4, r5⟩ := hr
    have hx := zRx_l r1 hx0
    have k0 := hx.1.1
    refine b143_14 ?_
    refine ⟨k0, e_here hx r2 hj ?_⟩
    rw [zqi_s]
    refine e_rlet hB ?_
    rw [zqi_s]
    cases hA : zhA B j with
    | true =>
      rw [if_pos (by decide)]
      exact h34 (by rw [hA]; rfl)
    | false =>
      rw [if_neg (by decide)]
      refine ⟨k0, e_here hx r2 hj ?_⟩
      rw [zqi_s]
      refine e_rdgt hB ?_
      rw [zqi_s]
      cases hD : zhD B j with
      | true =>
        rw [if_neg (by decide)]
        exact h34 (by rw [hA, hD]; rfl)
      | false =>
        rw [if_pos (by decide)]
        rw [zhAD, hA, hD, if_neg (by decide), List.append_nil] at he
        rw [he] at hu r4 r5 ⊢
        rw [← hu] at r2
        have q : ∀ k, k = zrk fl w → Q none (zsI σ 160 13 (nI k)) := by
          intro k hk
          refine hQ _ ⟨zFy_t r1 (zFy_I _ (by omega)), ?_, ?_, ?_, ?_⟩ ?_ <;> simp only [zh]
          · rw [if_neg (by omega)]; exact r2
          · rw [if_neg (by omega)]; exact r3
          · rw [if_neg (by omega)]; exact r4
          · exact r5
          · simp; rw [hk]
        cases hall : w.all (fun c => zcA c == fl) with
        | false =>
          rw [if_pos (by decide)]
          exact ⟨k0, q 4 (by unfold zrk; rw [hall, if_neg (by simp)])⟩
        | true =>
          rw [if_neg (by decide)]
          cases hfl : fl with
          | true =>
            rw [if_neg (c := nI (zbn1 true) = 0) (by decide), if_neg (c := nI (zbn1 true) = 0) (by decide)]
            by_cases h8 : 8 < w.length
            · rw [if_pos (nI_lt h8 (by omega))]
              exact ⟨k0, q 4 (by unfold zrk; rw [hall, hfl, if_neg (by simp; omega)])⟩
            · rw [if_neg (nI_nlt (by omega) (by omega))]
              exact ⟨k0, q 1 (by unfold zrk; rw [hall, hfl, if_pos ⟨rfl, by simp; omega⟩]; rfl)⟩
          | false =>
            rw [if_pos (c := nI (zbn1 false) = 0) (by decide), if_pos (c := nI (zbn1 false) = 0) (by decide)]
            by_cases h8 : 2 < w.length
            · rw [if_pos (nI_lt h8 (by omega))]
              exact ⟨k0, q 4 (by unfold zrk; rw [hall, hfl, if_neg (by simp; omega)])⟩
            · rw [if_neg (nI_nlt (by omega) (by omega))]
              exact ⟨k0, q 2 (by unfold zrk; rw [hall, hfl, if_pos ⟨rfl, by simp; omega⟩]; rfl)⟩
  have loop : ∀ (m j : Nat) (u : List Nat) (σ : zH), B.length - j ≤ m → j ≤ B.length → i + u.length = j → u ++ zWd B j = w → (∀ c ∈ u, c < 256) → zRu σ0 σ i fl j u u → zW (d + 1) 143 14 [(0, .ref 160), (1, .int (nI (zbn1 fl))), (2, .int (nI (zbn1 (u.all (fun c => zcA c == fl))))), (3, .int (nI u.length))] [] σ Q := by
    intro m
    induction m with
    | zero =>
      intro j u σ hm hj hu he hub hr
      refine top j u σ hj hu he hr (fun h => ?_)
      unfold zhA zhD at h
      rw [decide_eq_false (by omega)] at h
      simp at h
    | succ m ih =>
      intro j u σ hm hj hu he hub hr
      have hr' := hr
      have he' := he
      obtain ⟨r1, r2, r3, r4, r5⟩ := hr
      have hx := zRx_l r1 hx0
      have k0 := hx.1.1
      rw [zhAD] at he
      have at34 : (zhA B j || zhD B j) = true → zW (d + 1) 143 34 [(0, .ref 160), (1, .int (nI (zbn1 fl))), (2, .int (nI (zbn1 (u.all (fun c => zcA c == fl))))), (3, .int (nI u.length))] [] σ Q := by
        intro h
        rw [if_pos h] at he
        have hjB : j < B.length := by
          unfold zhA zhD at h
          by_cases q : j < B.length
          · exact q
          · rw [decide_eq_false q] at h
            simp at h
        have hc := hB _ (zgd_mem hjB)
        have hzh : zhr B j = nI (B.getD j 0) := by unfold zhr; rw [if_pos hjB]
        have hzA : zhA B j = zcA (B.getD j 0) := by unfold zhA; rw [decide_eq_true hjB, Bool.true_and]
        obtain ⟨c, hcc⟩ : ∃ c, c = B.getD j 0 := ⟨_, rfl⟩
        rw [← hcc] at hc hzh hzA he
        have ea : (u ++ [c]).all (fun c => zcA c == fl) = (u.all (fun c => zcA c == fl) && (zcA c == fl)) := by simp
        have at78 : ∀ υ, zRu σ0 υ i fl j u (u ++ [c]) → ∀ X2, X2 = nI (zbn1 (u.all (fun c => zcA c == fl) && (zcA c == fl))) → zW (d + 1) 143 78 [(0, .ref 160), (1, .int (nI (zbn1 fl))), (2, .int X2), (3, .int (nI u.length))] [] υ Q := by
          intro υ hv X2 e2
          obtain ⟨v1, v2, v3, v4, v5⟩ := hv
          have hxv := zRx_l v1 hx0
          have kv := hxv.1.1
          rw [e2, ← ea]
          have fin : ∀ υ', zRu σ0 υ' i fl (j + 1) (u ++ [c]) (u ++ [c]) → zW (d + 1) 143 14 [(0, .ref 160), (1, .int (nI (zbn1 fl))), (2, .int (nI (zbn1 ((u ++ [c]).all (fun c => zcA c == fl))))), (3, .int (nI (u.length + 1)))] [] υ' Q := by
            intro υ' hr'
            have := ih (j + 1) (u ++ [c]) υ' (by omega) (by omega) (by simp; omega) (by rw [List.append_assoc]; exact he) (fun x hx => by
              rcases List.mem_append.mp hx with q | q
              · exact hub x q
              · simp only [List.mem_singleton] at q; omega) hr'
            rwa [List.length_append] at this
          refine b143_78 ?_
          rw [nI_add]
          by_cases h2 : 2 ≤ u.length
          · rw [if_pos (nI_le h2 (by omega)), v2, nI_add]
            refine ⟨kv, fin _ ⟨zFy_t v1 (zFy_I _ (by omega)), ?_, ?_, ?_, ?_⟩⟩ <;> simp only [zh] <;> (try simp)
            · exact v3
            · rw [List.take_append_of_le_length h2]; exact v4
            · exact v5
          · rw [if_neg (nI_ge (by omega) (by omega))]
            have t1 : u.take 2 = u := List.take_of_length_le (by omega)
            have t2 : (u ++ [c]).take 2 = u ++ [c] := List.take_of_length_le (by simp; omega)
            cases hfl : fl with
            | true =>
              rw [hfl] at fin v4
              rw [if_pos (by decide), v2, nI_add]
              refine ⟨kv, fin _ ⟨zFy_t v1 (zFy_I _ (by omega)), ?_, ?_, ?_, ?_⟩⟩ <;> simp only [zh] <;> (try simp)
              · exact v3
              · exact v4
              · exact v5
            | false =>
              rw [hfl] at fin v4
              rw [if_neg (by decide)]
              refine ⟨kv, e_here hxv v2 (by omega) ?_⟩
              rw [zqi_s, hzh]
              have e4 : zI (zsI υ 160 15 (((nI 10 * zI υ 160 15) + nI c) - nI 48)) 160 4 = nI j := by simp only [zh]; simpa using v2
              rw [e4, nI_add]
              refine ⟨kv, fin _ ⟨zFy_t (zFy_t v1 (zFy_I _ (by omega))) (zFy_I _ (by omega)), ?_, ?_, ?_, ?_⟩⟩ <;> simp only [zh] <;> (try simp)
              · exact v3
              · rw [if_neg (by decide), t1] at v4
                rw [t2, v4]
                unfold znr
                rw [List.foldl_append]
                rfl
              · exact v5
        have p18 : ∀ X2, X2 = nI (zbn1 (u.all (fun c => zcA c == fl) && (zcA c == fl))) → u.length < 8 → zW (d + 1) 143 78 [(0, .ref 160), (1, .int (nI (zbn1 fl))), (2, .int X2), (3, .int (nI u.length))] [] (zsJ σ 160 18 ((zlsl (zJ σ 160 18) (nI 8)) ||| ((nI c).toInt64))) Q := by
          intro X2 e2 h8
          refine at78 _ ⟨zFy_t r1 (zFy_J _), ?_, ?_, ?_, ?_⟩ X2 e2 <;> simp only [zh] <;> (try simp)
          · exact r2
          · exact r3
          · exact r4
          · have t1 : u.take 8 = u := List.take_of_length_le (by omega)
            have t2 : (u ++ [c]).take 8 = u ++ [c] := List.take_of_length_le (by simp; omega)
            have hp := zpkw_lt hub
            have hp2 : 256 ^ u.length ≤ 256 ^ 7 := Nat.pow_le_pow_right (by decide) (by omega)
            have hp3 : (256 : Nat) ^ 7 * 2 ^ 8 = 2 ^ 64 := by decide
            rw [r5, t1, t2, zlsl_N _ (by omega), nI_l (by omega), wb_or (by omega) (by omega), zor8 _ _ hc, zpkw_s]
        have p8 : ∀ X2, X2 = nI (zbn1 (u.all (fun c => zcA c == fl) && (zcA c == fl))) → 8 ≤ u.length → zW (d + 1) 143 78 [(0, .ref 160), (1, .int (nI (zbn1 fl))), (2, .int X2), (3, .int (nI u.length))] [] σ Q := by
          intro X2 e2 h8
          exact at78 σ ⟨r1, r2, r3, r4, by rw [List.take_append_of_le_length h8]; exact r5⟩ X2 e2
        refine b143_34 ?_
        cases hua : u.all (fun c => zcA c == fl) with
        | false =>
          rw [if_pos (by decide)]
          refine b143_54 ?_
          by_cases h8 : 8 ≤ u.length
          · rw [if_pos (nI_le h8 (by omega))]
            exact p8 _ (by rw [hua]; rfl) h8
          · rw [if_neg (nI_ge (by omega) (by omega))]
            refine ⟨k0, e_here hx r2 hj ?_⟩
            rw [zqi_s, hzh]
            exact ⟨k0, p18 _ (by rw [hua]; rfl) (by omega)⟩
        | true =>
          rw [if_neg (by decide)]
          refine ⟨k0, e_here hx r2 hj ?_⟩
          rw [zqi_s]
          refine e_rlet hB ?_
          rw [zqi_s, hzA]
          have e2 : (if ¬ nI (zbn1 (zcA c)) = nI (zbn1 fl) then nI 0 else nI 1) = nI (zbn1 (u.all (fun c => zcA c == fl) && (zcA c == fl))) := by
            rw [hua]
            cases zcA c <;> cases fl <;> decide
          by_cases h8 : 8 ≤ u.length
          · rw [if_pos (nI_le h8 (by omega))]
            exact p8 _ e2 h8
          · rw [if_neg (nI_ge (by omega) (by omega))]
            refine ⟨k0, e_here hx r2 hj ?_⟩
            rw [zqi_s, hzh]
            exact ⟨k0, p18 _ e2 (by omega)⟩
      exact top j u σ hj hu he' hr' at34
  refine b143 ?_
  refine ⟨hx0.1.1, ?_⟩
  refine loop B.length i [] _ (by omega) hi (by simp) (by rw [hw]; rfl) (fun c hc => absurd hc (by simp)) ⟨zFy_t (zFy_J _) (zFy_I _ (by omega)), ?_, ?_, ?_, ?_⟩ <;> simp only [zh] <;> (try simp)
  · exact h4
  · exact h14
  · exact fun _ => rfl
  · rfl
