/-! the class's steps -/
def zPblk (T : List zTok) (n Tr D M : Nat) (x : Int32) (blk : Nat → List zTok → zPS) : Prop := ∀ (k m o : Nat) (σ : zH) (s : zPs) (Q : Option Value → zH → Prop), k ≤ 40 → m ≤ 450 → zTs σ Tr → zI σ Tr 2 = nI k → zI σ (Tr + 2) 3 = nI m → zRS σ T n s → (∀ τ k' m', zAs T n Tr o k k k' m m' σ τ (s.bind (blk k)) → Q none τ) → zM D M [.ref 9, .ref Tr, .int x, .int (nI o)] σ Q
/-- a step was begun -/
def zBg (T : List zTok) (n Tr o k m w : Nat) (σ τ : zH) (s : zPs) : Prop := zRS τ T n s ∧ zFg Tr (Tr + 46) zJ6 σ τ ∧ (∀ a, Tr + 2 < a → a < Tr + 6 → zA τ a = zA σ a) ∧ (∀ i, i < k → zI τ (Tr + 6 + i) = zI σ (Tr + 6 + i)) ∧ zI τ Tr 2 = nI (k + 1) ∧ zI τ (Tr + 2) 3 = nI m ∧ zI τ (Tr + 6 + k) 0 = nI w ∧ zI τ (Tr + 6 + k) 4 = nI 0 ∧ zI τ 9 3 = zI σ 9 3 + nI o ∧ zI τ 9 4 = zI σ 9 4
theorem zIo {σ : zH} {a j b : Nat} {v : Int32} (h : b ≠ a) : zI (zsI σ a j v) b = zI σ b := by
  funext i
  simp only [zh]
  rw [if_neg (by omega)]
theorem zIs {σ : zH} {a j i : Nat} {v : Int32} (h : i ≠ j) : zI (zsI σ a j v) a i = zI σ a i := by
  simp only [zh]
  rw [if_neg (by omega)]
theorem zIe {σ : zH} {a j : Nat} {v : Int32} : zI (zsI σ a j v) a j = v := by
  simp only [zh]
  simp
set_option maxHeartbeats 2000000 in
theorem l_stm {d n Tr o k m : Nat} {σ τ : zH} {T : List zTok} {s : zPs} {x : Int32} {blk : Nat → List zTok → zPS} (hT : zTok1 T n) (ht : 13 < Tr) (hk : k < 40) (hm : m ≤ 450) (hTs : zTs σ Tr) {Q : Option Value → zH → Prop} (hB : zBg T n Tr o k m 11 σ τ s) (hP : zPblk T n Tr (d + 1) 24 x blk) (hQ : ∀ υ k' m', zAs T n Tr o k k k' m m' σ υ (s.bind (zstm blk k)) → Q none υ) : zM (d + 1) 31 [.ref 9, .int (nI 2), .int (nI 9)] τ (fun r σ124 => zqi r (fun x125 => (zK σ124 (Tr + 6 + k) = 6) ∧ (zK σ124 9 = 3) ∧ zM (d + 1) 24 [.ref 9, .ref Tr, .int x, .int (nI o * (zI (zsI σ124 (Tr + 6 + k) 4 x125) (Tr + 6 + k) 4))] (zsI σ124 (Tr + 6 + k) 4 x125) (fun r σ128 => zqv r ((zK σ128 Tr = 10) ∧ (zK σ128 (Tr + 6 + k) = 6) ∧ Q none (zsI (zsI σ128 (Tr + 6 + k) 5 (zI σ128 Tr 2)) (Tr + 6 + k) 6 (zI (zsI σ128 (Tr + 6 + k) 5 (zI σ128 Tr 2)) Tr 2)))))) := by
  obtain ⟨c1, c2, c3, c4, c5, c6, c7, c8, c9, c10⟩ := hB
  have hTs1 := zTs_g c2 ht hTs
  refine p_cnm (lo := 2) (hi := 9) hT c1 (by omega) (by omega) (fun υ g1 g2 => ?_)
  rw [zqi_s]
  have ex : ∀ a, a ≠ 9 → zI υ a = zI τ a ∧ zA υ a = zA τ a := fun a ha => ⟨(g2.1.2.2.2.2 a (by omega)).1, (g2.1.2.2.2.2 a (by omega)).2.2.2.1⟩
  obtain ⟨h, hh⟩ : ∃ h, h = zPx 2 (s.bind (znum 2 9)) := ⟨_, rfl⟩
  obtain ⟨r0, hr0⟩ : ∃ r0, r0 = s.bind (znum 2 9) := ⟨_, rfl⟩
  rw [← hh, zIe, pk_mul]
  rw [← hr0] at g1
  have hTs2 := zTs_g (zFg_c (lo := 0) (hi := 0) g2) ht hTs1
  refine ⟨(hTs2.2.2.2.2.2.1 k hk).2, (zRS_k hT g1).1, ?_⟩
  have F1 : zFg Tr (Tr + 46) zJ6 τ (zsI υ (Tr + 6 + k) 4 (nI h)) := zFg_t (zFg_J g2) (zFg_I 4 _ (by omega) (by omega) (by omega))
  have hTs3 := zTs_g F1 ht hTs1
  refine hP (k + 1) m (o * h) _ (zPo r0) _ (by omega) hm hTs3 ?_ ?_ (zRS_I 4 _ (by omega) g1) (fun ρ k' m' q => ?_)
  · rw [zIo (by omega), (ex Tr (by omega)).1]; exact c5
  · rw [zIo (by omega), (ex (Tr + 2) (by omega)).1]; exact c6
  · rw [zqv_s]
    have hTs4 := zTs_g q.2.1 ht hTs3
    refine ⟨hTs4.1, (hTs4.2.2.2.2.2.1 k hk).2, hQ _ k' m' ?_⟩
    have eT : zI ρ Tr 2 = nI k' := q.2.2.2.2.2.2.2.2.1
    have est : zI ρ (Tr + 6 + k) = zI (zsI υ (Tr + 6 + k) 4 (nI h)) (Tr + 6 + k) := q.2.2.2.1 k (by omega)
    rw [zIo (by omega), eT]
    have q1 := zAs_w (j := 6) (v := nI k') ht (Nat.le_refl k) (by omega) (by omega) (zAs_w (j := 5) (v := nI k') ht (Nat.le_refl k) (by omega) (by omega) (zAs_b (b' := k) (by omega) q))
    refine zAs_h (o2 := o * h) ht hk (Nat.le_refl m) (zFg_t c2 F1) ?_ ?_ ?_ ?_ q1 ?_ ?_
    · intro a l1 l2 i hi
      show zA υ a i = _
      rw [(ex a (by omega)).2, c3 a (by omega) (by omega)]
    · intro i hi
      rw [zIo (by omega), (ex _ (by omega)).1]
      exact c4 i hi
    · rw [zIo (by omega), g2.2.2 3 (by unfold zJ4; omega)]; exact c9
    · rw [zIo (by omega), g2.2.2 4 (by unfold zJ4; omega)]; exact c10
    · rw [hr0]
      cases s with
      | error e => rfl
      | ok R =>
        show zPz (zstm blk k R) = zPz ((zPo (znum 2 9 R)).bind (blk (k + 1)))
        unfold zstm
        cases znum 2 9 R with
        | error e => rfl
        | ok a =>
          obtain ⟨v, R1⟩ := a
          show zPz (match blk (k + 1) R1 with
            | .error e => .error e
            | .ok ((S, d, c), R2) => .ok (((11, 0, 0, 0, v, k + 1 + S.length, k + 1 + S.length, []) :: S, 1 + v * d, v * c), R2)) = zPz (blk (k + 1) R1)
          cases blk (k + 1) R1 <;> rfl
    · intro S dn ch R hr
      cases s with
      | error e => cases hr
      | ok R0 =>
        have hr' : zstm blk k R0 = .ok ((S, dn, ch), R) := hr
        have hr0' : r0 = znum 2 9 R0 := hr0
        unfold zstm at hr'
        cases hz : znum 2 9 R0 with
        | error e => rw [hz] at hr'; cases hr'
        | ok a =>
          obtain ⟨v, R1⟩ := a
          have hv : h = v := by rw [hh]; show zPx 2 (znum 2 9 R0) = v; rw [hz]; rfl
          obtain ⟨-, v2, v9, -⟩ := znum_ok hz
          rw [hz] at hr'
          simp only at hr'
          rw [hr0', hz]
          cases hb : blk (k + 1) R1 with
          | error e => rw [hb] at hr'; cases hr'
          | ok c =>
            obtain ⟨⟨S', d', c'⟩, R2⟩ := c
            rw [hb] at hr'
            simp only [Except.ok.injEq, Prod.mk.injEq] at hr'
            obtain ⟨⟨rfl, rfl, rfl⟩, rfl⟩ := hr'
            refine ⟨_, S', d', c', hb, rfl, ?_, ?_, fun _ => rfl, fun _ hk' => ?_⟩
            · rw [hv, Nat.mul_add, Nat.mul_one, Nat.mul_assoc]
            · rw [hv, Nat.mul_assoc]
            · have k40 : k' ≤ 40 := q.2.2.2.2.2.1
              refine ⟨?_, ?_, ?_, ?_, ?_, ?_, ?_, ?_⟩
              · rw [zIs (by omega), zIs (by omega), est, zIs (by omega), (ex _ (by omega)).1]; exact c7
              · rw [zIe, hk']; rfl
              · show 11 ≤ 12; omega
              · show k + 1 + S'.length ≤ 40; omega
              · show k + 1 + S'.length ≤ 40; omega
              · intro c; exact absurd c (by show ¬ 11 ≤ 10; omega)
              · intro _
                refine ⟨?_, ?_, ?_⟩
                · rw [zIs (by omega), zIs (by omega), est, zIe, hv]; rfl
                · exact v2
                · exact v9
              · intro c; exact absurd c (by show ¬ 11 = 12; omega)
