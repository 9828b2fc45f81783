/-- the start: n cards, as they lie -/
def zRow (σ : zH) (a n : Nat) (row : List Nat) : Prop := row.length = n ∧ (∀ i, i < n → zA σ a i = nI (row.getD i 0)) ∧ ∀ c ∈ row, zco c
theorem zRow_fr {lo hi : Nat} {σ τ : zH} (h : zFr lo hi σ τ) {a n : Nat} {row : List Nat} (ha : a < lo ∨ hi ≤ a) (hR : zRow σ a n row) : zRow τ a n row := by
  unfold zRow at *
  rw [(zFr_o h ha).2.2.2.1]
  exact hR
set_option maxHeartbeats 1000000 in
theorem p_play {d n T f : Nat} {σ : zH} {D : zDT} {St : List zStp} {B : List Nat} {row : List Nat} {pl0 : Int32} {st0 : zPf} (hb : zDb D) (hT59 : 59 ≤ T) (hTr : zTrk σ T St) (hD : zDk σ D n) (hB : zTp σ B) (hn9 : n ≤ 9) (hR : zRow σ 8 n row) (hwf : zwf St f 0 St.length 0) (hsh : (zK σ 54 = 4 ∧ zQ σ 54 0 = 4 ∧ zQ σ 54 1 = 2 ∧ zQ σ 54 2 = 55) ∧ zTb σ 55) {Q : Option Value → zH → Prop} (hQ : ∀ τ, zSh τ n B (nI 1) (zpf D St B f 0 St.length (false, (row, [], [], [], 0), 0, 0)) → zFr 54 59 σ τ → Q none τ) : zM (d + 14) 42 [.ref 54, .ref T] σ Q := by
  obtain ⟨⟨a1, a2, a3, a4⟩, a5⟩ := hsh
  refine b42 ?_
  refine ⟨a1, b41 ⟨a1, ?_⟩⟩
  rw [zqv_s]
  have hF1 : zFr 54 59 σ (zsI (zsI (zsI (zsI (zsI σ 54 3 (nI 0)) 54 4 (nI 0)) 54 5 (nI 0)) 54 6 (nI 0)) 54 3 (nI 1)) := zFr_t (zFr_t (zFr_t (zFr_t (zFr_sI 3 _ (by omega) (by omega)) (zFr_sI 4 _ (by omega) (by omega))) (zFr_sI 5 _ (by omega) (by omega))) (zFr_sI 6 _ (by omega) (by omega))) (zFr_sI 3 _ (by omega) (by omega))
  have f3 : zI (zsI (zsI (zsI (zsI (zsI σ 54 3 (nI 0)) 54 4 (nI 0)) 54 5 (nI 0)) 54 6 (nI 0)) 54 3 (nI 1)) 54 3 = nI 1 ∧ zI (zsI (zsI (zsI (zsI (zsI σ 54 3 (nI 0)) 54 4 (nI 0)) 54 5 (nI 0)) 54 6 (nI 0)) 54 3 (nI 1)) 54 4 = nI 0 ∧ zI (zsI (zsI (zsI (zsI (zsI σ 54 3 (nI 0)) 54 4 (nI 0)) 54 5 (nI 0)) 54 6 (nI 0)) 54 3 (nI 1)) 54 5 = nI 0 ∧ zI (zsI (zsI (zsI (zsI (zsI σ 54 3 (nI 0)) 54 4 (nI 0)) 54 5 (nI 0)) 54 6 (nI 0)) 54 3 (nI 1)) 54 6 = nI 0 := by
    refine ⟨?_, ?_, ?_, ?_⟩ <;> simp only [zh] <;> simp
  have k1 : zQ (zsI (zsI (zsI (zsI σ 54 3 (nI 0)) 54 4 (nI 0)) 54 5 (nI 0)) 54 6 (nI 0)) = zQ σ := rfl
  have k2 : zK (zsI (zsI (zsI (zsI σ 54 3 (nI 0)) 54 4 (nI 0)) 54 5 (nI 0)) 54 6 (nI 0)) = zK σ := rfl
  rw [k1, k2, a2, a4, hD.2.2.2.2.1]
  have hb1 : zTb (zsI (zsI (zsI (zsI (zsI σ 54 3 (nI 0)) 54 4 (nI 0)) 54 5 (nI 0)) 54 6 (nI 0)) 54 3 (nI 1)) 55 := a5
  have hs1 : zK (zsI (zsI (zsI (zsI (zsI σ 54 3 (nI 0)) 54 4 (nI 0)) 54 5 (nI 0)) 54 6 (nI 0)) 54 3 (nI 1)) 54 = 4 ∧ zQ (zsI (zsI (zsI (zsI (zsI σ 54 3 (nI 0)) 54 4 (nI 0)) 54 5 (nI 0)) 54 6 (nI 0)) 54 3 (nI 1)) 54 0 = 4 ∧ zQ (zsI (zsI (zsI (zsI (zsI σ 54 3 (nI 0)) 54 4 (nI 0)) 54 5 (nI 0)) 54 6 (nI 0)) 54 3 (nI 1)) 54 1 = 2 ∧ zQ (zsI (zsI (zsI (zsI (zsI σ 54 3 (nI 0)) 54 4 (nI 0)) 54 5 (nI 0)) 54 6 (nI 0)) 54 3 (nI 1)) 54 2 = 55 := ⟨a1, a2, a3, a4⟩
  generalize zsI (zsI (zsI (zsI (zsI σ 54 3 (nI 0)) 54 4 (nI 0)) 54 5 (nI 0)) 54 6 (nI 0)) 54 3 (nI 1) = σ1 at hF1 f3 hb1 hs1 ⊢
  have hD1 := zDk_fr hF1 (by omega) hD
  have hR1 := zRow_fr hF1 (by omega) hR
  refine ⟨a1, hD.1, a5.1, p_layRow (d := d + 12) (ra := 8) hb1 hD1 (by omega) (by omega) hD1.2.2.2.2.2.2.2.2.1 hD1.2.2.2.2.2.2.2.2.2.2.2.2.1 hn9 hR1.1 hR1.2.1 (fun σ2 hF2 hT2 => ?_)⟩
  have o54 := zFr_o hF2 (a := 54) (by omega)
  have hF2' : zFr 54 59 σ σ2 := zFr_t hF1 (zFr_m hF2 (by omega) (by omega))
  have hTr2 := zTrk_fr hF2' (by omega) hTr
  have hS2 : zSh σ2 n B (nI 1) (false, (row, [], [], [], 0), 0, 0) := ⟨⟨by rw [hF2.1]; exact hs1.1, by rw [o54.2.2.1]; exact hs1.2.1, by rw [o54.2.2.1]; exact hs1.2.2.1, by rw [o54.2.2.1]; exact hs1.2.2.2⟩, by rw [o54.1]; exact f3.1, by rw [o54.1]; exact f3.2.1, by rw [o54.1]; exact f3.2.2.1, by rw [o54.1]; exact f3.2.2.2, hT2, Nat.zero_le _, zVS_row hn9 hR.1 hR.2.2⟩
  rw [zqv_s, hTr2.2.1]
  refine ⟨hTr2.1.1, hS2.1.1, b43 ?_⟩
  rw [if_pos (nI_le (by decide) (by decide))]
  exact l_show (σ0 := σ) hb hT59 hTr hD hB f d 4 0 St.length 0 rfl hwf (Nat.le_refl _) 0 (Nat.le_refl _) σ2 _ _ hS2 hF2' (fun τ g1 g2 => by rw [zqv_s]; exact hQ τ g1 g2)
