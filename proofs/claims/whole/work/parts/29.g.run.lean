/-! run, ends, choice -/
theorem zbk_some (D : zDT) (cs : List zCd) : ∀ (L : zSt) (a : List Nat), ∃ b, zbk D cs (some a) L = some b
  | [], a => ⟨a, rfl⟩
  | e :: E, a => by
    rw [zbk_c]
    split
    · exact zbk_some D cs E a
    · exact zbk_some D cs E _
theorem zbk_n (D : zDT) (cs : List zCd) : ∀ (L : zSt), zcnt D cs L ≤ L.length ∧ (zbk D cs none L = none ↔ zcnt D cs L = L.length)
  | [] => ⟨Nat.le_refl _, ⟨fun _ => rfl, fun _ => rfl⟩⟩
  | e :: E => by
    obtain ⟨h1, h2⟩ := zbk_n D cs E
    rw [zbk_c]
    simp only [zcnt, List.length_cons]
    by_cases c : zmeet D cs e.1 = true
    · rw [if_pos c, if_pos c]
      exact ⟨by omega, by rw [h2]; omega⟩
    · rw [if_neg c, if_neg c]
      refine ⟨by omega, ⟨fun q => ?_, fun q => by omega⟩⟩
      obtain ⟨b, hb⟩ := zbk_some D cs E e.2
      rw [hb] at q
      cases q
def zrn (m : zMS) : Option zSt := zrunS (zmD m) (zmS m) (zmS m).length (zmr m, [], [], [], 0)
def zmsR (run : Option (Option (Nat × Nat × Option (List Nat)))) (m : zMS) : zMS := (zmB m, zmN m, zmD m, zmr m, zmS m, zmC m, zmf m, run, zmP m, zmT m)
def zsrn (m : zMS) : zMS := match zrn m with
  | none => zmsR (some none) m
  | some L => zmsR (some (some (L.length, zcnt (zmD m) (zmC m) L, zbk (zmD m) (zmC m) none L))) m
def zarn (m : zMS) : Int32 := match zrn m with
  | none => nI 2
  | some L => if zcnt (zmD m) (zmC m) L = L.length then nI 0 else nI 1
theorem zmok_R {m : zMS} {run : Option (Option (Nat × Nat × Option (List Nat)))} (h : zMok m) (hr : ∀ e g br, run = some (some (e, g, br)) → e ≤ 3000 ∧ g ≤ 3000 ∧ (br = none ↔ g = e) ∧ ∀ r, br = some r → zrok 8 r) : zMok (zmsR run m) := by
  obtain ⟨h1, h2, h3, h4, h5, h6, h7, h8⟩ := h
  exact ⟨h1, h2, h3, h4, h5, hr, h7, h8⟩
theorem zJ_sI (σ : zH) (a j : Nat) (v : Int32) : zJ (zsI σ a j v) = zJ σ := rfl
theorem zI_sJ (σ : zH) (a j : Nat) (v : Int64) : zI (zsJ σ a j v) = zI σ := rfl
theorem zJe (σ : zH) (a j : Nat) (v : Int64) : zJ (zsJ σ a j v) a j = v := by simp only [zh]; simp
set_option maxHeartbeats 4000000 in
theorem pc_run {d : Nat} {σ : zH} {m : zMS} (hI : zIC σ m) (hm : zMok m) {Q : Option Value → zH → Prop} (hQ : ∀ τ, zIC τ (zsrn m) → zFr 1 160 σ τ → zMok (zsrn m) → Q (some (.int (zarn m))) τ) : zM (d + 15) 114 [.ref 1] σ Q := by
  obtain ⟨T, T', o, o', a1, a2, a3, a4, a5, a6, a7, a8, a9, a10⟩ := hI
  obtain ⟨⟨u0, u1, u2, u3, u4, u5, u6, u7, u8, u9, u10, u11⟩, hTT, hoo, urun⟩ := a1
  obtain ⟨h1, h2, h3, h4, ⟨h5, dn, ch, hseg, hch⟩, h6, h7, h8⟩ := hm
  obtain ⟨hwf, hce⟩ := zSeg_wf _ _ _ _ _ _ _ hseg
  refine b114 ⟨u0, b123 ⟨u0, ?_⟩⟩
  rw [zqv_s]
  obtain ⟨σ1, hσ1⟩ : ∃ σ1, σ1 = zsJ (zsI (zsI (zsI σ 1 11 (nI 0)) 1 12 (nI 0)) 1 13 (nI 0)) 1 14 (Int64.ofInt (-1)) := ⟨_, rfl⟩
  rw [← hσ1]
  have F1 : zFr 1 2 σ σ1 := by
    rw [hσ1]
    exact zFr_t (zFr_t (zFr_t (zFr_sI 11 _ (by omega) (by omega)) (zFr_sI 12 _ (by omega) (by omega))) (zFr_sI 13 _ (by omega) (by omega))) (zFr_sJ 14 _ (by omega) (by omega))
  have Q1 : zQ σ1 = zQ σ := by rw [hσ1]; rfl
  have i11 : zI σ1 1 11 = nI 0 := by rw [hσ1, zI_sJ, zIs (by omega), zIs (by omega), zIe]
  rw [Q1, F1.1, u0, u2, u5, u8, u10]
  have q43 : zQ σ 4 3 = 8 := a3.1.2.2.2.2.1
  obtain ⟨nw, nx, wt, C, lg, hSp, hDis⟩ := zc18_f F1 (by omega) a6
  have b3 := zc4_f F1 (by omega) a3
  have b9 := zcTr_f F1 hTT (by omega) a9
  have b10 := zcC_f F1 hoo (by omega) a10
  rw [q43]
  have k18 := hSp.1.1
  rw [F1.1] at k18
  refine ⟨rfl, a3.1.1, k18, ?_⟩
  refine p_look h3 (by omega) b10.1 b3.1 (by omega) b9.1 hwf (by omega) hSp hDis h2.2 (Or.inl rfl) ?_ ?_ b3.2.1 b3.2.2.1 b3.2.2.2 (fun τ nw' nx' wt' C' lg' g1 g2 g3 g4 => ?_)
  · rw [F1.1]; exact a3.1.2.2.2.2.2.2.2.2.1
  · rw [F1.2.1]; exact a3.1.2.2.2.2.2.2.2.2.2.2.2.2.1
  · rw [zqv_s]
    have e1 := zFr_o g2 (a := 1) (by omega)
    have k1 : zK τ 1 = 12 := by rw [g2.1, F1.1]; exact u0
    have qt : zQ τ 1 = zQ σ 1 := by rw [e1.2.2.1, Q1]
    have q4 : zQ τ 1 4 = 18 := by rw [qt]; exact u5
    rw [q4]
    refine ⟨k1, g1.1.1, ?_⟩
    have b2 := zTp_f g2 (by omega) (zTp_f F1 (by omega) a2)
    have c3 := zc4_f g2 (by omega) b3
    have c4 := zc9_f g2 (by omega) (zc9_f F1 (by omega) a4)
    have c5 := zTb_fr g2 (t := 14) (by omega) (zTb_fr F1 (by omega) a5)
    have c7 := zc54_f g2 (by omega) (zc54_f F1 (by omega) a7)
    have c8 := zc59_f g2 (zc59_f F1 a8)
    have c9 := zcTr_f g2 hTT (by omega) b9
    have c10 := zcC_f g2 hoo (by omega) b10
    have FF : zFr 1 160 σ τ := zFr_t (zFr_m F1 (by omega) (by omega)) (zFr_m g2 (by omega) (by omega))
    have g6 : zI τ 18 4 = nI (zbn1 lg') := g1.2.2.2.2.2
    rw [g6]
    unfold zsrn zarn zrn at hQ
    cases hr : zrunS (zmD m) (zmS m) (zmS m).length (zmr m, [], [], [], 0) with
    | none =>
      rw [hr] at hQ g4
      have g4' : lg' = true := g4
      rw [g4', if_neg (by decide)]
      refine hQ τ ⟨T, T', o, o', ⟨⟨k1, ?_⟩, hTT, hoo, ?_⟩, b2, c3, c4, c5, ⟨nw', nx', wt', C', lg', g1, g3⟩, c7, c8, c9, c10⟩ FF (zmok_R ⟨h1, h2, h3, h4, ⟨h5, dn, ch, hseg, hch⟩, h6, h7, h8⟩ (fun e g br q => by cases q))
      · rw [qt]; exact ⟨u1, u2, u3, u4, u5, u6, u7, u8, u9, u10, u11⟩
      · show zI τ 1 11 = nI 0
        rw [e1.1]; exact i11
    | some L =>
      rw [hr] at hQ g4
      obtain ⟨g7, g8, g9, g10, g11, g12⟩ := g4
      obtain ⟨n1, n2⟩ := zbk_n (zmD m) (zmC m) L
      rw [g7, if_pos (by decide), zIe, zIs (by omega), zIe, zIo (a := 1) (by omega), zIo (a := 1) (by omega), g8, g9, g10]
      obtain ⟨κ, hκ⟩ : ∃ κ, κ = zsJ (zsI (zsI (zsI τ 1 11 (nI 1)) 1 12 (nI L.length)) 1 13 (nI (zcnt (zmD m) (zmC m) L))) 1 14 (zbC (zbk (zmD m) (zmC m) none L)) := ⟨_, rfl⟩
      rw [← hκ]
      have F3 : zFr 1 2 τ κ := by
        rw [hκ]
        exact zFr_t (zFr_t (zFr_t (zFr_sI 11 _ (by omega) (by omega)) (zFr_sI 12 _ (by omega) (by omega))) (zFr_sI 13 _ (by omega) (by omega))) (zFr_sJ 14 _ (by omega) (by omega))
      have ea : (if ¬ nI (zcnt (zmD m) (zmC m) L) = nI L.length then nI 1 else nI 0) = (if zcnt (zmD m) (zmC m) L = L.length then nI 0 else nI 1) := by
        by_cases c : zcnt (zmD m) (zmC m) L = L.length
        · rw [if_pos c, if_neg (by rw [c]; exact fun q => q rfl)]
        · rw [if_neg c, if_pos (by rw [nI_eq (by omega) (by omega)]; exact c)]
      rw [ea]
      refine hQ κ ⟨T, T', o, o', ⟨⟨by rw [F3.1]; exact k1, ?_⟩, hTT, hoo, ?_, ?_, ?_, ?_⟩, zTp_f F3 (by omega) b2, zc4_f F3 (by omega) c3, zc9_f F3 (by omega) c4, zTb_fr F3 (by omega) c5, zc18_f F3 (by omega) ⟨nw', nx', wt', C', lg', g1, g3⟩, zc54_f F3 (by omega) c7, zc59_f F3 c8, zcTr_f F3 hTT (by omega) c9, zcC_f F3 hoo (by omega) c10⟩ (zFr_t FF (zFr_m F3 (by omega) (by omega))) (zmok_R ⟨h1, h2, h3, h4, ⟨h5, dn, ch, hseg, hch⟩, h6, h7, h8⟩ (fun e g br q => ?_))
      · have : zQ κ 1 = zQ σ 1 := by rw [hκ]; exact qt
        rw [this]; exact ⟨u1, u2, u3, u4, u5, u6, u7, u8, u9, u10, u11⟩
      · rw [hκ, zI_sJ, zIs (by omega), zIs (by omega), zIe]
      · rw [hκ, zI_sJ, zIs (by omega), zIe]
      · rw [hκ, zI_sJ, zIe]
      · rw [hκ, zJe]
      · simp only [Option.some.injEq, Prod.mk.injEq] at q
        obtain ⟨rfl, rfl, rfl⟩ := q
        exact ⟨g11, by omega, n2, g12⟩
