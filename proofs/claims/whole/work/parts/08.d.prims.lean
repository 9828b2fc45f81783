theorem zmx1 : Cond.static Lib.Math.max.name ∈ lw_tbl := List.mem_of_getElem? (i := 892) (by decide +kernel)
theorem zmx2 : Cond.code Lib.Math.max.name Lib.Math.max.code 2 (some .int) ∈ lw_tbl := List.mem_of_getElem? (i := 893) (by decide +kernel)
theorem zmn1 : Cond.static Lib.Math.min.name ∈ lw_tbl := List.mem_of_getElem? (i := 899) (by decide +kernel)
theorem zmn2 : Cond.code Lib.Math.min.name Lib.Math.min.code 2 (some .int) ∈ lw_tbl := List.mem_of_getElem? (i := 900) (by decide +kernel)
theorem zml1 : Cond.static Lib.MathLoose.min_long.x ∈ lw_tbl := List.mem_of_getElem? (i := 811) (by decide +kernel)
theorem zml2 : Cond.code Lib.MathLoose.min_long.x Lib.MathLoose.min_long.code 4 (some .long) ∈ lw_tbl := List.mem_of_getElem? (i := 812) (by decide +kernel)
theorem zmi : Cond.initialized "java/lang/Math" ∈ lw_tbl := List.mem_of_getElem? (i := 129) (by decide +kernel)
theorem zoi1 : Cond.instanceMethod Lib.objectInit ∈ lw_tbl := List.mem_of_getElem? (i := 141) (by decide +kernel)
theorem zoi2 : Cond.code Lib.objectInit ⟨#[0xb1]⟩ 1 none ∈ lw_tbl := List.mem_of_getElem? (i := 142) (by decide +kernel)
theorem zst1 : Cond.fieldLink "ConjurerDesk$Table" 71 "ConjurerDesk$Table" "WAYS_TO_CHOOSE" "[I" ∈ lw_tbl := by
  have h : lw_tbl.any (fun w => decide (w = Cond.fieldLink "ConjurerDesk$Table" 71 "ConjurerDesk$Table" "WAYS_TO_CHOOSE" "[I")) = true := by decide +kernel
  obtain ⟨w, h1, h2⟩ := List.any_eq_true.mp h
  rw [← of_decide_eq_true h2]; exact h1
theorem zwt_map (B0 : Nat) (xa : Nat → Nat) (st : List Value) : ((st.map (zV B0 xa)).map fun v => v.category).sum = zwt st := by
  unfold zwt
  rw [List.map_map]
  congr 2
  funext v
  exact zV_cat B0 xa v
/-! where a switch goes -/
theorem zof {x : Int32} {k : Int} (h0 : 0 ≤ k) (h1 : k < 2147483648) : x = Int32.ofInt k ↔ x.toInt = k := by
  constructor
  · rintro rfl
    rw [Int32.toInt_ofInt]
    have h2 : (Int32.size : Int) = 4294967296 := rfl
    have h3 : Int32.size = 4294967296 := rfl
    rw [h3, Int.bmod_def]
    have h4 : k % ((4294967296 : Nat) : Int) = k := Int.emod_eq_of_lt h0 (by omega)
    rw [h4, if_pos (by omega)]
  · intro h
    rw [← h, Int32.ofInt_toInt]
theorem zsw_tab {x : Int32} {d : Nat} {lo : Int} {f : Nat → Nat} : ∀ (n : Nat) (k : Nat), (∀ j, j < n → 0 ≤ lo + ((k + j : Nat) : Int) ∧ lo + ((k + j : Nat) : Int) < 2147483648) → (∀ j, j < n → x.toInt = lo + ((k + j : Nat) : Int) → zsw x d ((List.range n).map (fun j => (lo + ((k + j : Nat) : Int), f (k + j)))) = f (k + j)) ∧ ((x.toInt < lo + (k : Int) ∨ lo + ((k + n : Nat) : Int) ≤ x.toInt) → zsw x d ((List.range n).map (fun j => (lo + ((k + j : Nat) : Int), f (k + j)))) = d) := by
  intro n
  induction n with
  | zero => intro k _; exact ⟨fun j h => absurd h (Nat.not_lt_zero j), fun _ => rfl⟩
  | succ n ih =>
    intro k hb
    have e : (List.range (n + 1)).map (fun j => (lo + ((k + j : Nat) : Int), f (k + j))) = (lo + (k : Int), f k) :: (List.range n).map (fun j => (lo + ((k + 1 + j : Nat) : Int), f (k + 1 + j))) := by
      rw [List.range_succ_eq_map, List.map_cons, List.map_map]
      congr 1
      apply List.map_congr_left
      intro j _
      simp only [Function.comp]
      rw [show k + (j + 1) = k + 1 + j by omega]
    rw [e]
    have h0 := hb 0 (by omega)
    have h0' : 0 ≤ lo + (k : Int) ∧ lo + (k : Int) < 2147483648 := by simpa using h0
    obtain ⟨i1, i2⟩ := ih (k + 1) (fun j hj => by have := hb (j + 1) (by omega); rw [show k + 1 + j = k + (j + 1) by omega]; exact this)
    refine ⟨fun j hj hx => ?_, fun hx => ?_⟩
    · unfold zsw
      cases j with
      | zero =>
        rw [if_pos ((zof h0'.1 h0'.2).mpr (by simpa using hx))]
        rfl
      | succ j =>
        rw [if_neg (fun q => by have := (zof h0'.1 h0'.2).mp q; omega)]
        have := i1 j (by omega) (by rw [hx]; congr 1; omega)
        rw [this]
        congr 1
        omega
    · unfold zsw
      rw [if_neg (fun q => by have := (zof h0'.1 h0'.2).mp q; omega)]
      exact i2 (by omega)
theorem zsw_look {x : Int32} {d pc : Nat} {df : Int} (hd : (pc : Int) + df = (d : Int)) : ∀ (ps : List (Int × Int)) (sw : List (Int × Nat)), sw.map (fun q => (q.1, (q.2 : Int))) = ps.map (fun q => (q.1, (pc : Int) + q.2)) → (∀ q ∈ ps, 0 ≤ q.1 ∧ q.1 < 2147483648) → (pc : Int) + Op.lookupswitch.offset ps df x.toInt = (zsw x d sw : Int)
  | [], [], _, _ => hd
  | [], _ :: _, h, _ => by simp at h
  | _ :: _, [], h, _ => by simp at h
  | (k, o) :: ps, (k', t) :: sw, h, hb => by
    simp only [List.map_cons, List.cons.injEq, Prod.mk.injEq] at h
    obtain ⟨⟨rfl, h2⟩, h3⟩ := h
    have hk := hb (k', o) List.mem_cons_self
    have ih := zsw_look (x := x) hd ps sw h3 (fun q hq => hb q (List.mem_cons_of_mem _ hq))
    unfold zsw
    by_cases hx : x = Int32.ofInt k'
    · rw [if_pos hx]
      have hx2 := (zof hk.1 hk.2).mp hx
      simp [Op.lookupswitch.offset, hx2, h2]
    · rw [if_neg hx, ← ih]
      have hx2 : ¬ x.toInt = k' := fun q => hx ((zof hk.1 hk.2).mpr q)
      have hx3 : ¬ k' = x.toInt := fun q => hx2 q.symm
      simp [Op.lookupswitch.offset, hx2, hx3]
