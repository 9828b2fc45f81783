/-! the reference's tests and comparisons -/
set_option maxHeartbeats 2000000 in
theorem l_rcmp {d nd g lim : Nat} {σ : zH} {B : List Nat} {R : List zTok} (hR : zRuc σ B R) (hn : zI σ 160 36 = nI nd) (hm : zRoom B g lim nd R) {Q : Option Value → zH → Prop} (hQ : zAns B lim nd 1 (zacm R) σ Q) : zM (d + 4) 166 [.ref 160] σ (fun r σ122 => zqi r (fun x123 => (if 0 ≤ x123 then (zK σ122 160 = 13) ∧ (if ¬ (zI σ122 160 13) = (nI 3) then zW (d + 5) 164 332 [(0, .ref 160), (1, .int x123)] [.int (nI 0)] σ122 Q else (if (zI σ122 160 15) = (nI 61) then zW (d + 5) 164 332 [(0, .ref 160), (1, .int x123)] [.int (nI 1)] σ122 Q else (if (zI σ122 160 15) = (nI 60) then zW (d + 5) 164 332 [(0, .ref 160), (1, .int x123)] [.int (nI 1)] σ122 Q else (if (zI σ122 160 15) = (nI 62) then zW (d + 5) 164 332 [(0, .ref 160), (1, .int x123)] [.int (nI 1)] σ122 Q else (if ¬ (if (zI σ122 160 15) ≤ (nI 256) then nI 0 else nI 1) = 0 then zM (d + 4) 142 [.ref 160] σ122 (fun r σ132 => zqv r ((zK σ132 160 = 13) ∧ zM (d + 4) 166 [.ref 160] σ132 (fun r σ134 => zqi r (fun x135 => (if 0 ≤ x135 then (zK σ134 160 = 13) ∧ zM (d + 4) 160 [.ref 160, .int (nI 3), .int x123, .int x135, .int (zI σ122 160 15)] σ134 (fun r σ138 => zqi r (fun x139 => Q (some (.int x139)) σ138)) else Q (some (.int x135)) σ134))))) else zM (d + 4) 145 [.ref 160] σ122 (fun r σ140 => zqi r (fun x141 => (zK σ140 160 = 13) ∧ zM (d + 4) 161 [.ref 160, .int x141] σ140 (fun r σ143 => zqi r (fun x144 => Q (some (.int x144)) σ143))))))))) else Q (some (.int x123)) σ122))) := by
  have hl := zRoom_lt hm hR.2.1 0 (by omega)
  have hl3 := hm.1
  refine p_rnm hR hn hm (fun τ a R1 q1 q2 q3 q4 q5 q6 q7 => ?_) (fun τ e q1 q2 q3 q4 => ?_)
  · rw [zqi_s, if_pos (by rw [← nI_0]; exact nI_le (by omega) (by omega))]
    have ha := znm_adv hR.2.1 q1
    have ht := zty_ok (zhdt R1).1 q2.2.2.2.1
    have C1 := fun (hk : 42 ≤ (zhdt R1).1 ∧ (zhdt R1).1 ≤ 47) => l_cmp1 (d := d) q2 q5 hm ha q3 q4 q6 q1 hQ q7 hk
    have C0 := fun (hk : ¬ (42 ≤ (zhdt R1).1 ∧ (zhdt R1).1 ≤ 47)) => l_cmp0 (d := d) q2 q5 hm ha q3 q4 q6 q1 hQ hk
    have W1 : 42 ≤ (zhdt R1).1 ∧ (zhdt R1).1 ≤ 47 → zW (d + 5) 164 332 [(0, .ref 160), (1, .int (nI nd))] [.int (nI 1)] τ Q := by
      intro hk
      refine b164_332 ?_
      rw [if_pos (by decide)]
      exact ⟨zRuc_k q2, C1 hk⟩
    have W0 : ¬ (42 ≤ (zhdt R1).1 ∧ (zhdt R1).1 ≤ 47) → zW (d + 5) 164 332 [(0, .ref 160), (1, .int (nI nd))] [.int (nI 0)] τ Q := by
      intro hk
      refine b164_332 ?_
      rw [if_neg (by decide)]
      exact ⟨zRuc_k q2, C0 hk⟩
    refine ⟨zRuc_k q2, ?_⟩
    rw [zRuc_13 q2]
    by_cases h3 : 37 ≤ (zhdt R1).1 ∧ (zhdt R1).1 ≤ 47
    · rw [if_neg (by rw [ht.2.2.2.2.1.mpr h3]; exact fun q => q rfl)]
      have e15 := (q2.2.2.1.2.2.2.2.1 h3.1 h3.2).2
      rw [e15] at C1 ⊢
      obtain ⟨k, hk⟩ : ∃ k, k = (zhdt R1).1 := ⟨_, rfl⟩
      rw [← hk] at C1 C0 W1 W0 h3 ⊢
      have key : ∀ j, j < 11 → (42 ≤ 37 + j ∧ 37 + j ≤ 47 ∧ (nI (zsc (37 + j)) = nI 61 ∨ nI (zsc (37 + j)) = nI 60 ∨ nI (zsc (37 + j)) = nI 62 ∨ (¬ nI (zsc (37 + j)) = nI 61 ∧ ¬ nI (zsc (37 + j)) = nI 60 ∧ ¬ nI (zsc (37 + j)) = nI 62 ∧ ¬ nI (zsc (37 + j)) ≤ nI 256))) ∨ (¬ (42 ≤ 37 + j ∧ 37 + j ≤ 47) ∧ (¬ nI (zsc (37 + j)) = nI 61 ∧ ¬ nI (zsc (37 + j)) = nI 60 ∧ ¬ nI (zsc (37 + j)) = nI 62 ∧ nI (zsc (37 + j)) ≤ nI 256)) := by decide
      have kk := key (k - 37) (by omega)
      rw [show 37 + (k - 37) = k by omega] at kk
      by_cases c1 : nI (zsc k) = nI 61
      · rw [if_pos c1]
        exact W1 (kk.elim (fun q => ⟨q.1, q.2.1⟩) (fun q => absurd c1 q.2.1))
      · rw [if_neg c1]
        by_cases c2 : nI (zsc k) = nI 60
        · rw [if_pos c2]
          exact W1 (kk.elim (fun q => ⟨q.1, q.2.1⟩) (fun q => absurd c2 q.2.2.1))
        · rw [if_neg c2]
          by_cases c3 : nI (zsc k) = nI 62
          · rw [if_pos c3]
            exact W1 (kk.elim (fun q => ⟨q.1, q.2.1⟩) (fun q => absurd c3 q.2.2.2.1))
          · rw [if_neg c3]
            by_cases c4 : nI (zsc k) ≤ nI 256
            · rw [if_pos (c := nI (zsc k) ≤ nI 256) c4, if_neg (by decide)]
              refine C0 ?_
              rcases kk with ⟨u, v, w⟩ | ⟨u, -⟩
              · rcases w with w | w | w | ⟨-, -, -, w⟩
                · exact absurd w c1
                · exact absurd w c2
                · exact absurd w c3
                · exact absurd c4 w
              · exact u
            · rw [if_neg (c := nI (zsc k) ≤ nI 256) c4, if_pos (by decide)]
              refine C1 ?_
              rcases kk with ⟨u, v, w⟩ | ⟨-, -, -, -, w⟩
              · exact ⟨u, v⟩
              · exact absurd w c4
    · rw [if_pos (by rw [nI_eq (by omega) (by omega)]; exact fun q => h3 (ht.2.2.2.2.1.mp q))]
      exact W0 (by omega)
  · rw [zqi_s, if_neg (by decide)]
    refine hQ.2 τ e ?_ q2 q3 q4
    unfold zacm
    rw [q1]
    rfl
/-- a test's pile and node -/
theorem l_rtest {d nd g lim : Nat} {σ σ0 : zH} {B : List Nat} {R R1 : List zTok} {o : Nat} {x3 x4 : Int32} {c : Nat → zCd} {r : zPC} (hR : zRuc σ B R1) (hn : zI σ 160 36 = nI nd) (hm : zRoom B g lim nd R) (hO : zOrd B.length R) (hF : zFn zJr zA0 σ0 σ) (hr : r = zSqc (zpile 9 R1) (fun p R4 => .ok ([c p], R4))) (hc : ∀ p, (c p).1 < 42 ∧ (c p).1 ≠ 21 ∧ (c p).1 ≠ 22 ∧ (c p).1 ≠ 23) (hA : ∀ p (τ : zH), p < 4 → zA τ 176 nd = nI o → zA τ 177 nd = nI p → zA τ 178 nd = x3 → zA τ 179 nd = x4 → zAtm τ nd (nd + 1) nd (c p)) {Q Q' : Option Value → zH → Prop} (hQ : zAns B lim nd 1 r σ0 Q) (hQ1 : ∀ υ p, zK υ 160 = 13 → zI υ 160 19 = nI p → zM (d + 4) 160 [.ref 160, .int (nI o), .int (nI p), .int x3, .int x4] υ (fun r τ => zqi r (fun x => Q (some (.int x)) τ)) → Q' (some (.int (nI 1))) υ) (hQ0 : ∀ υ, Q (some (.int (-1))) υ → Q' (some (.int (nI 0))) υ) : zM (d + 4) 150 [.ref 160] σ Q' := by
  have hl := zRoom_lt hm hO 0 (by omega)
  refine p_rpile hR (fun υ p1 p2 f1 f2 f3 => ?_) (fun υ p1 f1 f2 => ?_)
  · refine hQ1 υ _ (zRuc_k f1) f2 ?_
    have F1 := zFn_t hF f3
    have n1 : zI υ 160 36 = nI nd := by rw [f3.2.2.2.2.2.2.2.2.1 36 (by unfold zJr; omega)]; exact hn
    have o1 : zI υ 160 39 = zI σ0 160 39 := F1.2.2.2.2.2.2.2.2.1 39 (by unfold zJr; omega)
    refine p_node f1.1.1 n1 hl hm.1 (fun ω r1 r2 r3 r4 r5 r6 r7 r8 r9 => ?_)
    rw [zqi_s]
    have hz := zpile_e p1 p2
    have en : znd [c ((zhdt R1).1 - 17)] = 1 := by
      simp only [znd]
      rw [if_neg (by have := (hc ((zhdt R1).1 - 17)).1; omega)]
    refine hQ.1 ω [c ((zhdt R1).1 - 17)] (zgn R1) nd ?_ (zRuc_c r4 r2 r3 f1) (zFn_t (zFn_rc F1) r4) (zKn_t (Nat.le_refl _) (zKn_n F1) r5) ?_ ?_ ?_ (by have := hm.1; omega)
    · rw [hr, hz]
      rfl
    · rw [r1, en]
    · rw [r2 39 (by omega)]; exact o1
    · rw [en]
      exact zGn_a (Nat.le_refl _) (by omega) (hA _ ω (by omega) r6 r7 r8 r9) (hc _).2
  · refine hQ0 υ (hQ.2 υ _ ?_ f1 (zFn_rc (zFn_t hF f2)) (zKn_n (zFn_t hF f2)))
    rw [hr, zpile_n p1]
    rfl
set_option maxHeartbeats 4000000 in
theorem p_ratm {d nd g lim : Nat} {σ : zH} {B : List Nat} {R : List zTok} (hR : zRuc σ B R) (hn : zI σ 160 36 = nI nd) (hm : zRoom B g lim nd R) {Q : Option Value → zH → Prop} (hk : (zhdt R).1 ≠ 23 ∧ (zhdt R).1 ≠ 39) (hQ : zAns B lim nd 1 (zatm R) σ Q) : zM (d + 5) 164 [.ref 160] σ Q := by
  refine b164 ⟨zRuc_k hR, p_isw hR 23 (by omega) (by decide) (fun k => absurd k hk.1) (fun k1 => ?_)⟩
  rw [zqi_s, if_neg (by decide)]
  refine ⟨zRuc_k hR, p_iss hR 39 (by omega) (by decide) (fun k => absurd k hk.2) (fun k2 => ?_)⟩
  rw [zqi_s, if_pos (by decide)]
  refine ⟨zRuc_k hR, p_isw hR 24 (by omega) (by decide) (fun k => ?_) (fun k3 => ?_)⟩
  · -- alike
    rw [zqi_s, if_neg (by decide)]
    refine ⟨zRuc_k hR, p_rgo hR (fun τ g1 g2 => ?_)⟩
    rw [zqv_s]
    have F1 := zFn_gr g2
    have n1 : zI τ 160 36 = nI nd := by rw [F1.2.2.2.2.2.2.2.2.1 36 (by unfold zJr; omega)]; exact hn
    have ez : zatm R = zSqc (zprp (zgn R)) (fun pr R3 => zSqc (zpile 9 R3) (fun p R4 => .ok ([(24, pr, p * 16 + 0)], R4))) := by
      unfold zatm
      rw [if_pos (by omega)]
      unfold zats
      rw [k, if_neg (by omega)]
      rfl
    refine ⟨zRuc_k g1, p_rprp g1 (fun υ v R' q1 q2 q3 q4 q5 => ?_) (fun υ e q1 q2 q3 => ?_)⟩
    · rw [zqi_s, if_neg (by rw [← nI_0]; exact nI_nlt (by omega) (by omega))]
      have F2 := zFn_t F1 q5
      have n2 : zI υ 160 36 = nI nd := by rw [q5.2.2.2.2.2.2.2.2.1 36 (by unfold zJr; omega)]; exact n1
      refine ⟨zRuc_k q3, l_rtest (c := fun p => (24, 31 + v, p * 16 + 0)) (o := 4) (x3 := -1) (x4 := nI v) q3 n2 hm hR.2.1 F2 (by rw [ez, q1]; rfl) (fun p => by simp only; omega) (fun p ρ hp y1 y2 y3 y4 => Or.inr (Or.inl ⟨rfl, y1, p, v, hp, q2, rfl, by simp, y2, y4⟩)) hQ (fun ρ p y1 y2 y3 => ?_) (fun ρ y => ?_)⟩
      · rw [zqi_s, if_pos (by decide), y2]
        exact ⟨y1, y3⟩
      · rw [zqi_s, if_neg (by decide)]
        exact y
    · rw [zqi_s, if_pos (by decide)]
      have F2 := zFn_t F1 q3
      refine hQ.2 υ e ?_ q2 (zFn_rc F2) (zKn_n F2)
      rw [ez, q1]
      rfl
  rw [zqi_s, if_pos (by decide)]
  refine ⟨zRuc_k hR, p_isw hR 25 (by omega) (by decide) (fun k => ?_) (fun k4 => ?_)⟩
  · -- each
    rw [zqi_s, if_neg (by decide)]
    refine ⟨zRuc_k hR, p_rgo hR (fun τ g1 g2 => ?_)⟩
    rw [zqv_s]
    have F1 := zFn_gr g2
    have n1 : zI τ 160 36 = nI nd := by rw [F1.2.2.2.2.2.2.2.2.1 36 (by unfold zJr; omega)]; exact hn
    have ez : zatm R = zSqc (znum 2 9 (zgn R)) (fun g R2 => zSqc (zprp R2) (fun pr R3 => zSqc (zpile 9 R3) (fun p R4 => .ok ([(25, pr, p * 16 + g)], R4)))) := by
      unfold zatm
      rw [if_pos (by omega)]
      unfold zats
      rw [k, if_pos rfl]
      simp only [show ¬ (25 : Nat) = 26 by omega, if_false]
    refine ⟨zRuc_k g1, p_rnum g1 (by omega) (by omega) (fun υ gg R2 u1 u2 u3 u3' u4 => ?_) (fun υ e q1 q2 q3 => ?_)⟩
    · rw [zqi_s, if_pos (by decide), u3]
      obtain ⟨-, gl, gh, -, -⟩ := znum_ok u1
      have F2 := zFn_t F1 u4
      have n2 : zI υ 160 36 = nI nd := by rw [u4.2.2.2.2.2.2.2.2.1 36 (by unfold zJr; omega)]; exact n1
      refine ⟨zRuc_k u2, p_rprp u2 (fun ρ v R' q1 q2 q3 q4 q5 => ?_) (fun ρ e q1 q2 q3 => ?_)⟩
      · rw [zqi_s, if_neg (by rw [← nI_0]; exact nI_nlt (by omega) (by omega))]
        have F3 := zFn_t F2 q5
        have n3 : zI ρ 160 36 = nI nd := by rw [q5.2.2.2.2.2.2.2.2.1 36 (by unfold zJr; omega)]; exact n2
        refine ⟨zRuc_k q3, l_rtest (c := fun p => (25, 31 + v, p * 16 + gg)) (o := 5) (x3 := nI gg) (x4 := nI v) q3 n3 hm hR.2.1 F3 (by rw [ez, u1]; simp only [zSqc]; rw [q1]) (fun p => by simp only; omega) (fun p κ hp y1 y2 y3 y4 => Or.inr (Or.inr (Or.inl ⟨rfl, y1, p, v, gg, hp, q2, gl, gh, rfl, rfl, y2, y3, y4⟩))) hQ (fun κ p y1 y2 y3 => ?_) (fun κ y => ?_)⟩
        · rw [zqi_s, if_pos (by decide), y2]
          exact ⟨y1, y3⟩
        · rw [zqi_s, if_neg (by decide)]
          exact y
      · rw [zqi_s, if_pos (by decide)]
        have F3 := zFn_t F2 q3
        refine hQ.2 ρ e ?_ q2 (zFn_rc F3) (zKn_n F3)
        rw [ez, u1]
        simp only [zSqc]
        rw [q1]
    · rw [zqi_s, if_neg (by decide)]
      have F2 := zFn_t F1 q3
      refine hQ.2 υ e ?_ q2 (zFn_rc F2) (zKn_n F2)
      rw [ez, q1]
      rfl
  rw [zqi_s, if_pos (by decide)]
  refine ⟨zRuc_k hR, p_isw hR 26 (by omega) (by decide) (fun k => ?_) (fun k5 => ?_)⟩
  · -- rising
    rw [zqi_s, if_neg (by decide)]
    refine ⟨zRuc_k hR, p_rgo hR (fun τ g1 g2 => ?_)⟩
    rw [zqv_s]
    have F1 := zFn_gr g2
    have n1 : zI τ 160 36 = nI nd := by rw [F1.2.2.2.2.2.2.2.2.1 36 (by unfold zJr; omega)]; exact hn
    have ez : zatm R = zSqc (zpile 9 (zgn R)) (fun p R4 => .ok ([(26, 31, p * 16 + 0)], R4)) := by
      unfold zatm
      rw [if_pos (by omega)]
      unfold zats
      rw [k, if_neg (by omega)]
      rfl
    refine ⟨zRuc_k g1, l_rtest (c := fun p => (26, 31, p * 16 + 0)) (o := 6) (x3 := -1) (x4 := nI 0) g1 n1 hm hR.2.1 F1 ez (fun p => by simp only; omega) (fun p ρ hp y1 y2 y3 y4 => Or.inr (Or.inr (Or.inr ⟨rfl, y1, p, hp, rfl, by simp, y2⟩))) hQ (fun ρ p y1 y2 y3 => ?_) (fun ρ y => ?_)⟩
    · rw [zqi_s, if_neg (by decide), y2]
      exact ⟨y1, y3⟩
    · rw [zqi_s, if_pos (by decide)]
      exact y
  rw [zqi_s, if_pos (by decide)]
  have ez : zatm R = zacm R := by
    unfold zatm
    rw [if_neg (by omega)]
  rw [ez] at hQ
  exact ⟨zRuc_k hR, l_rcmp hR hn hm hQ⟩
