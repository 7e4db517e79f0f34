theorem cmd_out {x : MX} {m : MM} (a : Int32) (h : Rel x m) : ∃ r x' m', f_X8_out a x = some (r, x') ∧ f_X9_out a m = some (r, m') ∧ Rel x' m' := by
  have hR := h
  obtain ⟨nl, nc, ns, nh, h1, h2, h3, h4, h5, h6, h7, h8, h9, h10⟩ := h
  have hc := h1.2.2.2.1
  by_cases d : 0 ≤ a.toInt ∧ a.toInt < nc
  · obtain ⟨k, hk, rfl⟩ := nI_ex d.1 d.2
    have i6 : inb (nI k) 6 = true := inb_nI (by omega) (by decide)
    have j0 : ix (nI k) = k := ix_nI (by omega)
    have e26 := (h3.1 k hk).1
    by_cases e : mi m 87 k = -2
    · refine ⟨-5, x, m, ?_, ?_, hR⟩
      · unfold f_X8_out
        rw [cuffX h1, decide_eq_true d, if_pos rfl, if_pos i6, j0, e26, if_pos e]
      · unfold f_X9_out
        rw [cuffM h1, decide_eq_true d, if_pos rfl, if_pos i6, j0, if_pos e]
    · have q1 : xi (xs x 26 k (-2)) 27 2 = xi x 27 2 := by rw [xi_xs, if_neg (by omega)]
      have q2 : mi (ms m 87 k (-2)) 80 39 = mi m 80 39 := by rw [mi_ms, if_neg (by omega)]
      refine ⟨mi m 87 k, xs (xs x 26 k (-2)) 27 2 (xi x 27 2 + 1), ms (ms m 87 k (-2)) 80 39 (mi m 80 39 + 1), ?_, ?_, nl, nc, ns, nh, ?_⟩
      · unfold f_X8_out
        rw [cuffX h1, decide_eq_true d, if_pos rfl, if_pos i6, j0, e26, if_neg e, letx_s, q1, letx_s]
      · unfold f_X9_out
        rw [cuffM h1, decide_eq_true d, if_pos rfl, if_pos i6, j0, if_neg e, letx_s, q2, letx_s]
      · apply rest_in h1 h6 h7 h8 h9 h10
        · rfl
        · intro h k q
          unfold offX at q
          rw [xi_xs, if_neg (by omega), xi_xs, if_neg (by omega)]
        · intro _ _; rfl
        · intro h k q
          unfold offI at q
          rw [mi_ms, if_neg (by omega), mi_ms, if_neg (by omega)]
        · intro _ _; rfl
        · exact (((h2.xs (by omega)).xs (by omega)).ms (by omega)).ms (by omega)
        · refine ⟨fun i hi => ?_, fun i p1 p2 => ?_⟩
          · by_cases e2 : i = k
            · have A : xi (xs (xs x 26 k (-2)) 27 2 (xi x 27 2 + 1)) 26 i = -2 := by rw [xi_xs, if_neg (by omega), xi_xs, if_pos ⟨rfl, e2⟩]
              have B : mi (ms (ms m 87 k (-2)) 80 39 (mi m 80 39 + 1)) 87 i = -2 := by rw [mi_ms, if_neg (by omega), mi_ms, if_pos ⟨rfl, e2⟩]
              rw [A, B]
              exact ⟨rfl, by decide, by decide⟩
            · have A : xi (xs (xs x 26 k (-2)) 27 2 (xi x 27 2 + 1)) 26 i = xi x 26 i := by rw [xi_xs, if_neg (by omega), xi_xs, if_neg (by omega)]
              have B : mi (ms (ms m 87 k (-2)) 80 39 (mi m 80 39 + 1)) 87 i = mi m 87 i := by rw [mi_ms, if_neg (by omega), mi_ms, if_neg (by omega)]
              rw [A, B]
              exact h3.1 i hi
          · rw [xi_xs, if_neg (by omega), xi_xs, if_neg (by omega)]
            exact h3.2 i p1 p2
        · obtain ⟨l1, l2, l3, l4⟩ := h4
          refine ⟨?_, ?_, ?_, ?_⟩
          · simpa [xi_xs, mi_ms] using l1
          · simpa [xi_xs, mi_ms] using l2
          · simp [xi_xs, mi_ms, l3]
          · simpa [xi_xs, mi_ms] using l4
        · exact h5.cg (by simp [mi_ms]) (by simp [xi_xs]) (fun k => by simp [xi_xs]) (fun k => by simp [xi_xs]) (fun k => by simp [xi_xs]) (fun k => by simp [mi_ms])
  · refine ⟨-1, x, m, ?_, ?_, hR⟩
    · unfold f_X8_out
      rw [cuffX h1, decide_eq_false d]; rfl
    · unfold f_X9_out
      rw [cuffM h1, decide_eq_false d]; rfl
def und (a k : Nat) : Bool := match a, k with
  | 0, 0 => true
  | 0, 1 => true
  | 0, 2 => true
  | 0, 3 => true
  | 0, 4 => true
  | 0, 5 => true
  | 0, 6 => true
  | 0, 7 => true
  | 1, 1 => true
  | 1, 4 => true
  | 1, 7 => true
  | 2, 2 => true
  | 2, 3 => true
  | 2, 5 => true
  | 3, 3 => true
  | 3, 5 => true
  | 4, 4 => true
  | 4, 7 => true
  | 5, 5 => true
  | 6, 6 => true
  | 7, 7 => true
  | _, _ => false
theorem underX (x : MX) : ∀ a k, a < 8 → k < 8 → f_X2_isUnder_24 x LF (nI a) (nI k) 0 = some (und a k) := by
  intro a k ha hk
  match a, ha, k, hk with
  | 0, _, 0, _ | 0, _, 1, _ | 0, _, 2, _ | 0, _, 3, _ | 0, _, 4, _ | 0, _, 5, _ | 0, _, 6, _ | 0, _, 7, _ | 1, _, 0, _ | 1, _, 1, _ | 1, _, 2, _ | 1, _, 3, _ | 1, _, 4, _ | 1, _, 5, _ | 1, _, 6, _ | 1, _, 7, _ | 2, _, 0, _ | 2, _, 1, _ | 2, _, 2, _ | 2, _, 3, _ | 2, _, 4, _ | 2, _, 5, _ | 2, _, 6, _ | 2, _, 7, _ | 3, _, 0, _ | 3, _, 1, _ | 3, _, 2, _ | 3, _, 3, _ | 3, _, 4, _ | 3, _, 5, _ | 3, _, 6, _ | 3, _, 7, _ | 4, _, 0, _ | 4, _, 1, _ | 4, _, 2, _ | 4, _, 3, _ | 4, _, 4, _ | 4, _, 5, _ | 4, _, 6, _ | 4, _, 7, _ | 5, _, 0, _ | 5, _, 1, _ | 5, _, 2, _ | 5, _, 3, _ | 5, _, 4, _ | 5, _, 5, _ | 5, _, 6, _ | 5, _, 7, _ | 6, _, 0, _ | 6, _, 1, _ | 6, _, 2, _ | 6, _, 3, _ | 6, _, 4, _ | 6, _, 5, _ | 6, _, 6, _ | 6, _, 7, _ | 7, _, 0, _ | 7, _, 1, _ | 7, _, 2, _ | 7, _, 3, _ | 7, _, 4, _ | 7, _, 5, _ | 7, _, 6, _ | 7, _, 7, _ => rfl
theorem underM (m : MM) (v : Int32) : ∀ a k, a < 8 → k < 8 → f_X9_taken_61 m LF (nI a) v (nI k) = some (if und a k = true then v else -12) := by
  intro a k ha hk
  match a, ha, k, hk with
  | 0, _, 0, _ | 0, _, 1, _ | 0, _, 2, _ | 0, _, 3, _ | 0, _, 4, _ | 0, _, 5, _ | 0, _, 6, _ | 0, _, 7, _ | 1, _, 0, _ | 1, _, 1, _ | 1, _, 2, _ | 1, _, 3, _ | 1, _, 4, _ | 1, _, 5, _ | 1, _, 6, _ | 1, _, 7, _ | 2, _, 0, _ | 2, _, 1, _ | 2, _, 2, _ | 2, _, 3, _ | 2, _, 4, _ | 2, _, 5, _ | 2, _, 6, _ | 2, _, 7, _ | 3, _, 0, _ | 3, _, 1, _ | 3, _, 2, _ | 3, _, 3, _ | 3, _, 4, _ | 3, _, 5, _ | 3, _, 6, _ | 3, _, 7, _ | 4, _, 0, _ | 4, _, 1, _ | 4, _, 2, _ | 4, _, 3, _ | 4, _, 4, _ | 4, _, 5, _ | 4, _, 6, _ | 4, _, 7, _ | 5, _, 0, _ | 5, _, 1, _ | 5, _, 2, _ | 5, _, 3, _ | 5, _, 4, _ | 5, _, 5, _ | 5, _, 6, _ | 5, _, 7, _ | 6, _, 0, _ | 6, _, 1, _ | 6, _, 2, _ | 6, _, 3, _ | 6, _, 4, _ | 6, _, 5, _ | 6, _, 6, _ | 6, _, 7, _ | 7, _, 0, _ | 7, _, 1, _ | 7, _, 2, _ | 7, _, 3, _ | 7, _, 4, _ | 7, _, 5, _ | 7, _, 6, _ | 7, _, 7, _ => rfl
theorem kindX {a : Int32} : f_X2_isKind a = decide (0 ≤ a.toInt ∧ a.toInt < (8 : Nat)) := by
  have e0 : (0 : Int32).toInt = 0 := by decide
  have e8 : (8 : Int32).toInt = 8 := by decide
  unfold f_X2_isKind
  simp only [i_lt, i_le, e0, e8]
  split
  · rw [decide_eq_false (by omega)]
  · split
    · rw [decide_eq_false (by omega)]
    · rw [decide_eq_true (by omega)]
theorem cmd_taken {x : MX} {m : MM} (a b : Int32) (h : Rel x m) : ∃ r, f_X8_taken a b x = some r ∧ f_X9_taken a b m = some r := by
  obtain ⟨nl, nc, ns, nh, h1, h2, h3, h4, h5, h6, h7, h8, h9, h10⟩ := h
  have e0 : (0 : Int32).toInt = 0 := by decide
  have k0 : f_X9_isIn b 0 7 = decide (0 ≤ b.toInt ∧ b.toInt < (8 : Nat)) := by
    rw [isIn_eq, e0, show (7 : Int32).toInt = 7 by decide]
    exact decide_eq_decide.mpr (by omega)
  by_cases c1 : 0 ≤ a.toInt ∧ a.toInt < (6 : Nat)
  · by_cases c2 : 0 ≤ b.toInt ∧ b.toInt < (8 : Nat)
    · obtain ⟨s, hs, rfl⟩ := nI_ex c1.1 c1.2
      have i6 : inb (nI s) 6 = true := inb_nI hs (by decide)
      have j0 : ix (nI s) = s := ix_nI (by omega)
      have n10 : ¬ (1 : Int32) = 0 := by decide
      have n12 : ¬ (1 : Int32) = 2 := by decide
      have n20 : ¬ (2 : Int32) = 0 := by decide
      rcases sh_case (h10 s hs) hs with ⟨g1, g2, g3, g4, g5⟩ | ⟨g1, g2, g3, g4, g5, g6, q, g7, g8, g9⟩ | ⟨g1, g2, g3, g4, g5, so, sz, p1, p2, p3, p4, p5, p6, p7, p8⟩
      · refine ⟨-11, ?_, ?_⟩
        · simp only [f_X8_taken, isShelfX, decide_eq_true c1, if_true, kindX, decide_eq_true c2, i6, j0, g3]
        · simp only [f_X9_taken, isShelfM, decide_eq_true c1, if_true, k0, decide_eq_true c2, i6, j0, g1]
      · obtain ⟨w, hw, rfl⟩ := nI_ex c2.1 c2.2
        obtain ⟨u1, u2, u3, u4, u5⟩ := h9
        obtain ⟨v1, v2, v3⟩ := u4 q g7
        obtain ⟨k, hk, ek⟩ := nI_ex (a := mi m 103 q) (n := 8) v2 (by omega)
        have n1 : ¬ nI q < 0 := by rw [i_lt, e0, nI_int (by omega)]; omega
        have n2 : nI q < nI nh := (nI_lt6 (by omega) (by omega)).mpr g7
        have iu : f_X2_isUnder (nI q) (nI w) x = some (und w k) := by
          unfold f_X2_isUnder
          rw [if_neg n1, u2, if_pos n2, if_pos (inb_nI (by omega) (by decide)), ix_nI (by omega), v1, ek]
          exact underX x w k hw hk
        have E2 : f_X9_taken (nI s) (nI w) m = some (if und w k = true then nI k else -12) := by
          simp only [f_X9_taken, isShelfM, decide_eq_true c1, if_true, k0, decide_eq_true c2, i6, j0, g1, if_neg n10, if_neg n12, g8, inb_nI (show q < 50 by omega) (by decide), ix_nI (show q < 2147483648 by omega), letx_s, ek]
          exact underM m (nI k) w k hw hk
        refine ⟨_, ?_, E2⟩
        simp only [f_X8_taken, isShelfX, decide_eq_true c1, if_true, kindX, decide_eq_true c2, i6, j0, g3, g4, g9, iu, ob_s, inb_nI (show q < 50 by omega) (by decide), ix_nI (show q < 2147483648 by omega), v1, ek]
        cases und w k <;> rfl
      · refine ⟨-12, ?_, ?_⟩
        · simp only [f_X8_taken, isShelfX, decide_eq_true c1, if_true, kindX, decide_eq_true c2, i6, j0, g3, g4]; rfl
        · simp only [f_X9_taken, isShelfM, decide_eq_true c1, if_true, k0, decide_eq_true c2, i6, j0, g1, if_neg n20]
    · refine ⟨-1, ?_, ?_⟩
      · simp only [f_X8_taken, isShelfX, decide_eq_true c1, if_true, kindX, decide_eq_false c2]; rfl
      · simp only [f_X9_taken, isShelfM, decide_eq_true c1, if_true, k0, decide_eq_false c2]; rfl
  · refine ⟨-1, ?_, ?_⟩
    · simp only [f_X8_taken, isShelfX, decide_eq_false c1]; rfl
    · simp only [f_X9_taken, isShelfM, decide_eq_false c1]; rfl
