theorem div10 {a : Int32} (h : 0 ≤ a.toInt) : (a / 10).toInt = a.toInt / 10 := by
  have e10 : (10 : Int32).toInt = 10 := by decide
  have := i_hi a
  rw [Int32.toInt_div, e10, Int.tdiv_eq_ediv_of_nonneg h]
  exact Int.bmod_eq_of_le (by omega) (by omega)
theorem pair_eq {nl nc ns : Nat} {x : MX} {m : MM} (h1 : RCnt nl nc ns x m) (v : Int32) : (f_X8_isLinkAndCuff v x = some false ∧ f_X9_isPair v m = some false) ∨ (f_X8_isLinkAndCuff v x = some true ∧ f_X9_isPair v m = some true ∧ ∃ a b, a < nl ∧ b < nc ∧ v / 10 = nI a ∧ v % 10 = nI b) := by
  have e0 : (0 : Int32).toInt = 0 := by decide
  have hl := h1.2.2.1
  unfold f_X8_isLinkAndCuff f_X9_isPair
  by_cases c : v < 0
  · rw [if_pos c, if_pos c]
    exact Or.inl ⟨rfl, rfl⟩
  · have c' : 0 ≤ v.toInt := by rw [i_lt, e0] at c; omega
    have d0 : 0 ≤ (v / 10).toInt := by rw [div10 c']; omega
    rw [if_neg c, if_neg c, h1.1.1, linkM h1, cuffM h1, cuffX h1]
    by_cases d : (v / 10).toInt < nl
    · have z : ¬ nI nl ≤ v / 10 := by rw [i_le, nI_int (by omega)]; omega
      have D : decide (0 ≤ (v / 10).toInt ∧ (v / 10).toInt < (nl : Int)) = true := decide_eq_true ⟨d0, d⟩
      simp only [if_neg z, D, if_true]
      by_cases e : 0 ≤ (v % 10).toInt ∧ (v % 10).toInt < nc
      · simp only [decide_eq_true e, if_true]
        obtain ⟨a, ha, ea⟩ := nI_ex d0 d
        obtain ⟨b, hb, eb⟩ := nI_ex e.1 e.2
        exact Or.inr ⟨trivial, trivial, a, b, ha, hb, ea, eb⟩
      · simp only [decide_eq_false e]
        exact Or.inl ⟨rfl, rfl⟩
    · have z : nI nl ≤ v / 10 := by rw [i_le, nI_int (by omega)]; omega
      have D : decide (0 ≤ (v / 10).toInt ∧ (v / 10).toInt < (nl : Int)) = false := decide_eq_false (fun q => d q.2)
      simp only [if_pos z, D]
      first | exact Or.inl ⟨rfl, rfl⟩ | exact Or.inl ⟨trivial, rfl⟩ | exact Or.inl ⟨trivial, trivial⟩ | simp
theorem cmd_seconds {x : MX} {m : MM} (v w : Int32) (hR : Rel x m) : ∃ r x' m', f_X8_seconds v w x = some (r, x') ∧ f_X9_seconds v w m = some (r, m') ∧ Rel x' m' := by
  obtain ⟨nl, nc, ns, nh, h1, h2, h3⟩ := id hR
  have e0 : (0 : Int32).toInt = 0 := by decide
  have e3 : (3 : Int32).toInt = 3 := by decide
  have k0 : f_X9_isIn w 0 3 = decide (0 ≤ w.toInt ∧ w.toInt ≤ 3) := by rw [isIn_eq, e0, e3]
  rcases pair_eq h1 v with ⟨p1, p2⟩ | ⟨p1, p2, a, b, ha, hb, ea, eb⟩
  · refine ⟨-1, x, m, ?_, ?_, hR⟩
    · unfold f_X8_seconds
      rw [p1]; rfl
    · unfold f_X9_seconds
      rw [p2]; rfl
  · have la := h1.2.2.1
    have lb := h1.2.2.2.1
    by_cases c : 0 ≤ w.toInt ∧ w.toInt ≤ 3
    · have c1 : ¬ w < 0 := by rw [i_lt, e0]; omega
      have c2 : w ≤ 3 := by rw [i_le, e3]; omega
      obtain ⟨t, x1, m1, E1, E2, E3, E4, _⟩ := now_eq hR (a := a) (b := b) (by omega) (by omega)
      have R1 := hR.same E3 E4
      have R2 := hR.same (SameX.rf x) E4
      unfold f_X8_seconds f_X9_seconds
      rw [p1, p2, ob_s, ob_s, if_pos rfl, if_pos rfl, if_neg c1, if_pos c2, k0, decide_eq_true c, if_pos rfl, ea, eb, E2, ob2_s]
      by_cases w0 : w = 0
      · refine ⟨t, x1, m1, ?_, ?_, R1⟩
        · rw [if_pos w0, E1, ob2_s]
        · rw [if_pos w0]
      · rw [if_neg w0, if_neg w0]
        by_cases w1 : w = 1
        · obtain ⟨t2, x2, m2, F1, F2, F3, F4⟩ := before_eq R2 (a := a) (b := b) (by omega) (by omega)
          refine ⟨t2, x2, m2, ?_, ?_, R2.same F3 F4⟩
          · rw [if_pos w1, F1, ob2_s]
          · rw [if_pos w1, F2, ob2_s]
        · rw [if_neg w1, if_neg w1]
          by_cases w2 : w = 2
          · obtain ⟨g, G1, G2⟩ := goes_eq R2 (a := a) (b := b) (by omega) (by omega)
            rw [if_pos w2, if_pos w2, G1, G2, ob_s, ob_s]
            refine ⟨if g = true then 1 else 0, x, m1, ?_, ?_, R2⟩
            · cases g <;> rfl
            · cases g <;> rfl
          · rw [if_neg w2, if_neg w2]
            unfold f_X8_takesAtBest
            rw [E1, ob2_s]
            obtain ⟨g, G1, G2⟩ := goes_eq R1 (a := a) (b := b) (by omega) (by omega)
            rw [G1, G2, ob_s, ob_s]
            by_cases hg : g = true
            · obtain ⟨t2, x2, m2, F1, F2, F3, F4⟩ := before_eq R1 (a := a) (b := b) (by omega) (by omega)
              obtain ⟨t3, x3, m3, H1, H2, H3, H4⟩ := before_eq (R1.same (SameX.rf x1) F4) (a := a) (b := b) (by omega) (by omega)
              have e : some (t3, x3) = some (t2, x2) := H1.symm.trans F1
              have e2 : t3 = t2 := by injection e with e; injection e
              subst e2
              rw [if_pos hg, if_pos hg, F1, F2, ob2_s, ob2_s, ob2_s]
              by_cases q : t ≤ t3
              · refine ⟨t, x2, m2, ?_, ?_, R1.same F3 F4⟩
                · have : ¬ t3 < t := by rw [i_le] at q; rw [i_lt]; omega
                  unfold imin
                  rw [if_neg this]
                · rw [if_pos q]
              · refine ⟨t3, x2, m3, ?_, ?_, R1.same F3 (F4.tr H4)⟩
                · have : t3 < t := by rw [i_le] at q; rw [i_lt]; omega
                  unfold imin
                  rw [if_pos this]
                · rw [if_neg q, H2, ob2_s]
            · refine ⟨t, x1, m1, ?_, ?_, R1⟩
              · rw [if_neg hg, ob2_s]
              · rw [if_neg hg]
    · refine ⟨-1, x, m, ?_, ?_, hR⟩
      · unfold f_X8_seconds
        rw [p1, ob_s, if_pos rfl]
        by_cases c1 : w < 0
        · rw [if_pos c1]
        · rw [if_neg c1, if_neg (fun c2 => ?_)]
          rw [i_lt, e0] at c1
          rw [i_le, e3] at c2
          omega
      · unfold f_X9_seconds
        rw [p2, ob_s, if_pos rfl, k0, decide_eq_false c]; rfl
