def srch (f : Nat → Int32) (lim : Int32) : Nat → Nat → Int32
  | 0, _ => -2
  | n + 1, j => if lim < f j then srch f lim n (j + 1) else nI j
theorem srch_s (f : Nat → Int32) (lim : Int32) (n j : Nat) : srch f lim (n + 1) j = if lim < f j then srch f lim n (j + 1) else nI j := rfl
theorem timesX {x0 : MX} {m0 : MM} {T : Nat → Nat → Int32 → Int32 → Int32 → Int32} (K : TK x0 m0 T) {a b : Nat} (ha : a < 6) (hb : b < 6) (lim : Int32) : ∀ (n j fuel : Nat) (x : MX), SameX x0 x → j + n = 100 → n < fuel → ∃ x', f_X8_timesMore_3 fuel (nI a) (nI b) lim (nI j) x = some (srch (fun k => T a b (mi m0 83 b) (mi m0 88 (gh m0 b)) (mi m0 90 (gh m0 b) + nI k)) lim n j, x') ∧ SameX x0 x' := by
  obtain ⟨g1, g2⟩ := gh_lt K.1 hb
  intro n
  induction n with
  | zero =>
    intro j f x sx hj hf
    obtain ⟨f, rfl⟩ : ∃ e, f = e + 1 := ⟨f - 1, by omega⟩
    refine ⟨x, ?_, sx⟩
    have z : (99 : Int32) < nI j := (nI_lt6 (n := 99) (by decide) (by omega)).mpr (by omega)
    show B_X8_timesMore_3 _ _ _ _ _ _ = _
    unfold B_X8_timesMore_3
    rw [if_pos z]
    rfl
  | succ n ih =>
    intro j f x sx hj hf
    obtain ⟨f, rfl⟩ : ∃ e, f = e + 1 := ⟨f - 1, by omega⟩
    have z : ¬ (99 : Int32) < nI j := fun q => by have := (nI_lt6 (n := 99) (by decide) (by omega)).mp q; omega
    obtain ⟨x1, E1, E2⟩ := handX K sx ha hb g1 (r := nI j) ⟨by rw [nI_int (by omega)]; omega, by rw [nI_int (by omega)]; omega⟩
    have e : xi x 11 b = nI (gh m0 b) := (tk_xnum K.1 sx (w := 4) (k := b) (by decide) hb).trans g2
    have eX : f_X8_timesMore_3 (f + 1) (nI a) (nI b) lim (nI j) x = if lim < T a b (mi m0 83 b) (mi m0 88 (gh m0 b)) (mi m0 90 (gh m0 b) + nI j) then f_X8_timesMore_3 f (nI a) (nI b) lim (nI (j + 1)) x1 else some (nI j, x1) := by
      show B_X8_timesMore_3 _ _ _ _ _ _ = _
      unfold B_X8_timesMore_3
      rw [if_neg z, if_pos (inb_nI (by omega) (by decide)), ix_nI (by omega), e, E1, ob2_s, nI_1]
    rw [eX, srch_s]
    by_cases q : lim < T a b (mi m0 83 b) (mi m0 88 (gh m0 b)) (mi m0 90 (gh m0 b) + nI j)
    · rw [if_pos q, if_pos q]
      exact ih (j + 1) f x1 E2 (by omega) (by omega)
    · rw [if_neg q, if_neg q]
      exact ⟨x1, rfl, E2⟩
theorem levelX {x0 : MX} {m0 : MM} {T : Nat → Nat → Int32 → Int32 → Int32 → Int32} (K : TK x0 m0 T) {a b : Nat} (ha : a < 6) (hb : b < 6) (lim : Int32) : ∀ (n j fuel : Nat) (x : MX), SameX x0 x → j + n = 10 → n < fuel → ∃ x', f_X8_leastSkill_26 fuel (nI a) (nI b) lim (mi m0 90 (gh m0 b)) (nI j) x = some (srch (fun k => T a b (mi m0 83 b) (nI k) (mi m0 90 (gh m0 b))) lim n j, x') ∧ SameX x0 x' := by
  obtain ⟨g1, g2⟩ := gh_lt K.1 hb
  have d := tk_dn K.1 g1
  have e9 : (SA 1).getD 6 0 = 9 := by decide
  intro n
  induction n with
  | zero =>
    intro j f x sx hj hf
    obtain ⟨f, rfl⟩ : ∃ e, f = e + 1 := ⟨f - 1, by omega⟩
    refine ⟨x, ?_, sx⟩
    have z : (9 : Int32) < nI j := (nI_lt6 (n := 9) (by decide) (by omega)).mpr (by omega)
    show B_X8_leastSkill_26 _ _ _ _ _ _ _ = _
    unfold B_X8_leastSkill_26
    rw [e9, if_pos z]
    rfl
  | succ n ih =>
    intro j f x sx hj hf
    obtain ⟨f, rfl⟩ : ∃ e, f = e + 1 := ⟨f - 1, by omega⟩
    have z : ¬ (9 : Int32) < nI j := fun q => by have := (nI_lt6 (n := 9) (by decide) (by omega)).mp q; omega
    obtain ⟨x1, E1, E2⟩ := skillX K sx ha hb (h := nI j) (n := mi m0 90 (gh m0 b)) ⟨by rw [nI_int (by omega)]; omega, by rw [nI_int (by omega)]; omega⟩ ⟨d.1, by omega⟩
    have eX : f_X8_leastSkill_26 (f + 1) (nI a) (nI b) lim (mi m0 90 (gh m0 b)) (nI j) x = if lim < T a b (mi m0 83 b) (nI j) (mi m0 90 (gh m0 b)) then f_X8_leastSkill_26 f (nI a) (nI b) lim (mi m0 90 (gh m0 b)) (nI (j + 1)) x1 else some (nI j, x1) := by
      show B_X8_leastSkill_26 _ _ _ _ _ _ _ = _
      unfold B_X8_leastSkill_26
      rw [e9, if_neg z, E1, ob2_s, nI_1]
    rw [eX, srch_s]
    by_cases q : lim < T a b (mi m0 83 b) (nI j) (mi m0 90 (gh m0 b))
    · rw [if_pos q, if_pos q]
      exact ih (j + 1) f x1 E2 (by omega) (by omega)
    · rw [if_neg q, if_neg q]
      exact ⟨x1, rfl, E2⟩
theorem timesM {x0 : MX} {m0 : MM} {T : Nat → Nat → Int32 → Int32 → Int32 → Int32} (K : TK x0 m0 T) {a b : Nat} (ha : a < 6) (hb : b < 6) (lim : Int32) : ∀ (n j fuel : Nat) (m : MM), SameM m0 m → j + n = 100 → n < fuel → ∃ m', f_X9_practice_56 fuel lim 0 (nI a) (nI b) (nI (gh m0 b)) (nI j) m = some (srch (fun k => T a b (mi m0 83 b) (mi m0 88 (gh m0 b)) (mi m0 90 (gh m0 b) + nI k)) lim n j, m') ∧ SameM m0 m' := by
  obtain ⟨g1, g2⟩ := gh_lt K.1 hb
  have d := tk_dn K.1 g1
  have c := tk_sk K.1 g1
  intro n
  induction n with
  | zero =>
    intro j f m sm hj hf
    obtain ⟨f, rfl⟩ : ∃ e, f = e + 1 := ⟨f - 1, by omega⟩
    refine ⟨m, ?_, sm⟩
    have z : (99 : Int32) < nI j := (nI_lt6 (n := 99) (by decide) (by omega)).mpr (by omega)
    show B_X9_practice_56 _ _ _ _ _ _ _ _ = _
    unfold B_X9_practice_56 B_X9_practice_69
    rw [if_pos rfl, if_pos z]
    rfl
  | succ n ih =>
    intro j f m sm hj hf
    obtain ⟨f, rfl⟩ : ∃ e, f = e + 1 := ⟨f - 1, by omega⟩
    have z : ¬ (99 : Int32) < nI j := fun q => by have := (nI_lt6 (n := 99) (by decide) (by omega)).mp q; omega
    have hs : (mi m0 90 (gh m0 b) + nI j).toInt = (mi m0 90 (gh m0 b)).toInt + j := by rw [i_add (by rw [nI_int (by omega)]; omega) (by rw [nI_int (by omega)]; omega), nI_int (by omega)]
    obtain ⟨m1, E1, E2⟩ := takesM K sm ha hb (h := mi m0 88 (gh m0 b)) (n := mi m0 90 (gh m0 b) + nI j) ⟨c.1, by omega⟩ ⟨by omega, by omega⟩
    have e1 : ∀ k, mi m 88 k = mi m0 88 k := fun k => sm.2 _ _ rfl
    have e2 : ∀ k, mi m 90 k = mi m0 90 k := fun k => sm.2 _ _ rfl
    have eX : f_X9_practice_56 (f + 1) lim 0 (nI a) (nI b) (nI (gh m0 b)) (nI j) m = if lim < T a b (mi m0 83 b) (mi m0 88 (gh m0 b)) (mi m0 90 (gh m0 b) + nI j) then f_X9_practice_56 f lim 0 (nI a) (nI b) (nI (gh m0 b)) (nI (j + 1)) m1 else some (nI j, m1) := by
      show B_X9_practice_56 _ _ _ _ _ _ _ _ = _
      unfold B_X9_practice_56 B_X9_practice_69 B_X9_practice_121
      rw [if_pos rfl, if_neg z, if_pos rfl, if_pos (inb_nI g1 (by decide)), ix_nI (by omega), e1, e2, E1, ob2_s, nI_1]
    rw [eX, srch_s]
    by_cases q : lim < T a b (mi m0 83 b) (mi m0 88 (gh m0 b)) (mi m0 90 (gh m0 b) + nI j)
    · rw [if_pos q, if_pos q]
      exact ih (j + 1) f m1 E2 (by omega) (by omega)
    · rw [if_neg q, if_neg q]
      exact ⟨m1, rfl, E2⟩
theorem levelM {x0 : MX} {m0 : MM} {T : Nat → Nat → Int32 → Int32 → Int32 → Int32} (K : TK x0 m0 T) {a b : Nat} (ha : a < 6) (hb : b < 6) (lim : Int32) {w : Int32} (hw : ¬ w = 0) : ∀ (n j fuel : Nat) (m : MM), SameM m0 m → j + n = 10 → n < fuel → ∃ m', f_X9_practice_56 fuel lim w (nI a) (nI b) (nI (gh m0 b)) (nI j) m = some (srch (fun k => T a b (mi m0 83 b) (nI k) (mi m0 90 (gh m0 b))) lim n j, m') ∧ SameM m0 m' := by
  obtain ⟨g1, g2⟩ := gh_lt K.1 hb
  have d := tk_dn K.1 g1
  intro n
  induction n with
  | zero =>
    intro j f m sm hj hf
    obtain ⟨f, rfl⟩ : ∃ e, f = e + 1 := ⟨f - 1, by omega⟩
    refine ⟨m, ?_, sm⟩
    have z : (9 : Int32) < nI j := (nI_lt6 (n := 9) (by decide) (by omega)).mpr (by omega)
    show B_X9_practice_56 _ _ _ _ _ _ _ _ = _
    unfold B_X9_practice_56 B_X9_practice_69
    rw [if_neg hw, if_pos z]
    rfl
  | succ n ih =>
    intro j f m sm hj hf
    obtain ⟨f, rfl⟩ : ∃ e, f = e + 1 := ⟨f - 1, by omega⟩
    have z : ¬ (9 : Int32) < nI j := fun q => by have := (nI_lt6 (n := 9) (by decide) (by omega)).mp q; omega
    obtain ⟨m1, E1, E2⟩ := takesM K sm ha hb (h := nI j) (n := mi m0 90 (gh m0 b)) ⟨by rw [nI_int (by omega)]; omega, by rw [nI_int (by omega)]; omega⟩ ⟨d.1, by omega⟩
    have e2 : ∀ k, mi m 90 k = mi m0 90 k := fun k => sm.2 _ _ rfl
    have eX : f_X9_practice_56 (f + 1) lim w (nI a) (nI b) (nI (gh m0 b)) (nI j) m = if lim < T a b (mi m0 83 b) (nI j) (mi m0 90 (gh m0 b)) then f_X9_practice_56 f lim w (nI a) (nI b) (nI (gh m0 b)) (nI (j + 1)) m1 else some (nI j, m1) := by
      show B_X9_practice_56 _ _ _ _ _ _ _ _ = _
      unfold B_X9_practice_56 B_X9_practice_69 B_X9_practice_121
      rw [if_neg hw, if_neg z, if_neg hw, if_pos (inb_nI g1 (by decide)), ix_nI (by omega), e2, E1, ob2_s, nI_1]
    rw [eX, srch_s]
    by_cases q : lim < T a b (mi m0 83 b) (nI j) (mi m0 90 (gh m0 b))
    · rw [if_pos q, if_pos q]
      exact ih (j + 1) f m1 E2 (by omega) (by omega)
    · rw [if_neg q, if_neg q]
      exact ⟨m1, rfl, E2⟩
theorem cmd_practice {x : MX} {m : MM} (v a w : Int32) (hR : Rel x m) : ∃ r x' m', f_X8_practice v a w x = some (r, x') ∧ f_X9_practice v a w m = some (r, m') ∧ Rel x' m' := by
  obtain ⟨nl, nc, ns, nh, h1, h2, h3⟩ := id hR
  obtain ⟨T, K⟩ := tk_ex hR
  have e1 : (1 : Int32).toInt = 1 := by decide
  have e9 : (999 : Int32).toInt = 999 := by decide
  have e0 : (0 : Int32).toInt = 0 := by decide
  have k0 : f_X9_isIn a 1 999 = decide (1 ≤ a.toInt ∧ a.toInt ≤ 999) := by rw [isIn_eq, e1, e9]
  have la := h1.2.2.1
  have lb := h1.2.2.2.1
  rcases pair_eq h1 v with ⟨p1, p2⟩ | ⟨p1, p2, p, q, hp, hq, ep, eq⟩
  · refine ⟨-1, x, m, ?_, ?_, hR⟩
    · unfold f_X8_practice
      rw [p1]; rfl
    · unfold f_X9_practice
      rw [p2]; rfl
  · unfold f_X8_practice f_X9_practice
    rw [p1, p2, ob_s, ob_s, if_pos rfl, if_pos rfl, k0, partX, ep, eq]
    by_cases c : 1 ≤ a.toInt ∧ a.toInt ≤ 999
    · have c1 : ¬ a < 1 := by rw [i_lt, e1]; omega
      have c2 : ¬ (999 : Int32) < a := by rw [i_lt, e9]; omega
      rw [if_neg c1, if_neg c2, decide_eq_true c, if_pos rfl]
      by_cases d : f_X9_isIn w 0 1 = true
      · rw [if_pos d, if_pos d, if_pos (inb_nI (by omega) (by decide)), ix_nI (by omega)]
        obtain ⟨g1, g2⟩ := gh_lt K.1 (b := q) (by omega)
        rw [g2]
        by_cases w0 : w = 0
        · subst w0
          obtain ⟨x', r1, r2⟩ := timesX K (a := p) (b := q) (by omega) (by omega) a 100 0 LF x (SameX.rf x) (by omega) (by unfold LF; omega)
          obtain ⟨m', t1, t2⟩ := timesM K (a := p) (b := q) (by omega) (by omega) a 100 0 LF m (SameM.rf m) (by omega) (by unfold LF; omega)
          refine ⟨_, x', m', ?_, t1, hR.same r2 t2⟩
          rw [if_pos rfl]
          show ob2 (f_X8_timesMore_3 LF (nI p) (nI q) a (nI 0) x) _ = _
          rw [r1, ob2_s]
        · obtain ⟨x', r1, r2⟩ := levelX K (a := p) (b := q) (by omega) (by omega) a 10 0 LF x (SameX.rf x) (by omega) (by unfold LF; omega)
          obtain ⟨m', t1, t2⟩ := levelM K (a := p) (b := q) (by omega) (by omega) a w0 10 0 LF m (SameM.rf m) (by omega) (by unfold LF; omega)
          refine ⟨_, x', m', ?_, t1, hR.same r2 t2⟩
          rw [if_neg w0]
          have e : xi x 11 q = nI (gh m q) := (tk_xnum K.1 (SameX.rf x) (w := 4) (k := q) (by decide) (show q < 6 by omega)).trans g2
          have e2 : xi x 15 (gh m q) = mi m 90 (gh m q) := tk_xnum K.1 (SameX.rf x) (w := 8) (k := gh m q) (by decide) g1
          have e3 : (SA 0).getD 6 0 = nI 0 := by decide
          unfold f_X8_leastSkill
          rw [if_pos (inb_nI (by omega) (by decide)), ix_nI (by omega), e, if_pos (inb_nI (by omega) (by decide)), ix_nI (by omega), e2, letx_s, e3, r1, ob2_s]
      · rw [if_neg d, if_neg d]
        exact ⟨-1, x, m, rfl, rfl, hR⟩
    · refine ⟨-1, x, m, ?_, ?_, hR⟩
      · by_cases c1 : a < 1
        · rw [if_pos c1]
        · rw [if_neg c1, if_pos]
          rw [i_lt, e1] at c1
          rw [i_lt, e9]
          omega
      · rw [decide_eq_false c]; rfl
