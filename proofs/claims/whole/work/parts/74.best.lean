theorem best_loop {x0 : MX} {m0 : MM} (hR : Rel x0 m0) {nl nc ns : Nat} (h1 : RCnt nl nc ns x0 m0) {b : Nat} (hb : b < 6) : ∀ (n j f g : Nat) (v2 v3 : Int32) (x : MX) (m : MM), SameX x0 x → SameM m0 m → j + n = nl → n < f → n < g → ((v2 = -2 ∧ v3 = 1000) ∨ ∃ p, p < nl ∧ v2 = nI p ∧ ∃ y, f_X8_takesNow (nI p) (nI b) x0 = some (v3, y)) → ∃ r x' m', f_X8_best_20 f (nI b) v2 v3 (nI j) x = some (r, x') ∧ f_X9_best_15 g (nI b) v2 (nI j) m = some (r, m') ∧ SameX x0 x' ∧ SameM m0 m' := by
  have hl := h1.2.2.1
  intro n
  induction n with
  | zero =>
    intro j f g v2 v3 x m sx sm hj hf hg hv
    obtain ⟨f, rfl⟩ : ∃ e, f = e + 1 := ⟨f - 1, by omega⟩
    obtain ⟨g, rfl⟩ : ∃ e, g = e + 1 := ⟨g - 1, by omega⟩
    have e1 : xi x 5 12 = nI nl := (sx.2.2 _ _ rfl).trans h1.1.1
    have e2 : mi m 80 0 = nI nl := (sm.2 _ _ rfl).trans h1.2.1.1
    have z : nI nl ≤ nI j := (nI_lec (by omega) (by omega)).mpr (by omega)
    refine ⟨v2, x, m, ?_, ?_, sx, sm⟩
    · show B_X8_best_20 _ _ _ _ _ _ = _
      unfold B_X8_best_20
      rw [e1, if_pos z]
    · show B_X9_best_15 _ _ _ _ _ = _
      unfold B_X9_best_15
      rw [e2, if_pos z]
  | succ n ih =>
    intro j f g v2 v3 x m sx sm hj hf hg hv
    obtain ⟨f, rfl⟩ : ∃ e, f = e + 1 := ⟨f - 1, by omega⟩
    obtain ⟨g, rfl⟩ : ∃ e, g = e + 1 := ⟨g - 1, by omega⟩
    have e1 : xi x 5 12 = nI nl := (sx.2.2 _ _ rfl).trans h1.1.1
    have e2 : mi m 80 0 = nI nl := (sm.2 _ _ rfl).trans h1.2.1.1
    have z : ¬ nI nl ≤ nI j := fun q => by have := (nI_lec (by omega) (by omega)).mp q; omega
    have R0 : Rel x0 m := hR.same (SameX.rf x0) sm
    have R1 : Rel x m := hR.same sx sm
    obtain ⟨t, x1, m1, E1, E2, E3, E4, E5, E6⟩ := now_eq R1 (a := j) (b := b) (by omega) hb
    obtain ⟨t', y0, m1', F1, F2, _⟩ := now_eq R0 (a := j) (b := b) (by omega) hb
    have et : t' = t := by
      have e : some (t', m1') = some (t, m1) := F2.symm.trans E2
      injection e with e; injection e
    subst et
    have eX : f_X8_best_20 (f + 1) (nI b) v2 v3 (nI j) x = if v3 ≤ t' then f_X8_best_20 f (nI b) v2 v3 (nI (j + 1)) x1 else f_X8_best_20 f (nI b) (nI j) t' (nI (j + 1)) x1 := by
      show B_X8_best_20 _ _ _ _ _ _ = _
      unfold B_X8_best_20 B_X8_best_50
      rw [e1, if_neg z, E1, ob2_s, nI_1]
    rw [eX]
    rcases hv with ⟨rfl, rfl⟩ | ⟨p, hp, rfl, y, hy⟩
    · have q : ¬ (1000 : Int32) ≤ t' := by
        rw [i_le, show (1000 : Int32).toInt = 1000 by decide]; omega
      rw [if_neg q]
      obtain ⟨r, x', m', r1, r2, r3, r4⟩ := ih (j + 1) f g (nI j) t' x1 m (sx.tr E3) sm (by omega) (by omega) (by omega) (Or.inr ⟨j, by omega, rfl, y0, F1⟩)
      refine ⟨r, x', m', r1, ?_, r3, r4⟩
      show B_X9_best_15 _ _ _ _ _ = _
      unfold B_X9_best_15 B_X9_best_44 B_X9_best_46
      rw [e2, if_neg z, if_pos rfl, nI_1]
      exact r2
    · have R2 : Rel x0 m1 := hR.same (SameX.rf x0) (sm.tr E4)
      obtain ⟨u, y1, m2, G1, G2, G3, G4, _⟩ := now_eq R2 (a := p) (b := b) (by omega) hb
      have eu : u = v3 := by
        have e : some (u, y1) = some (v3, y) := G1.symm.trans hy
        injection e with e; injection e
      subst eu
      have z2 : ¬ nI p = -2 := nI_neg (by omega) (by decide)
      have eM : f_X9_best_15 (g + 1) (nI b) (nI p) (nI j) m = if u ≤ t' then f_X9_best_15 g (nI b) (nI p) (nI (j + 1)) m2 else f_X9_best_15 g (nI b) (nI j) (nI (j + 1)) m2 := by
        show B_X9_best_15 _ _ _ _ _ = _
        unfold B_X9_best_15 B_X9_best_44 B_X9_best_46
        rw [e2, if_neg z, if_neg z2, E2, ob2_s, G2, ob2_s, nI_1]
      rw [eM]
      by_cases q : u ≤ t'
      · rw [if_pos q, if_pos q]
        exact ih (j + 1) f g (nI p) u x1 m2 (sx.tr E3) ((sm.tr E4).tr G4) (by omega) (by omega) (by omega) (Or.inr ⟨p, hp, rfl, y, hy⟩)
      · rw [if_neg q, if_neg q]
        exact ih (j + 1) f g (nI j) t' x1 m2 (sx.tr E3) ((sm.tr E4).tr G4) (by omega) (by omega) (by omega) (Or.inr ⟨j, by omega, rfl, y0, F1⟩)
theorem cmd_best {x : MX} {m : MM} (a : Int32) (hR : Rel x m) : ∃ r x' m', f_X8_best a x = some (r, x') ∧ f_X9_best a m = some (r, m') ∧ Rel x' m' := by
  obtain ⟨nl, nc, ns, nh, h1, h2, h3⟩ := id hR
  have hl := h1.2.2.1
  have hc := h1.2.2.2.1
  by_cases d : 0 ≤ a.toInt ∧ a.toInt < nc
  · obtain ⟨k, hk, rfl⟩ := nI_ex d.1 d.2
    obtain ⟨r, x', m', r1, r2, r3, r4⟩ := best_loop hR h1 (b := k) (by omega) nl 0 LF LF (-2) 1000 x m (SameX.rf x) (SameM.rf m) (by omega) (by unfold LF; omega) (by unfold LF; omega) (Or.inl ⟨rfl, rfl⟩)
    refine ⟨r, x', m', ?_, ?_, hR.same r3 r4⟩
    · unfold f_X8_best
      rw [cuffX h1, decide_eq_true d, if_pos rfl]
      exact r1
    · unfold f_X9_best
      rw [cuffM h1, decide_eq_true d, if_pos rfl]
      exact r2
  · refine ⟨-1, x, m, ?_, ?_, hR⟩
    · unfold f_X8_best
      rw [cuffX h1, decide_eq_false d]; rfl
    · unfold f_X9_best
      rw [cuffM h1, decide_eq_false d]; rfl
