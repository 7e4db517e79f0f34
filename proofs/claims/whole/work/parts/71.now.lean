theorem hand_eq {x : MX} {m : MM} (hR : Rel x m) {a b g : Nat} (ha : a < 6) (hb : b < 6) (hg : g < 2) {r : Int32} (hr : 0 ≤ r.toInt ∧ r.toInt ≤ 900) : ∃ (t : Int32) (x1 : MX) (m1 : MM), f_X8_takesByHand (nI a) (nI b) (nI g) r x = some (t, x1) ∧ f_X9_takesSo (nI a) (nI b) (mi m 88 g) (mi m 90 g + r) (mi m 83 b) m = some (t, m1) ∧ SameX x x1 ∧ SameM m m1 ∧ 1 ≤ t.toInt ∧ t.toInt ≤ 999 := by
  obtain ⟨nl, nc, ns, nh, h1, h2, h3⟩ := id hR
  obtain ⟨a1, a2, a3⟩ := h2.1 6 g (by decide) hg
  obtain ⟨b1, b2, b3⟩ := h2.1 8 g (by decide) hg
  obtain ⟨c1, c2, c3⟩ := h2.1 2 b (by decide) hb
  have a1' : xi x 13 g = mi m 88 g := a1
  have b1' : xi x 15 g = mi m 90 g := b1
  have c1' : xi x 9 b = mi m 83 b := c1
  have a3' : (mi m 88 g).toInt ≤ 9 := a3
  have b3' : (mi m 90 g).toInt ≤ 99 := b3
  have c3' : (mi m 83 b).toInt ≤ 9 := c3
  have b2' : 0 ≤ (mi m 90 g).toInt := b2
  have c2' : 0 ≤ (mi m 83 b).toInt := c2
  have hs : (mi m 90 g + r).toInt = (mi m 90 g).toInt + r.toInt := i_add (by omega) (by omega)
  obtain ⟨t, x1, m1, E1, E2, E3⟩ := takes_eq hR h1 ha hb (s := mi m 83 b) (h := mi m 88 g) (n := mi m 90 g + r) ⟨a2, by omega⟩ ⟨c2', by omega⟩ ⟨by omega, by omega⟩
  refine ⟨t, x1, m1, ?_, E2, E3⟩
  unfold f_X8_takesByHand
  rw [if_pos (inb_nI (by omega) (by decide)), if_pos (inb_nI (by omega) (by decide)), ix_nI (by omega), ix_nI (by omega), a1', b1', c1', E1, ob2_s]
theorem now_eq {x : MX} {m : MM} (hR : Rel x m) {a b : Nat} (ha : a < 6) (hb : b < 6) : ∃ (t : Int32) (x1 : MX) (m1 : MM), f_X8_takesNow (nI a) (nI b) x = some (t, x1) ∧ f_X9_takesNow (nI a) (nI b) m = some (t, m1) ∧ SameX x x1 ∧ SameM m m1 ∧ 1 ≤ t.toInt ∧ t.toInt ≤ 999 := by
  obtain ⟨nl, nc, ns, nh, h1, h2, h3⟩ := id hR
  obtain ⟨a1, a2, a3⟩ := h2.1 4 b (by decide) hb
  have a1' : xi x 11 b = mi m 85 b := a1
  have a3' : (mi m 85 b).toInt ≤ 1 := a3
  obtain ⟨g, hg, eg⟩ := nI_ex (a := mi m 85 b) (n := 2) a2 (by omega)
  obtain ⟨t, x1, m1, E1, E2, E3⟩ := hand_eq hR ha hb hg (r := 0) ⟨by decide, by decide⟩
  rw [Int32.add_zero] at E2
  refine ⟨t, x1, m1, ?_, ?_, E3⟩
  · unfold f_X8_takesNow
    rw [if_pos (inb_nI (by omega) (by decide)), ix_nI (by omega), a1', eg, E1, ob2_s]
  · unfold f_X9_takesNow f_X9_takes
    rw [if_pos (inb_nI (by omega) (by decide)), ix_nI (by omega), eg, if_pos (inb_nI hg (by decide)), ix_nI (by omega), if_pos (inb_nI (by omega) (by decide)), E2, ob2_s, ob2_s]
theorem one_max (v : Int32) : imax 1 v = if 1 ≤ v then v else 1 := by
  have e1 : (1 : Int32).toInt = 1 := by decide
  unfold imax
  simp only [i_lt, i_le, e1]
  repeat' split
  all_goals first | rfl | (rw [i_eq]; omega) | omega
theorem before_eq {x : MX} {m : MM} (hR : Rel x m) {a b : Nat} (ha : a < 6) (hb : b < 6) : ∃ (t : Int32) (x1 : MX) (m1 : MM), f_X8_takesBefore (nI a) (nI b) x = some (t, x1) ∧ f_X9_ahead (nI a) (nI b) m = some (t, m1) ∧ SameX x x1 ∧ SameM m m1 := by
  obtain ⟨nl, nc, ns, nh, h1, h2, h3⟩ := id hR
  have p0 : xi x 13 0 = mi m 88 0 := (h2.1 6 0 (by decide) (by decide)).1
  have p1 : xi x 13 1 = mi m 88 1 := (h2.1 6 1 (by decide) (by decide)).1
  have key : ∀ g, g < 2 → ∃ (t : Int32) (x1 : MX) (m1 : MM), B_X8_takesBefore_26 (nI a) (nI b) (nI g) x = some (t, x1) ∧ B_X9_ahead_20 (nI a) (nI b) (nI g) m = some (t, m1) ∧ SameX x x1 ∧ SameM m m1 := by
    intro g hg
    obtain ⟨t, x1, m1, E1, E2, E3, E4, _⟩ := hand_eq hR ha hb hg (r := 0) ⟨by decide, by decide⟩
    rw [Int32.add_zero] at E2
    refine ⟨imax 1 (t / 2), x1, m1, ?_, ?_, E3, E4⟩
    · unfold B_X8_takesBefore_26
      rw [E1, ob2_s]
    · unfold B_X9_ahead_20 f_X9_takes
      rw [if_pos (inb_nI hg (by decide)), if_pos (inb_nI (by omega) (by decide)), ix_nI (by omega), ix_nI (by omega), E2, ob2_s, ob2_s, one_max]
      split <;> rfl
  unfold f_X8_takesBefore f_X9_ahead
  rw [p0, p1]
  by_cases c : mi m 88 1 ≤ mi m 88 0
  · rw [if_pos c, if_pos c]
    exact key 0 (by decide)
  · rw [if_neg c, if_neg c]
    exact key 1 (by decide)
