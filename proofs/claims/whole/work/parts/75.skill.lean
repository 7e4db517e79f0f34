theorem skill_eq {x : MX} {m : MM} (hR : Rel x m) {a b : Nat} (ha : a < 6) (hb : b < 6) {h n : Int32} (hh : 0 ≤ h.toInt ∧ h.toInt ≤ 10) (hn : 0 ≤ n.toInt ∧ n.toInt ≤ 1000) : ∃ (t : Int32) (x1 : MX) (m1 : MM), f_X8_takesBySkill (nI a) (nI b) h n x = some (t, x1) ∧ f_X9_takes (nI a) (nI b) h n m = some (t, m1) ∧ SameX x x1 ∧ SameM m m1 ∧ 1 ≤ t.toInt ∧ t.toInt ≤ 999 := by
  obtain ⟨nl, nc, ns, nh, h1, h2, h3⟩ := id hR
  obtain ⟨c1, c2, c3⟩ := h2.1 2 b (by decide) hb
  have c1' : xi x 9 b = mi m 83 b := c1
  have c2' : 0 ≤ (mi m 83 b).toInt := c2
  have c3' : (mi m 83 b).toInt ≤ 9 := c3
  obtain ⟨t, x1, m1, E1, E2, E3⟩ := takes_eq hR h1 ha hb (s := mi m 83 b) hh ⟨c2', by omega⟩ hn
  refine ⟨t, x1, m1, ?_, ?_, E3⟩
  · unfold f_X8_takesBySkill
    rw [if_pos (inb_nI (by omega) (by decide)), ix_nI (by omega), c1', E1, ob2_s]
  · unfold f_X9_takes
    rw [if_pos (inb_nI hb (by decide)), ix_nI (by omega), E2, ob2_s]
