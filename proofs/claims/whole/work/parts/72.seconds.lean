theorem goes_eq {x : MX} {m : MM} (hR : Rel x m) {a b : Nat} (ha : a < 6) (hb : b < 6) : ∃ r, f_X8_goesThrough (nI a) (nI b) x = some r ∧ f_X9_goes (nI a) (nI b) m = some r := by
  obtain ⟨nl, nc, ns, nh, h1, h2, h3⟩ := id hR
  obtain ⟨a1, a2, a3⟩ := h2.1 4 b (by decide) hb
  have a1' : xi x 11 b = mi m 85 b := a1
  have a3' : (mi m 85 b).toInt ≤ 1 := a3
  obtain ⟨g, hg, eg⟩ := nI_ex (a := mi m 85 b) (n := 2) a2 (by omega)
  have e1 : (1 : Int32) - nI g = nI (1 - g) := by
    match g, hg with
    | 0, _ | 1, _ => rfl
  have p1 : xi x 12 b = mi m 86 b := (h2.1 5 b (by decide) hb).1
  have p2 : xi x 8 a = mi m 82 a := (h2.1 1 a (by decide) ha).1
  have p3 : xi x 14 (1 - g) = mi m 89 (1 - g) := (h2.1 7 (1 - g) (by decide) (show 1 - g < 2 by omega)).1
  by_cases c : mi m 86 b + 2 * mi m 82 a < mi m 89 (1 - g)
  · refine ⟨false, ?_, ?_⟩
    · unfold f_X8_goesThrough
      rw [if_pos (inb_nI (by omega) (by decide)), ix_nI (by omega), a1', eg, e1, if_pos (inb_nI (by omega) (by decide)), if_pos (inb_nI (by omega) (by decide)), ix_nI (by omega), ix_nI (by omega), p1, p2, p3, if_pos c]
    · unfold f_X9_goes
      rw [if_pos (inb_nI hb (by decide)), ix_nI (by omega), eg, e1, if_pos (inb_nI (by omega) (by decide)), if_pos (inb_nI ha (by decide)), ix_nI (by omega), ix_nI (by omega), if_pos c]
  · refine ⟨true, ?_, ?_⟩
    · unfold f_X8_goesThrough
      rw [if_pos (inb_nI (by omega) (by decide)), ix_nI (by omega), a1', eg, e1, if_pos (inb_nI (by omega) (by decide)), if_pos (inb_nI (by omega) (by decide)), ix_nI (by omega), ix_nI (by omega), p1, p2, p3, if_neg c]
    · unfold f_X9_goes
      rw [if_pos (inb_nI hb (by decide)), ix_nI (by omega), eg, e1, if_pos (inb_nI (by omega) (by decide)), if_pos (inb_nI ha (by decide)), ix_nI (by omega), ix_nI (by omega), if_neg c]
