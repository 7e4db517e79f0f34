theorem Rel.cnt {x : MX} {m : MM} (h : Rel x m) : ∃ nl nc ns nh : Nat, RCnt nl nc ns x m ∧ RNum nl nc ns x m ∧ RIn nc x m ∧ RLed x m ∧ RKept nc x m ∧ RHist nl nc ns x m ∧ RTape x m ∧ RLaw x m ∧ RHole nh x m ∧ RShelf nh x m := h
theorem lawB_of {h : Nat} (e : isLaw h) : isLawB h = true := by
  rcases e with rfl | rfl <;> rfl
theorem cmd_count {x : MX} {m : MM} (a : Int32) (h : Rel x m) : ∃ r, f_X8_count a x = some r ∧ f_X9_count a m = r := by
  obtain ⟨nl, nc, ns, nh, h1, h2, h3, h4, h5, h6, h7, h8, h9, h10⟩ := h
  obtain ⟨⟨a1, a2, a3⟩, ⟨b1, b2, b3⟩, l1, l2, l3⟩ := h1
  obtain ⟨t1, t2, t3, t0, sz, t4, t5, t6, t7⟩ := h7
  obtain ⟨md, al, g1, g2, g3, g4, g5, g6, g7⟩ := h6
  obtain ⟨u1, u2, u3, u4, u5, u6⟩ := h9
  refine ⟨f_X9_count a m, ?_, rfl⟩
  unfold f_X8_count f_X9_count
  rw [if_pos (lawB_of t2), a1, a2, a3, b1, b2, b3, t5, t6, g3, g5, u2, u3, u5]
  repeat' split
  all_goals rfl
theorem cmd_led {x : MX} {m : MM} (a : Int32) (h : Rel x m) : ∃ r, f_X8_led a x = some r ∧ f_X9_led a m = r := by
  obtain ⟨nl, nc, ns, nh, h1, h2, h3, h4, h5, h6, h7, h8, h9, h10⟩ := h
  obtain ⟨v0, v1, v2, v3⟩ := h4
  refine ⟨f_X9_led a m, ?_, rfl⟩
  unfold f_X8_led f_X9_led
  by_cases c : 0 ≤ a.toInt ∧ a.toInt < (4 : Nat)
  · obtain ⟨k, hk, rfl⟩ := nI_ex c.1 c.2
    have z3 : nI k ≤ 3 := (nI_lec (n := k) (c := 3) (by omega) (by decide)).mpr (by omega)
    rw [if_neg (nI_pos (by omega)), if_pos z3, if_pos (inb_nI hk (by decide)), ix_nI (by omega)]
    match k, hk with
    | 0, _ => rw [v0]; rfl
    | 1, _ => rw [v1]; rfl
    | 2, _ => rw [v2]; rfl
    | 3, _ => rw [v3]; rfl
  · have n0 : ¬ a = 0 := fun e => c (by rw [e]; decide)
    have n1 : ¬ a = 1 := fun e => c (by rw [e]; decide)
    have n2 : ¬ a = 2 := fun e => c (by rw [e]; decide)
    have n3 : ¬ a = 3 := fun e => c (by rw [e]; decide)
    rw [if_neg n0, if_neg n1, if_neg n2, if_neg n3]
    split
    · rfl
    · rename_i z
      split
      · rename_i z2
        rw [i_lt] at z
        rw [i_le] at z2
        exact absurd ⟨by simpa using z, by simp at z2; omega⟩ c
      · rfl
theorem cmd_trace {x : MX} {m : MM} (a : Int32) (h : Rel x m) : ∃ r, f_X8_trace a x = some r ∧ f_X9_trace a m = some r := by
  obtain ⟨nl, nc, ns, nh, h1, h2, h3, h4, h5, h6, h7, h8, h9, h10⟩ := h
  obtain ⟨u1, u2, u3, u4, u5, u6⟩ := h9
  unfold f_X8_trace f_X9_trace
  rw [u5]
  by_cases c0 : a < 0
  · rw [if_pos c0, if_pos c0]; exact ⟨_, rfl, rfl⟩
  · rw [if_neg c0, if_neg c0]
    have c1 : 0 ≤ a.toInt := by rw [i_lt] at c0; simpa using c0
    by_cases c2 : a.toInt < (24 : Nat)
    · obtain ⟨k, hk, rfl⟩ := nI_ex c1 c2
      have d1 : nI k < 24 := (nI_lt6 (c := 24) (by omega) (by decide)).mpr hk
      have d2 : ¬ (24 : Int32) ≤ nI k := fun q => by have := (nI_lec (n := 24) (c := k) (by decide) (by omega)).mp q; omega
      rw [if_pos d1, if_neg d2]
      by_cases c3 : mi m 80 7 ≤ nI k
      · rw [if_pos c3, if_pos c3]; exact ⟨_, rfl, rfl⟩
      · rw [if_neg c3, if_neg c3, if_pos (inb_nI hk (by decide)), if_pos (inb_nI hk (by decide)), ix_nI (by omega)]
        rw [i_le, nI_int (by omega)] at c3
        exact ⟨_, rfl, by rw [u6 k hk (by omega)]⟩
    · have d1 : ¬ a < 24 := fun q => by rw [i_lt] at q; exact c2 (by simpa using q)
      have d2 : (24 : Int32) ≤ a := by rw [i_le]; simp; omega
      rw [if_neg d1, if_pos d2]
      by_cases c3 : mi m 80 7 ≤ a
      · rw [if_pos c3]; exact ⟨_, rfl, rfl⟩
      · rw [if_neg c3]; exact ⟨_, rfl, rfl⟩
