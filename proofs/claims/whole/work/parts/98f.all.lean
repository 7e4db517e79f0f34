theorem e_nJ (j k : Nat) : nI j + nI k = nI (j + k) := nA_add j k
theorem step_law {Ns : Nat} {Xs : Nat → Int32} {K : Int32 → MX → MM → Option Bool} {j : Nat} (hj : j + 6 ≤ Ns) (hN : Ns ≤ 3072) {x : MX} {m : MM} (hR : Rel x m) (hK : ∀ x' m', Rel x' m' → K (nI j + 6) x' m' = some true) : B_L_law_18 Ns Xs K (nI j) x m = some true := by
  have e6 : (6 : Int32).toInt = 6 := by decide
  have z : ¬ (Int32.ofNat Ns) - 6 < nI j := by
    have a : (Int32.ofNat Ns - 6).toInt = (Ns : Int) - 6 := by
      have b : (Int32.ofNat Ns).toInt = (Ns : Int) := nI_int (by omega)
      rw [i_sub (by rw [b, e6]; omega) (by rw [b, e6]; omega), b, e6]
    rw [i_lt, a, nI_int (by omega)]
    omega
  have i0 : inb (nI j) Ns = true := inb_nI (by omega) (by omega)
  have i1 : inb (nI j + 1) Ns = true := by rw [show nI j + 1 = nI (j + 1) from nA_add j 1]; exact inb_nI (by omega) (by omega)
  have i2 : inb (nI j + 2) Ns = true := by rw [show nI j + 2 = nI (j + 2) from nA_add j 2]; exact inb_nI (by omega) (by omega)
  have i3 : inb (nI j + 3) Ns = true := by rw [show nI j + 3 = nI (j + 3) from nA_add j 3]; exact inb_nI (by omega) (by omega)
  have i4 : inb (nI j + 4) Ns = true := by rw [show nI j + 4 = nI (j + 4) from nA_add j 4]; exact inb_nI (by omega) (by omega)
  have i5 : inb (nI j + 5) Ns = true := by rw [show nI j + 5 = nI (j + 5) from nA_add j 5]; exact inb_nI (by omega) (by omega)
  unfold B_L_law_18
  rw [if_neg z, if_pos i0]
  generalize Xs (ix (nI j)) &&& 63 = op
  generalize Xs (ix (nI j + 1)) = y1
  generalize Xs (ix (nI j + 2)) = y2
  generalize Xs (ix (nI j + 3)) = y3
  generalize Xs (ix (nI j + 4)) = y4
  generalize Xs (ix (nI j + 5)) = y5
  by_cases h : op = 0
  · obtain ⟨r, x', m', E1, E2, E3⟩ := cmd_link y1 y2 hR
    rw [if_pos h, if_pos i1, if_pos i2, E1, ob2_s, E2, ob2_s, if_pos (rfl)]
    exact hK x' m' E3
  rw [if_neg h]
  clear h
  by_cases h : op = 1
  · obtain ⟨r, x', m', E1, E2, E3⟩ := cmd_cuff y1 y2 hR
    rw [if_pos h, if_pos i1, if_pos i2, E1, ob2_s, E2, ob2_s, if_pos (rfl)]
    exact hK x' m' E3
  rw [if_neg h]
  clear h
  by_cases h : op = 2
  · obtain ⟨r, x', m', E1, E2, E3⟩ := cmd_cuffs y1 y2 y3 hR
    rw [if_pos h, if_pos i1, if_pos i2, if_pos i3, E1, ob2_s, E2, ob2_s, if_pos (rfl)]
    exact hK x' m' E3
  rw [if_neg h]
  clear h
  by_cases h : op = 3
  · obtain ⟨r, x', m', E1, E2, E3⟩ := cmd_spot y1 y2 hR
    rw [if_pos h, if_pos i1, if_pos i2, E1, ob2_s, E2, ob2_s, if_pos (rfl)]
    exact hK x' m' E3
  rw [if_neg h]
  clear h
  by_cases h : op = 4
  · obtain ⟨r, x', m', E1, E2, E3⟩ := cmd_mend y1 y2 y3 hR
    rw [if_pos h, if_pos i1, if_pos i2, if_pos i3, E1, ob2_s, E2, ob2_s, if_pos (rfl)]
    exact hK x' m' E3
  rw [if_neg h]
  clear h
  by_cases h : op = 5
  · obtain ⟨r, E1, E2⟩ := cmd_of y1 y2 hR
    rw [if_pos h, if_pos i1, if_pos i2, E1, ob_s, E2, ob_s, if_pos (rfl)]
    exact hK x m hR
  rw [if_neg h]
  clear h
  by_cases h : op = 6
  · obtain ⟨r, x', m', E1, E2, E3⟩ := cmd_feed y1 hR
    rw [if_pos h, if_pos i1, E1, ob2_s, E2, ob2_s, if_pos (rfl)]
    exact hK x' m' E3
  rw [if_neg h]
  clear h
  by_cases h : op = 7
  · obtain ⟨r, x', m', E1, E2, E3⟩ := cmd_law hR
    rw [if_pos h, E1, ob2_s, E2, ob2_s, if_pos (rfl)]
    exact hK x' m' E3
  rw [if_neg h]
  clear h
  by_cases h : op = 8
  · obtain ⟨r, x', m', E1, E2, E3⟩ := cmd_seconds y1 y2 hR
    rw [if_pos h, if_pos i1, if_pos i2, E1, ob2_s, E2, ob2_s, if_pos (rfl)]
    exact hK x' m' E3
  rw [if_neg h]
  clear h
  by_cases h : op = 9
  · obtain ⟨r, x', m', E1, E2, E3⟩ := cmd_best y1 hR
    rw [if_pos h, if_pos i1, E1, ob2_s, E2, ob2_s, if_pos (rfl)]
    exact hK x' m' E3
  rw [if_neg h]
  clear h
  by_cases h : op = 10
  · obtain ⟨r, x', m', E1, E2, E3⟩ := cmd_paired y1 y2 hR
    rw [if_pos h, if_pos i1, if_pos i2, E1, ob2_s, E2, ob2_s, if_pos (rfl)]
    exact hK x' m' E3
  rw [if_neg h]
  clear h
  by_cases h : op = 11
  · obtain ⟨r, x', m', E1, E2, E3⟩ := cmd_order y1 hR
    rw [if_pos h, if_pos i1, E1, ob2_s, E2, ob2_s, if_pos (rfl)]
    exact hK x' m' E3
  rw [if_neg h]
  clear h
  by_cases h : op = 12
  · obtain ⟨r, x', m', E1, E2, E3⟩ := cmd_dropped y1 y2 hR
    rw [if_pos h, if_pos i1, if_pos i2, E1, ob2_s, E2, ob2_s, if_pos ((cmpE _ _).mpr rfl)]
    exact hK x' m' E3
  rw [if_neg h]
  clear h
  by_cases h : op = 13
  · obtain ⟨r, x', m', E1, E2, E3⟩ := cmd_by y1 y2 y3 hR
    rw [if_pos h, if_pos i1, if_pos i2, if_pos i3, E1, ob2_s, E2, ob2_s, if_pos ((cmpE _ _).mpr rfl)]
    exact hK x' m' E3
  rw [if_neg h]
  clear h
  by_cases h : op = 14
  · obtain ⟨r, x', m', E1, E2, E3⟩ := cmd_practice y1 y2 y3 hR
    rw [if_pos h, if_pos i1, if_pos i2, if_pos i3, E1, ob2_s, E2, ob2_s, if_pos (rfl)]
    exact hK x' m' E3
  rw [if_neg h]
  clear h
  by_cases h : op = 15
  · obtain ⟨r, x', E1, E2, E3⟩ := cmd_search y1 hR
    rw [if_pos h, if_pos i1, E1, ob2_s, E2, ob_s, if_pos ((cmpE _ _).mpr rfl)]
    exact hK x' m E3
  rw [if_neg h]
  clear h
  by_cases h : op = 16
  · obtain ⟨r, x', E1, E2, E3⟩ := cmd_told y1 y2 hR
    rw [if_pos h, if_pos i1, if_pos i2, E1, ob2_s, E2, ob_s, if_pos ((cmpE _ _).mpr rfl)]
    exact hK x' m E3
  rw [if_neg h]
  clear h
  by_cases h : op = 17
  · obtain ⟨r, x', m', E1, E2, E3⟩ := cmd_asked y1 y2 y3 hR
    rw [if_pos h, if_pos i1, if_pos i2, if_pos i3, E1, ob2_s, E2, ob2_s, if_pos (rfl)]
    exact hK x' m' E3
  rw [if_neg h]
  clear h
  by_cases h : op = 18
  · obtain ⟨r, x', m', E1, E2, E3⟩ := cmd_two y1 y2 y3 hR
    rw [if_pos h, if_pos i1, if_pos i2, if_pos i3, E1, ob2_s, E2, ob2_s, if_pos (rfl)]
    exact hK x' m' E3
  rw [if_neg h]
  clear h
  by_cases h : op = 19
  · obtain ⟨r, x', m', E1, E2, E3⟩ := cmd_judge y1 y2 hR
    rw [if_pos h, if_pos i1, if_pos i2, E1, ob2_s, E2, ob2_s, if_pos (rfl)]
    exact hK x' m' E3
  rw [if_neg h]
  clear h
  by_cases h : op = 20
  · obtain ⟨r, x', m', E1, E2, E3⟩ := cmd_which y1 y2 hR
    rw [if_pos h, if_pos i1, if_pos i2, E1, ob2_s, E2, ob2_s, if_pos (rfl)]
    exact hK x' m' E3
  rw [if_neg h]
  clear h
  by_cases h : op = 21
  · obtain ⟨r, x', m', E1, E2, E3⟩ := cmd_how y1 y2 y3 hR
    rw [if_pos h, if_pos i1, if_pos i2, if_pos i3, E1, ob2_s, E2, ob2_s, if_pos (rfl)]
    exact hK x' m' E3
  rw [if_neg h]
  clear h
  by_cases h : op = 22
  · obtain ⟨r, x', m', E1, E2, E3⟩ := cmd_drawn y1 y2 y3 y4 hR
    rw [if_pos h, if_pos i1, if_pos i2, if_pos i3, if_pos i4, E1, ob2_s, E2, ob2_s, if_pos (rfl)]
    exact hK x' m' E3
  rw [if_neg h]
  clear h
  by_cases h : op = 23
  · obtain ⟨r, x', m', E1, E2, E3⟩ := cmd_puts y1 hR
    rw [if_pos h, if_pos i1, E1, ob2_s, E2, ob2_s, if_pos (rfl)]
    exact hK x' m' E3
  rw [if_neg h]
  clear h
  by_cases h : op = 24
  · obtain ⟨r, x', m', E1, E2, E3⟩ := cmd_out y1 hR
    rw [if_pos h, if_pos i1, E1, ob2_s, E2, ob2_s, if_pos (rfl)]
    exact hK x' m' E3
  rw [if_neg h]
  clear h
  by_cases h : op = 25
  · obtain ⟨r, x', m', E1, E2, E3⟩ := cmd_night hR
    rw [if_pos h, E1, ob2_s, E2, ob2_s, if_pos (rfl)]
    exact hK x' m' E3
  rw [if_neg h]
  clear h
  by_cases h : op = 26
  · obtain ⟨r, E1, E2⟩ := cmd_led y1 hR
    rw [if_pos h, if_pos i1, E1, ob_s, E2, if_pos (rfl)]
    exact hK x m hR
  rw [if_neg h]
  clear h
  by_cases h : op = 27
  · obtain ⟨r, x', m', E1, E2, E3⟩ := cmd_image hR
    rw [if_pos h, E1, ob2_s, E2, ob2_s, if_pos (rfl)]
    exact hK x' m' E3
  rw [if_neg h]
  clear h
  by_cases h : op = 28
  · obtain ⟨r, x', m', E1, E2, E3⟩ := cmd_back hR
    rw [if_pos h, E1, ob2_s, E2, ob2_s, if_pos (rfl)]
    exact hK x' m' E3
  rw [if_neg h]
  clear h
  by_cases h : op = 29
  · obtain ⟨r, x', m', E1, E2, E3⟩ := cmd_undo hR
    rw [if_pos h, E1, ob2_s, E2, ob2_s, if_pos (rfl)]
    exact hK x' m' E3
  rw [if_neg h]
  clear h
  by_cases h : op = 30
  · obtain ⟨r, x', m', E1, E2, E3⟩ := cmd_redo hR
    rw [if_pos h, E1, ob2_s, E2, ob2_s, if_pos (rfl)]
    exact hK x' m' E3
  rw [if_neg h]
  clear h
  by_cases h : op = 31
  · obtain ⟨r, x', m', E1, E2, E3⟩ := cmd_body y1 hR
    rw [if_pos h, if_pos i1, E1, ob2_s, E2, ob2_s, if_pos (rfl)]
    exact hK x' m' E3
  rw [if_neg h]
  clear h
  by_cases h : op = 32
  · obtain ⟨r, x', m', E1, E2, E3⟩ := cmd_act y1 y2 y3 hR
    rw [if_pos h, if_pos i1, if_pos i2, if_pos i3, E1, ob2_s, E2, ob2_s, if_pos (rfl)]
    exact hK x' m' E3
  rw [if_neg h]
  clear h
  by_cases h : op = 33
  · obtain ⟨r, E1, E2⟩ := cmd_trace y1 hR
    rw [if_pos h, if_pos i1, E1, ob_s, E2, ob_s, if_pos (rfl)]
    exact hK x m hR
  rw [if_neg h]
  clear h
  by_cases h : op = 34
  · obtain ⟨r, x', m', E1, E2, E3⟩ := cmd_keep y1 y2 hR
    rw [if_pos h, if_pos i1, if_pos i2, E1, ob2_s, E2, ob2_s, if_pos (rfl)]
    exact hK x' m' E3
  rw [if_neg h]
  clear h
  by_cases h : op = 35
  · obtain ⟨r, x', m', E1, E2, E3⟩ := cmd_row y1 y2 y3 hR
    rw [if_pos h, if_pos i1, if_pos i2, if_pos i3, E1, ob2_s, E2, ob2_s, if_pos (rfl)]
    exact hK x' m' E3
  rw [if_neg h]
  clear h
  by_cases h : op = 36
  · obtain ⟨r, x', m', E1, E2, E3⟩ := cmd_put y1 y2 ((lsh (Int32.toInt64 y3) 32) ||| ((Int32.toInt64 y4) &&& 4294967295)) hR
    rw [if_pos h, if_pos i1, if_pos i2, if_pos i3, if_pos i4, E1, ob2_s, E2, ob2_s, if_pos (rfl)]
    exact hK x' m' E3
  rw [if_neg h]
  clear h
  by_cases h : op = 37
  · obtain ⟨r, E1, E2⟩ := cmd_element y1 y2 hR
    rw [if_pos h, if_pos i1, if_pos i2, E1, ob_s, E2, ob_s, if_pos ((cmpE _ _).mpr rfl)]
    exact hK x m hR
  rw [if_neg h]
  clear h
  by_cases h : op = 38
  · obtain ⟨r, x', m', E1, E2, E3⟩ := cmd_shift y1 y2 y3 y4 y5 hR
    rw [if_pos h, if_pos i1, if_pos i2, if_pos i3, if_pos i4, if_pos i5, E1, ob2_s, E2, ob2_s, if_pos (rfl)]
    exact hK x' m' E3
  rw [if_neg h]
  clear h
  by_cases h : op = 39
  · obtain ⟨r, E1, E2⟩ := cmd_taken y1 y2 hR
    rw [if_pos h, if_pos i1, if_pos i2, E1, ob_s, E2, ob_s, if_pos (rfl)]
    exact hK x m hR
  rw [if_neg h]
  clear h
  by_cases h : op = 40
  · obtain ⟨r, E1, E2⟩ := cmd_count y1 hR
    rw [if_pos h, if_pos i1, E1, ob_s, E2, if_pos (rfl)]
    exact hK x m hR
  rw [if_neg h]
  clear h
  exact hK x m hR
theorem stop_law {Ns : Nat} {Xs : Nat → Int32} {K : Int32 → MX → MM → Option Bool} {j : Nat} (hj : Ns < j + 6) (hj2 : j ≤ 10000) (hN : Ns ≤ 3072) {x : MX} {m : MM} : B_L_law_18 Ns Xs K (nI j) x m = some true := by
  have e6 : (6 : Int32).toInt = 6 := by decide
  have z : (Int32.ofNat Ns) - 6 < nI j := by
    have a : (Int32.ofNat Ns - 6).toInt = (Ns : Int) - 6 := by
      have b : (Int32.ofNat Ns).toInt = (Ns : Int) := nI_int (by omega)
      rw [i_sub (by rw [b, e6]; omega) (by rw [b, e6]; omega), b, e6]
    rw [i_lt, a, nI_int (by omega)]
    omega
  unfold B_L_law_18
  rw [if_pos z]
theorem loop_law {Ns : Nat} {Xs : Nat → Int32} (hN : Ns ≤ 3072) : ∀ (n j f : Nat) (x : MX) (m : MM), Ns < j + 6 + 6 * n → j ≤ 4000 → n < f → Rel x m → f_L_law_18 Ns Xs f (nI j) x m = some true := by
  intro n
  induction n with
  | zero =>
    intro j f x m hj hj2 hf hR
    obtain ⟨f, rfl⟩ : ∃ e, f = e + 1 := ⟨f - 1, by omega⟩
    exact stop_law (K := f_L_law_18 Ns Xs f) (by omega) (by omega) hN
  | succ n ih =>
    intro j f x m hj hj2 hf hR
    obtain ⟨f, rfl⟩ : ∃ e, f = e + 1 := ⟨f - 1, by omega⟩
    by_cases c : j + 6 ≤ Ns
    · refine step_law (K := f_L_law_18 Ns Xs f) c hN hR (fun x' m' hR' => ?_)
      rw [show nI j + 6 = nI (j + 6) from nA_add j 6]
      exact ih (j + 6) f x' m' (by omega) (by omega) (by omega) hR'
    · exact stop_law (K := f_L_law_18 Ns Xs f) (by omega) (by omega) hN
/-- class and reference agree, as functions -/
theorem pure_law (Ns : Nat) (Xs : Nat → Int32) (hN : Ns ≤ 3072) : f_L_law_18 Ns Xs LF 0 x00 m00 = some true :=
  loop_law hN 512 0 LF x00 m00 (by omega) (by decide) (by decide) rel0
