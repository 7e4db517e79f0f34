theorem xi_xfl {x : MX} {a n h k : Nat} {v : Int64} : xi (xfl x a n v) h k = xi x h k := rfl
theorem xl_xfl {x : MX} {a n h k : Nat} {v : Int64} : xl (xfl x a n v) h k = if h = a ∧ k < n then v else xl x h k := by
  unfold xl xfl rs2
  by_cases e : h = a
  · subst e
    simp
  · simp [e]
theorem clamp60 {a : Int32} (h0 : 0 ≤ a.toInt) (h1 : a.toInt ≤ 60) : imax 0 (imin 60 a) = a := by
  have e60 : (60 : Int32).toInt = 60 := by decide
  have e0 : (0 : Int32).toInt = 0 := by decide
  have h : imin 60 a = a := by
    unfold imin
    split
    · rfl
    · rename_i z
      rw [i_lt, e60] at z
      rw [i_eq, e60]
      omega
  rw [h]
  unfold imax
  split
  · rfl
  · rename_i z
    rw [i_lt, e0] at z
    rw [i_eq, e0]
    omega
theorem isSortX {a : Int32} : f_X6_isSort a = decide (0 ≤ a.toInt ∧ a.toInt ≤ 4) := by
  unfold f_X6_isSort
  simp only [i_lt, i_le]
  by_cases z1 : a.toInt < 0
  · rw [if_pos (by simpa using z1), decide_eq_false (by omega)]
  · rw [if_neg (by simpa using z1)]
    by_cases z2 : 4 < a.toInt
    · rw [if_pos (by simpa using z2), decide_eq_false (by omega)]
    · rw [if_neg (by simpa using z2), decide_eq_true (by omega)]
theorem hasPl {x : MX} {H sz : Nat} {i n : Int32} (h : xi x H 2 = nI sz) (hz : sz ≤ 60) : f_X6_hasPlaces H i n x = decide (0 ≤ i.toInt ∧ 0 ≤ n.toInt ∧ n.toInt ≤ sz ∧ i.toInt ≤ (sz : Int) - n.toInt) := by
  unfold f_X6_hasPlaces
  rw [h]
  have e0 : (0 : Int32).toInt = 0 := by decide
  have es := nI_int (n := sz) (by omega)
  simp only [i_lt, e0, es]
  by_cases z1 : i.toInt < 0
  · rw [if_pos z1, decide_eq_false (by omega)]
  · rw [if_neg z1]
    by_cases z2 : n.toInt < 0
    · rw [if_pos z2, decide_eq_false (by omega)]
    · rw [if_neg z2]
      by_cases z3 : (sz : Int) < n.toInt
      · rw [if_pos z3, decide_eq_false (by omega)]
      · rw [if_neg z3, i_sub (by omega) (by omega), es]
        by_cases z4 : (sz : Int) - n.toInt < i.toInt
        · rw [if_pos z4, decide_eq_false (by omega)]
        · rw [if_neg z4, decide_eq_true (by omega)]
theorem nI_neg {n : Nat} (h : n < 2147483648) {v : Int32} (hv : v.toInt < 0) : ¬ nI n = v := fun e => by
  have := nI_int h
  rw [e] at this
  omega
theorem sh_case {nh s : Nat} {x : MX} {m : MM} (h : RShelf1 nh x m s) (hs : s < 6) :
    (mi m 105 s = 0 ∧ f_X6_refusalAsRow (68 + 2 * s) x = -11 ∧ f_X6_holdsNothing (68 + 2 * s) x = true ∧ f_X6_holdsRow (68 + 2 * s) x = false ∧ f_X9_barsOfRow (nI s) m = some (-11)) ∨
    (mi m 105 s = 1 ∧ f_X6_refusalAsRow (68 + 2 * s) x = -12 ∧ f_X6_holdsNothing (68 + 2 * s) x = false ∧ f_X6_holdsRow (68 + 2 * s) x = false ∧ f_X9_barsOfRow (nI s) m = some (-12) ∧ xi x (68 + 2 * s) 1 = -1 ∧ ∃ q, q < nh ∧ mi m 108 s = nI q ∧ xi x (68 + 2 * s) 3 = nI q) ∨
    (mi m 105 s = 2 ∧ f_X6_refusalAsRow (68 + 2 * s) x = 0 ∧ f_X6_holdsNothing (68 + 2 * s) x = false ∧ f_X6_holdsRow (68 + 2 * s) x = true ∧ f_X9_barsOfRow (nI s) m = some 0 ∧ ∃ so sz : Nat, so < 5 ∧ sz ≤ 60 ∧ xi x (68 + 2 * s) 1 = nI so ∧ mi m 106 s = nI so ∧ xi x (68 + 2 * s) 2 = nI sz ∧ mi m 107 s = nI sz ∧ (∀ i, f_X9_isElement (nI s) i m = some (decide (0 ≤ i.toInt ∧ i.toInt < sz))) ∧ ∀ k, k < 60 → xl x (68 + 2 * s + 1) k = ml m 109 (60 * s + k) ∧ (so = 1 → (Int64.toInt32 (ml m 109 (60 * s + k))).toInt64 = ml m 109 (60 * s + k))) := by
  have i6 : inb (nI s) 6 = true := inb_nI hs (by decide)
  have j0 : ix (nI s) = s := ix_nI (by omega)
  have c1 : 0 ≤ (nI s).toInt ∧ (nI s).toInt < (6 : Nat) := by rw [nI_int (by omega)]; omega
  rcases h with ⟨g1, g2⟩ | ⟨g1, g2, g3⟩ | ⟨g1, so, sz, g2, g3, g4, g5, g6, g7, g8⟩
  · refine Or.inl ⟨g1, ?_, ?_, ?_, ?_⟩
    · simp [f_X6_refusalAsRow, f_X6_holdsNothing, g2]
    · simp [f_X6_holdsNothing, g2]
    · simp only [f_X6_holdsRow, g2]; rfl
    · simp only [f_X9_barsOfRow, isShelfM, decide_eq_true c1, if_true, i6, j0, g1]
  · refine Or.inr (Or.inl ⟨g1, ?_, ?_, ?_, ?_, g2, g3⟩)
    · simp only [f_X6_refusalAsRow, f_X6_holdsNothing, f_X6_holdsRow, g2]; rfl
    · simp only [f_X6_holdsNothing, g2]; rfl
    · simp only [f_X6_holdsRow, g2]; rfl
    · simp only [f_X9_barsOfRow, isShelfM, decide_eq_true c1, if_true, i6, j0, g1]; rfl
  · have e1 : f_X6_holdsNothing (68 + 2 * s) x = false := by
      unfold f_X6_holdsNothing
      rw [g4, if_neg (nI_neg (by omega) (by decide))]
    have e2 : f_X6_holdsRow (68 + 2 * s) x = true := by
      unfold f_X6_holdsRow
      rw [g4, isSortX, nI_int (by omega), decide_eq_true (by omega)]
    refine Or.inr (Or.inr ⟨g1, ?_, e1, e2, ?_, so, sz, g2, g3, g4, g5, g6, g7, fun i => ?_, g8⟩)
    · unfold f_X6_refusalAsRow
      rw [e1, e2]
      rfl
    · simp only [f_X9_barsOfRow, isShelfM, decide_eq_true c1, if_true, i6, j0, g1]; rfl
    · unfold f_X9_isElement
      rw [i6, j0, g7]
      have e0 : (0 : Int32).toInt = 0 := by decide
      simp only [i_lt, i_le, e0, nI_int (n := sz) (by omega), if_true]
      by_cases z1 : i.toInt < 0
      · rw [if_pos z1, decide_eq_false (by omega)]
      · rw [if_neg z1]
        by_cases z2 : (sz : Int) ≤ i.toInt
        · rw [if_pos z2, decide_eq_false (by omega)]
        · rw [if_neg z2, decide_eq_true (by omega)]
theorem cmd_element {x : MX} {m : MM} (a b : Int32) (h : Rel x m) : ∃ r, f_X8_element a b x = some r ∧ f_X9_element a b m = some r := by
  obtain ⟨nl, nc, ns, nh, h1, h2, h3, h4, h5, h6, h7, h8, h9, h10⟩ := h
  by_cases c1 : 0 ≤ a.toInt ∧ a.toInt < (6 : Nat)
  · obtain ⟨s, hs, rfl⟩ := nI_ex c1.1 c1.2
    have i6 : inb (nI s) 6 = true := inb_nI hs (by decide)
    have j0 : ix (nI s) = s := ix_nI (by omega)
    rcases sh_case (h10 s hs) hs with ⟨g1, g2, g3, g4, g5⟩ | ⟨g1, g2, g3, g4, g5, g6⟩ | ⟨g1, g2, g3, g4, g5, so, sz, p1, p2, p3, p4, p5, p6, p7, p8⟩
    · refine ⟨-9223372036854775808, ?_, ?_⟩
      · simp only [f_X8_element, isShelfX, decide_eq_true c1, if_true, i6, j0, g2]; rfl
      · simp only [f_X9_element, g5, ob_s]; rfl
    · refine ⟨-9223372036854775808, ?_, ?_⟩
      · simp only [f_X8_element, isShelfX, decide_eq_true c1, if_true, i6, j0, g2]; rfl
      · simp only [f_X9_element, g5, ob_s]; rfl
    · by_cases c2 : 0 ≤ b.toInt ∧ b.toInt < sz
      · obtain ⟨k, hk, rfl⟩ := nI_ex c2.1 c2.2
        have e9 : f_X6_hasPlaces (68 + 2 * s) (nI k) 1 x = true := by
          rw [hasPl p5 p2]
          rw [nI_int (by omega)] at c2 ⊢
          have : (1 : Int32).toInt = 1 := by decide
          rw [this, decide_eq_true (by omega)]
        refine ⟨ml m 109 (60 * s + k), ?_, ?_⟩
        · simp only [f_X8_element, isShelfX, decide_eq_true c1, if_true, i6, j0, g2, e9, inb_nI (show k < 60 by omega) (by decide), ix_nI (show k < 2147483648 by omega), (p8 k (by omega)).1]
        · simp only [f_X9_element, g5, ob_s, if_true, p7, decide_eq_true c2, cellix hs (show k < 60 by omega), inb_nI (show 60 * s + k < 360 by omega) (by decide), ix_nI (show 60 * s + k < 2147483648 by omega)]
      · have e9 : f_X6_hasPlaces (68 + 2 * s) b 1 x = false := by
          rw [hasPl p5 p2]
          have : (1 : Int32).toInt = 1 := by decide
          rw [this, decide_eq_false (by omega)]
        refine ⟨-9223372036854775808, ?_, ?_⟩
        · simp only [f_X8_element, isShelfX, decide_eq_true c1, if_true, i6, j0, g2, e9]; rfl
        · simp only [f_X9_element, g5, ob_s, if_true, p7, decide_eq_false c2]; rfl
  · refine ⟨-9223372036854775808, ?_, ?_⟩
    · simp only [f_X8_element, isShelfX, decide_eq_false c1]; rfl
    · have : f_X9_barsOfRow a m = some (-1) := by
        simp only [f_X9_barsOfRow, isShelfM, decide_eq_false c1]; rfl
      simp only [f_X9_element, this, ob_s]; rfl
theorem cmd_row {x : MX} {m : MM} (a b c : Int32) (h : Rel x m) : ∃ r x' m', f_X8_row a b c x = some (r, x') ∧ f_X9_row a b c m = some (r, m') ∧ Rel x' m' := by
  have hR := h
  obtain ⟨nl, nc, ns, nh, h1, h2, h3, h4, h5, h6, h7, h8, h9, h10⟩ := h
  have k1 : f_X9_isIn b 0 4 = decide (0 ≤ b.toInt ∧ b.toInt ≤ 4) := by rw [isIn_eq]; rfl
  have e0 : (0 : Int32).toInt = 0 := by decide
  have e60 : (60 : Int32).toInt = 60 := by decide
  by_cases c1 : 0 ≤ a.toInt ∧ a.toInt < (6 : Nat)
  · by_cases c2 : 0 ≤ b.toInt ∧ b.toInt ≤ 4
    · by_cases c3 : c ≤ 60
      · by_cases c4 : 0 ≤ c
        · obtain ⟨s, hs, rfl⟩ := nI_ex c1.1 c1.2
          have i6 : inb (nI s) 6 = true := inb_nI hs (by decide)
          have j0 : ix (nI s) = s := ix_nI (by omega)
          have d3 : c.toInt ≤ 60 := by rw [i_le, e60] at c3; exact c3
          have d4 : 0 ≤ c.toInt := by rw [i_le, e0] at c4; exact c4
          obtain ⟨so, hso, rfl⟩ := nI_ex (a := b) (n := 5) c2.1 (by omega)
          obtain ⟨sz, hsz, rfl⟩ := nI_ex (a := c) (n := 61) d4 (by omega)
          obtain ⟨m', f1, f2, f3⟩ := row_loop hs 60 0 LF (ms (ms (ms m 105 s 2) 106 s (nI so)) 107 s (nI sz)) rfl (by decide)
          have E1 : f_X8_row (nI s) (nI so) (nI sz) x = some (1, xfl (xs (xs x (68 + 2 * s) 1 (nI so)) (68 + 2 * s) 2 (nI sz)) (68 + 2 * s + 1) 60 0) := by
            simp only [f_X8_row, isShelfX, decide_eq_true c1, isSortX, decide_eq_true c2, if_true, if_pos c3, if_pos c4, i6, j0, f_X6_holdRow, letx_s, ob_s, clamp60 d4 d3]
          have E2 : f_X9_row (nI s) (nI so) (nI sz) m = some (1, m') := by
            simp only [f_X9_row, isShelfM, decide_eq_true c1, k1, decide_eq_true c2, if_true, if_pos c3, if_pos c4, i6, j0, letx_s]
            exact f1
          refine ⟨_, _, _, E1, E2, nl, nc, ns, nh, ?_⟩
          apply rest_shelf h1 h2 h3 h4 h5 h6 h7 h8 h9
          · rfl
          · intro h k hh
            rw [xi_xfl, xi_xs, if_neg (by omega), xi_xs, if_neg (by omega)]
          · intro h k hh
            rw [f2, mi_ms, if_neg (by omega), mi_ms, if_neg (by omega), mi_ms, if_neg (by omega)]
          intro t ht
          by_cases e : t = s
          · subst e
            refine Or.inr (Or.inr ⟨by rw [f2]; simp [mi_ms], so, sz, hso, by omega, by simp [xi_xfl, xi_xs], by rw [f2]; simp [mi_ms], by simp [xi_xfl, xi_xs], by rw [f2]; simp [mi_ms], fun k hk => ?_⟩)
            rw [f3, if_pos ⟨rfl, by omega, by omega⟩, xl_xfl, if_pos ⟨rfl, hk⟩]
            exact ⟨rfl, fun _ => by decide⟩
          · refine (h10 t ht).cg (fun k => by rw [xi_xfl, xi_xs, if_neg (by omega), xi_xs, if_neg (by omega)]) (fun k => by rw [xl_xfl, if_neg (by omega)]; rfl) (by rw [f2]; simp [mi_ms, e]) (by rw [f2]; simp [mi_ms, e]) (by rw [f2]; simp [mi_ms, e]) (by rw [f2]; simp [mi_ms]) (fun k hk => ?_)
            rw [f3, if_neg (by omega)]
            rfl
        · exact ⟨-14, x, m, by simp only [f_X8_row, isShelfX, decide_eq_true c1, isSortX, decide_eq_true c2, if_true, if_pos c3, if_neg c4], by simp only [f_X9_row, isShelfM, decide_eq_true c1, k1, decide_eq_true c2, if_true, if_pos c3, if_neg c4], hR⟩
      · exact ⟨-1, x, m, by simp only [f_X8_row, isShelfX, decide_eq_true c1, isSortX, decide_eq_true c2, if_true, if_neg c3], by simp only [f_X9_row, isShelfM, decide_eq_true c1, k1, decide_eq_true c2, if_true, if_neg c3], hR⟩
    · exact ⟨-1, x, m, by simp only [f_X8_row, isShelfX, decide_eq_true c1, isSortX, decide_eq_false c2, if_true]; rfl, by simp only [f_X9_row, isShelfM, decide_eq_true c1, k1, decide_eq_false c2, if_true]; rfl, hR⟩
  · exact ⟨-1, x, m, by simp only [f_X8_row, isShelfX, decide_eq_false c1]; rfl, by simp only [f_X9_row, isShelfM, decide_eq_false c1]; rfl, hR⟩
