def dfl (h l o s n : Int32) : Int32 := ((((10 - h) * l) + s) + (2 * o)) - n
theorem dfl_le {h l o s n : Int32} (h1 : 0 ≤ h.toInt ∧ h.toInt ≤ 10) (h2 : 0 ≤ l.toInt ∧ l.toInt ≤ 9) (h3 : 0 ≤ o.toInt ∧ o.toInt ≤ 9) (h4 : 0 ≤ s.toInt ∧ s.toInt ≤ 99) (h5 : 0 ≤ n.toInt ∧ n.toInt ≤ 1000) : (dfl h l o s n).toInt ≤ 999 := by
  have e10 : (10 : Int32).toInt = 10 := by decide
  have e2 : (2 : Int32).toInt = 2 := by decide
  have a1 : (10 - h).toInt = 10 - h.toInt := by rw [i_sub (by rw [e10]; omega) (by rw [e10]; omega), e10]
  have p0 : 0 ≤ (10 - h.toInt) * l.toInt := Int.mul_nonneg (by omega) h2.1
  have p1 : (10 - h.toInt) * l.toInt ≤ 10 * 9 := Int.mul_le_mul (by omega) h2.2 h2.1 (by decide)
  have a2 : ((10 - h) * l).toInt = (10 - h.toInt) * l.toInt := by rw [i_mul (by rw [a1]; omega) (by rw [a1]; omega), a1]
  have a3 : (2 * o).toInt = 2 * o.toInt := by rw [i_mul (by rw [e2]; omega) (by rw [e2]; omega), e2]
  have a4 : ((10 - h) * l + s).toInt = (10 - h.toInt) * l.toInt + s.toInt := by rw [i_add (by rw [a2]; omega) (by rw [a2]; omega), a2]
  have a5 : ((10 - h) * l + s + 2 * o).toInt = (10 - h.toInt) * l.toInt + s.toInt + 2 * o.toInt := by rw [i_add (by rw [a4, a3]; omega) (by rw [a4, a3]; omega), a4, a3]
  unfold dfl
  rw [i_sub (by rw [a5]; omega) (by rw [a5]; omega), a5]
  omega
theorem clamp_dfl {v : Int32} (h : v.toInt ≤ 999) : imax 1 v = clampT v := by
  have e1 : (1 : Int32).toInt = 1 := by decide
  have e9 : (999 : Int32).toInt = 999 := by decide
  unfold imax clampT
  simp only [i_lt, i_le, e1, e9]
  repeat' split
  all_goals first | rfl | (rw [i_eq]; omega) | omega
theorem clampT_in (v : Int32) : 1 ≤ (clampT v).toInt ∧ (clampT v).toInt ≤ 999 := by
  have e1 : (1 : Int32).toInt = 1 := by decide
  have e9 : (999 : Int32).toInt = 999 := by decide
  unfold clampT
  simp only [i_le, e1, e9]
  repeat' split
  all_goals first | (rw [e1]; omega) | (rw [e9]; omega) | omega
theorem takes_eqT {x : MX} {m : MM} (hR : Rel x m) {nl nc ns : Nat} (h1 : RCnt nl nc ns x m) {a b : Nat} (ha : a < 6) (hb : b < 6) {s h n : Int32} (hh : 0 ≤ h.toInt ∧ h.toInt ≤ 10) (hs : 0 ≤ s.toInt ∧ s.toInt ≤ 99) (hn : 0 ≤ n.toInt ∧ n.toInt ≤ 1000) : ∃ (t : Int32) (x1 : MX) (m1 : MM), f_X8_takesWith (nI a) (nI b) s h n x = some (t, x1) ∧ f_X9_takesSo (nI a) (nI b) h n s m = some (t, m1) ∧ SameT x x1 ∧ SameN m m1 ∧ 1 ≤ t.toInt ∧ t.toInt ≤ 999 := by
  obtain ⟨_, _, _, _, _, h2, _, _, _, _, h7, h8, _, _⟩ := hR
  have i8a : inb (nI a) 8 = true := inb_nI (by omega) (by decide)
  have i8b : inb (nI b) 8 = true := inb_nI (by omega) (by decide)
  have i6a : inb (nI a) 6 = true := inb_nI (by omega) (by decide)
  have i6b : inb (nI b) 6 = true := inb_nI (by omega) (by decide)
  have ja : ix (nI a) = a := ix_nI (by omega)
  have jb : ix (nI b) = b := ix_nI (by omega)
  obtain ⟨a1, a2, a3⟩ := h2.1 0 a (by decide) ha
  obtain ⟨b1, b2, b3⟩ := h2.1 1 a (by decide) ha
  obtain ⟨c1, c2, c3⟩ := h2.1 3 b (by decide) hb
  have a1' : xi x 7 a = mi m 81 a := a1
  have b1' : xi x 8 a = mi m 82 a := b1
  have c1' : xi x 10 b = mi m 84 b := c1
  obtain ⟨l1, l2, l3⟩ := lackX (a := mi m 81 a) (b := mi m 82 a) ⟨a2, a3⟩ ⟨b2, b3⟩
  have em : f_X9_takesSo (nI a) (nI b) h n s m = B_X9_takesSo_32 (nI b) h n s (lackT (mi m 81 a) (mi m 82 a)) m := by
    unfold f_X9_takesSo lackT
    rw [if_pos i6a, ja]
    split <;> rfl
  have hl := lawB_of h7.1
  have z0 : (0 : Int32).toInt = 0 := by decide
  rcases h8 with ⟨g1, g2⟩ | ⟨g1, g2, F, g3, g4⟩
  · refine ⟨clampT (dfl h (lackT (mi m 81 a) (mi m 82 a)) (mi m 84 b) s n), x, m, ?_, ?_, SameT.rf x, SameN.rf m, (clampT_in _).1, (clampT_in _).2⟩
    · have it : f_X3_isTold x.1.1 x = false := by unfold f_X3_isTold; rw [g2]; rfl
      unfold f_X8_takesWith
      rw [if_pos i8a, ja, a1', b1', l1, letx_s, if_pos i8b, if_pos hl, it, jb, c1']
      show some (imax 1 (dfl h (lackT (mi m 81 a) (mi m 82 a)) (mi m 84 b) s n), x) = _
      rw [clamp_dfl (dfl_le (o := mi m 84 b) hh ⟨l2, l3⟩ ⟨c2, c3⟩ hs hn)]
    · rw [em]
      unfold B_X9_takesSo_32
      rw [if_pos g1, if_pos i6b, jb, letx_s, clampM]
      rfl
  · have it : f_X3_isTold x.1.1 x = true := by
      unfold f_X3_isTold
      rw [if_neg (by rw [i_le, z0]; omega)]
    obtain ⟨x1, x2, q1, q2, q3, q4⟩ := g3 x h (lackT (mi m 81 a) (mi m 82 a)) (mi m 84 b) s n (nI b) ⟨rfl, rfl, fun _ => ⟨rfl, rfl⟩⟩
    obtain ⟨m1, w1, w2⟩ := g4 m h (lackT (mi m 81 a) (mi m 82 a)) (mi m 84 b) s n (nI b) ⟨rfl, fun _ => rfl⟩
    refine ⟨clampT (F h (lackT (mi m 81 a) (mi m 82 a)) (mi m 84 b) s n (nI b)), x2, m1, ?_, ?_, q3.tr q4, w2, (clampT_in _).1, (clampT_in _).2⟩
    · have hl1 : isLawB x1.1.1 = true := by rw [q3.1]; exact hl
      have q2' : f_X3_workedOut x1.1.1 x1 = some (F h (lackT (mi m 81 a) (mi m 82 a)) (mi m 84 b) s n (nI b), x2) := by rw [q3.1]; exact q2
      unfold f_X8_takesWith
      rw [if_pos i8a, ja, a1', b1', l1, letx_s, if_pos i8b, if_pos hl, it, if_pos rfl, jb, c1', q1, ob_s, if_pos hl1, q2', ob2_s, clampX]
    · rw [em]
      unfold B_X9_takesSo_32
      have g1' : ¬ mi m 80 9 = 0 := by rw [g1]; decide
      rw [if_neg g1', letx_s, letx_s, if_pos i6b, jb, letx_s, letx_s, letx_s, letx_s]
      have r : mi (ms (ms m 99 104 h) 99 108 (lackT (mi m 81 a) (mi m 82 a))) 84 b = mi m 84 b := by rw [mi_ms, if_neg (by omega), mi_ms, if_neg (by omega)]
      rw [r]
      show ob2 (f_X9_given (nmM m h (lackT (mi m 81 a) (mi m 82 a)) (mi m 84 b) s n (nI b))) _ = _
      rw [w1, ob2_s, clampM]
theorem takes_eq {x : MX} {m : MM} (hR : Rel x m) {nl nc ns : Nat} (h1 : RCnt nl nc ns x m) {a b : Nat} (ha : a < 6) (hb : b < 6) {s h n : Int32} (hh : 0 ≤ h.toInt ∧ h.toInt ≤ 10) (hs : 0 ≤ s.toInt ∧ s.toInt ≤ 99) (hn : 0 ≤ n.toInt ∧ n.toInt ≤ 1000) : ∃ (t : Int32) (x1 : MX) (m1 : MM), f_X8_takesWith (nI a) (nI b) s h n x = some (t, x1) ∧ f_X9_takesSo (nI a) (nI b) h n s m = some (t, m1) ∧ SameX x x1 ∧ SameM m m1 ∧ 1 ≤ t.toInt ∧ t.toInt ≤ 999 := by
  obtain ⟨t, x1, m1, E1, E2, E3, E4, E5⟩ := takes_eqT hR h1 ha hb hh hs hn
  exact ⟨t, x1, m1, E1, E2, E3.toX, E4.toM, E5⟩
