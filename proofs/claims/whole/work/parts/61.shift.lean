theorem xl_xcpl {x : MX} {a b sp dp n h k : Nat} : xl (xcpl x a b sp dp n) h k = if h = b ∧ dp ≤ k ∧ k < dp + n then xl x a (sp + (k - dp)) else xl x h k := by
  unfold xl xcpl rs2 va_cpy
  by_cases e : h = b
  · subst e
    by_cases e2 : dp ≤ k ∧ k < dp + n
    · simp [e2]
    · simp only [if_true, if_neg e2]
      rw [if_neg (fun q => e2 q.2)]
  · simp [e]
theorem xi_xcpl {x : MX} {a b sp dp n h k : Nat} : xi (xcpl x a b sp dp n) h k = xi x h k := rfl
theorem holdsOf {x : MX} {H so : Nat} {v : Int32} (h : xi x H 1 = nI so) (hs : so < 5) : f_X6_holdsRowOf H v x = decide (nI so = v) := by
  unfold f_X6_holdsRowOf
  rw [h, isSortX, nI_int (by omega), decide_eq_true (by omega), if_pos rfl]
  by_cases e : nI so = v
  · rw [if_pos e, decide_eq_true e]
  · rw [if_neg e, decide_eq_false e]
theorem cmd_shift {x : MX} {m : MM} (a b c d e : Int32) (h : Rel x m) : ∃ r x' m', f_X8_shift a b c d e x = some (r, x') ∧ f_X9_shift a b c d e m = some (r, m') ∧ Rel x' m' := by
  have hR := h
  obtain ⟨nl, nc, ns, nh, h1, h2, h3, h4, h5, h6, h7, h8, h9, h10⟩ := h
  have e0 : (0 : Int32).toInt = 0 := by decide
  by_cases c1 : 0 ≤ a.toInt ∧ a.toInt < (6 : Nat)
  · by_cases c2 : 0 ≤ c.toInt ∧ c.toInt < (6 : Nat)
    · obtain ⟨s, hs, rfl⟩ := nI_ex c1.1 c1.2
      obtain ⟨t, ht, rfl⟩ := nI_ex c2.1 c2.2
      have is6 : inb (nI s) 6 = true := inb_nI hs (by decide)
      have js : ix (nI s) = s := ix_nI (by omega)
      have it6 : inb (nI t) 6 = true := inb_nI ht (by decide)
      have jt : ix (nI t) = t := ix_nI (by omega)
      rcases sh_case (h10 s hs) hs with ⟨g1, g2, g3, g4, g5⟩ | ⟨g1, g2, g3, g4, g5, g6, g7⟩ | ⟨g1, g2, g3, g4, g5, so, sz, p1, p2, p3, p4, p5, p6, p7, p8⟩
      · refine ⟨-11, x, m, ?_, ?_, hR⟩
        · simp only [f_X8_shift, isShelfX, decide_eq_true c1, decide_eq_true c2, if_true, is6, it6, js, jt, g3]
        · simp only [f_X9_shift, isShelfM, decide_eq_true c1, decide_eq_true c2, if_true, is6, it6, js, jt, g1]
      · rcases sh_case (h10 t ht) ht with ⟨k1, k2, k3, k4, k5⟩ | ⟨k1, k2, k3, k4, k5, k6, k7⟩ | ⟨k1, k2, k3, k4, k5, to, tz, q1, q2, q3, q4, q5, q6, q7, q8⟩
        · refine ⟨-11, x, m, ?_, ?_, hR⟩
          · simp only [f_X8_shift, isShelfX, decide_eq_true c1, decide_eq_true c2, if_true, is6, it6, js, jt, g3, k3]; rfl
          · simp only [f_X9_shift, isShelfM, decide_eq_true c1, decide_eq_true c2, if_true, is6, it6, js, jt, g1, k1]; rfl
        · refine ⟨-12, x, m, ?_, ?_, hR⟩
          · simp only [f_X8_shift, isShelfX, decide_eq_true c1, decide_eq_true c2, if_true, is6, it6, js, jt, g3, k3, g4]; rfl
          · simp only [f_X9_shift, isShelfM, decide_eq_true c1, decide_eq_true c2, if_true, is6, it6, js, jt, g1, k1]; rfl
        · refine ⟨-12, x, m, ?_, ?_, hR⟩
          · simp only [f_X8_shift, isShelfX, decide_eq_true c1, decide_eq_true c2, if_true, is6, it6, js, jt, g3, k3, g4]; rfl
          · simp only [f_X9_shift, isShelfM, decide_eq_true c1, decide_eq_true c2, if_true, is6, it6, js, jt, g1, k1]; rfl
      · rcases sh_case (h10 t ht) ht with ⟨k1, k2, k3, k4, k5⟩ | ⟨k1, k2, k3, k4, k5, k6, k7⟩ | ⟨k1, k2, k3, k4, k5, to, tz, q1, q2, q3, q4, q5, q6, q7, q8⟩
        · refine ⟨-11, x, m, ?_, ?_, hR⟩
          · simp only [f_X8_shift, isShelfX, decide_eq_true c1, decide_eq_true c2, if_true, is6, it6, js, jt, g3, k3]; rfl
          · simp only [f_X9_shift, isShelfM, decide_eq_true c1, decide_eq_true c2, if_true, is6, it6, js, jt, g1, k1]; rfl
        · have hf : f_X6_holdsRowOf (68 + 2 * t) (xi x (68 + 2 * s) 1) x = false := by
            unfold f_X6_holdsRowOf
            rw [k6, isSortX]; rfl
          refine ⟨-12, x, m, ?_, ?_, hR⟩
          · simp only [f_X8_shift, isShelfX, decide_eq_true c1, decide_eq_true c2, if_true, is6, it6, js, jt, g3, k3, g4, hf]; rfl
          · simp only [f_X9_shift, isShelfM, decide_eq_true c1, decide_eq_true c2, if_true, is6, it6, js, jt, g1, k1]; rfl
        · have hf : f_X6_holdsRowOf (68 + 2 * t) (xi x (68 + 2 * s) 1) x = decide (nI to = nI so) := by rw [p3]; exact holdsOf q3 q1
          by_cases f1 : to = so
          · subst f1
            have hf2 : decide (nI to = nI to) = true := decide_eq_true rfl
            have G1 := hasPl (x := x) (H := 68 + 2 * s) (i := b) (n := e) p5 p2
            have G2 := hasPl (x := x) (H := 68 + 2 * t) (i := d) (n := e) q5 q2
            by_cases G : 0 ≤ b.toInt ∧ 0 ≤ d.toInt ∧ 0 ≤ e.toInt ∧ b.toInt + e.toInt ≤ sz ∧ d.toInt + e.toInt ≤ tz
            · obtain ⟨v1, v2, v3, v4, v5⟩ := G
              obtain ⟨p, hp, rfl⟩ := nI_ex (a := b) (n := 61) v1 (by omega)
              obtain ⟨q, hq, rfl⟩ := nI_ex (a := d) (n := 61) v2 (by omega)
              obtain ⟨n, hn, rfl⟩ := nI_ex (a := e) (n := 61) v3 (by omega)
              rw [nI_int (by omega), nI_int (by omega)] at v4 v5
              have n1 : ∀ k : Nat, k < 61 → ¬ nI k < 0 := fun k hk z => by
                rw [i_lt, e0, nI_int (by omega)] at z; omega
              have n2 : ∀ k : Nat, k < 61 → ix (nI k) = k := fun k hk => ix_nI (by omega)
              rw [nI_int (by omega), nI_int (by omega), decide_eq_true (by omega)] at G1 G2
              obtain ⟨m1, r1, r2, r3⟩ := lift_loop (p := p) (c := n) (t := t) (q := q) hs (by omega) n 0 LF m (by omega) (by unfold LF; omega)
              obtain ⟨m2, w1, w2, w3⟩ := drop_loop (c := n) (q := q) ht (by omega) n 0 LF m1 (by omega) (by unfold LF; omega)
              have sb : ∀ z : Nat, z ≤ 60 → n ≤ z → (nI z - nI n).toInt = (z : Int) - n := fun z hz hz2 => by
                rw [i_sub (by rw [nI_int (by omega), nI_int (by omega)]; omega) (by rw [nI_int (by omega), nI_int (by omega)]; omega), nI_int (by omega), nI_int (by omega)]
              have s1 : ¬ (nI sz - nI n) < nI p := fun z => by
                rw [i_lt, sb sz p2 (by omega), nI_int (by omega)] at z; omega
              have s2 : nI q ≤ (nI tz - nI n) := by
                rw [i_le, sb tz q2 (by omega), nI_int (by omega)]; omega
              have E1 : f_X8_shift (nI s) (nI p) (nI t) (nI q) (nI n) x = some (nI n, xcpl x (68 + 2 * s + 1) (68 + 2 * t + 1) p q n) := by
                simp only [f_X8_shift, isShelfX, decide_eq_true c1, decide_eq_true c2, if_true, is6, it6, js, jt, g3, k3, g4, hf, hf2, G1, G2, n2 p hp, n2 q hq, n2 n hn, if_pos (n1 p hp), if_pos (n1 q hq), if_pos (n1 n hn), if_pos (show p + n ≤ 60 by omega), if_pos (show q + n ≤ 60 by omega), letx_s]
                rfl
              have E2 : f_X9_shift (nI s) (nI p) (nI t) (nI q) (nI n) m = some (nI n, m2) := by
                have y1 : ¬ (2 : Int32) = 0 := by decide
                have y2 : ¬ (2 : Int32) = 1 := by decide
                simp only [f_X9_shift, isShelfM, decide_eq_true c1, decide_eq_true c2, if_true, is6, it6, js, jt, g1, k1, p4, q4, p6, q6, if_neg y1, if_neg y2, if_neg (n1 p hp), if_neg (n1 q hq), if_neg (n1 n hn), if_neg s1, if_pos s2]
                exact r1.trans w1
              have mm : ∀ h k, mi m2 h k = mi m h k := fun h k => (w2 h k).trans (r2 h k)
              refine ⟨_, _, _, E1, E2, nl, nc, ns, nh, ?_⟩
              apply rest_shelf h1 h2 h3 h4 h5 h6 h7 h8 h9
              · rfl
              · intro h k _; rfl
              · intro h k _; exact mm h k
              intro u hu
              by_cases ut : u = t
              · subst ut
                refine Or.inr (Or.inr ⟨(mm _ _).trans k1, to, tz, q1, q2, q3, (mm _ _).trans q4, q5, (mm _ _).trans q6, fun k hk => ?_⟩)
                rw [xl_xcpl, w3]
                by_cases z : q ≤ k ∧ k < q + n
                · rw [if_pos ⟨rfl, z⟩, if_pos ⟨rfl, by omega, by omega⟩, r3, if_pos ⟨rfl, by omega, by omega⟩]
                  have := p8 (p + (k - q)) (by omega)
                  rw [show 60 * s + p + (60 * u + k - (60 * u + q)) = 60 * s + (p + (k - q)) by omega]
                  exact this
                · rw [if_neg (fun y => z y.2), if_neg (by omega), r3, if_neg (by omega)]
                  exact q8 k hk
              · refine (h10 u hu).cg (fun k => rfl) (fun k => by rw [xl_xcpl, if_neg (by omega)]) (mm _ _) (mm _ _) (mm _ _) (mm _ _) (fun k hk => ?_)
                rw [w3, if_neg (by omega), r3, if_neg (by omega)]
            · refine ⟨-13, x, m, ?_, ?_, hR⟩
              · by_cases z : 0 ≤ b.toInt ∧ 0 ≤ e.toInt ∧ e.toInt ≤ sz ∧ b.toInt ≤ (sz : Int) - e.toInt
                · rw [decide_eq_true z] at G1
                  rw [decide_eq_false (by omega)] at G2
                  simp only [f_X8_shift, isShelfX, decide_eq_true c1, decide_eq_true c2, if_true, is6, it6, js, jt, g3, k3, g4, hf, hf2, G1, G2]
                  rfl
                · rw [decide_eq_false z] at G1
                  simp only [f_X8_shift, isShelfX, decide_eq_true c1, decide_eq_true c2, if_true, is6, it6, js, jt, g3, k3, g4, hf, hf2, G1]
                  rfl
              · have y1 : ¬ (2 : Int32) = 0 := by decide
                have y2 : ¬ (2 : Int32) = 1 := by decide
                simp only [f_X9_shift, isShelfM, decide_eq_true c1, decide_eq_true c2, if_true, is6, it6, js, jt, g1, k1, p4, q4, p6, q6, if_neg y1, if_neg y2]
                by_cases z1 : e < 0
                · rw [if_pos z1]
                · rw [if_neg z1]
                  by_cases z2 : b < 0
                  · rw [if_pos z2]
                  · rw [if_neg z2]
                    by_cases z3 : d < 0
                    · rw [if_pos z3]
                    · rw [if_neg z3]
                      rw [i_lt, e0] at z1 z2 z3
                      have := i_hi e
                      have sb : ∀ z : Nat, z ≤ 60 → (nI z - e).toInt = (z : Int) - e.toInt := fun z hz => by
                        rw [i_sub (by rw [nI_int (by omega)]; omega) (by rw [nI_int (by omega)]; omega), nI_int (by omega)]
                      by_cases z4 : (nI sz - e) < b
                      · rw [if_pos z4]
                      · rw [if_neg z4, if_neg (fun z5 => ?_)]
                        rw [i_lt, sb sz p2] at z4
                        rw [i_le, sb tz q2] at z5
                        omega
          · have z : ¬ nI to = nI so := fun q => f1 ((nI_eqc (by omega) (by omega)).mp q)
            have z' : ¬ nI so = nI to := fun q => z q.symm
            refine ⟨-12, x, m, ?_, ?_, hR⟩
            · simp only [f_X8_shift, isShelfX, decide_eq_true c1, decide_eq_true c2, if_true, is6, it6, js, jt, g3, k3, g4, hf, decide_eq_false z]; rfl
            · have y1 : ¬ (2 : Int32) = 0 := by decide
              have y2 : ¬ (2 : Int32) = 1 := by decide
              simp only [f_X9_shift, isShelfM, decide_eq_true c1, decide_eq_true c2, if_true, is6, it6, js, jt, g1, k1, p4, q4, if_neg y1, if_neg y2, if_neg z']
    · refine ⟨-1, x, m, ?_, ?_, hR⟩
      · simp only [f_X8_shift, isShelfX, decide_eq_true c1, decide_eq_false c2, if_true]; rfl
      · simp only [f_X9_shift, isShelfM, decide_eq_true c1, decide_eq_false c2, if_true]; rfl
  · refine ⟨-1, x, m, ?_, ?_, hR⟩
    · simp only [f_X8_shift, isShelfX, decide_eq_false c1]; rfl
    · simp only [f_X9_shift, isShelfM, decide_eq_false c1]; rfl
