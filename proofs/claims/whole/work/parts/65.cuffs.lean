theorem nI_p2 {p : Nat} (h : p < 2147483645) : nI p + 2 = nI (p + 2) := by
  have e2 : (2 : Int32).toInt = 2 := by decide
  rw [i_eq, i_add (by rw [nI_int (by omega), e2]; omega) (by rw [nI_int (by omega), e2]; omega), nI_int (by omega), nI_int (by omega), e2]
  omega
theorem nI_p3 {p : Nat} (h : p < 2147483644) : nI p + 3 = nI (p + 3) := by
  have e3 : (3 : Int32).toInt = 3 := by decide
  rw [i_eq, i_add (by rw [nI_int (by omega), e3]; omega) (by rw [nI_int (by omega), e3]; omega), nI_int (by omega), nI_int (by omega), e3]
  omega
theorem cuffs_loop {s : Nat} (hs : s < 6) {a2 a3 : Int32} (ha : ¬ a2 < 0) : ∀ (n j f g : Nat) (pl : Int32) (x : MX) (m : MM), Rel x m → mi m 105 s = 2 → a3.toInt = j + n → j + n < 100 → n < f → n < g → a2 + 3 * nI j = pl → 0 ≤ pl.toInt → ∃ r x' m', f_X8_cuffs_53 f a2 a3 (68 + 2 * s) (nI j) x = some (r, x') ∧ f_X9_cuffs_60 g (nI s) a2 a3 (nI j) pl m = some (r, m') ∧ Rel x' m' := by
  intro n
  induction n with
  | zero =>
    intro j f g pl x m hR h2 h3 hj hf hg hp hp0
    obtain ⟨f, rfl⟩ : ∃ e, f = e + 1 := ⟨f - 1, by omega⟩
    obtain ⟨g, rfl⟩ : ∃ e, g = e + 1 := ⟨g - 1, by omega⟩
    have z : a3 ≤ nI j := by rw [i_le, nI_int (by omega)]; omega
    refine ⟨nI j, x, m, ?_, ?_, hR⟩
    · show B_X8_cuffs_53 _ _ _ _ _ _ = _
      unfold B_X8_cuffs_53
      rw [if_pos z]
    · show B_X9_cuffs_60 _ _ _ _ _ _ _ = _
      unfold B_X9_cuffs_60
      rw [if_pos z]
  | succ n ih =>
    intro j f g pl x m hR h105 h3 hj hf hg hp hp0
    obtain ⟨f, rfl⟩ : ∃ e, f = e + 1 := ⟨f - 1, by omega⟩
    obtain ⟨g, rfl⟩ : ∃ e, g = e + 1 := ⟨g - 1, by omega⟩
    have z : ¬ a3 ≤ nI j := by rw [i_le, nI_int (by omega)]; omega
    obtain ⟨nl, nc, ns, nh, h1, h2, h3', h4, h5, h6, h7, h8, h9, h10⟩ := id hR
    obtain ⟨⟨a1, b1, d1⟩, ⟨a2', b2, d2⟩, l1, l2, l3⟩ := id h1
    have i6 : inb (nI s) 6 = true := inb_nI hs (by decide)
    have j0 : ix (nI s) = s := ix_nI (by omega)
    have hnext : a2 + 3 * nI (j + 1) = pl + 3 := by
      rw [← nI_1, Int32.mul_add, ← Int32.add_assoc, hp]
      rfl
    obtain ⟨so, sz, p1, p2, p3, p4, p5, p6, p7, p8⟩ : ∃ so sz : Nat, so < 5 ∧ sz ≤ 60 ∧ xi x (68 + 2 * s) 1 = nI so ∧ mi m 106 s = nI so ∧ xi x (68 + 2 * s) 2 = nI sz ∧ mi m 107 s = nI sz ∧ (∀ i, f_X9_isElement (nI s) i m = some (decide (0 ≤ i.toInt ∧ i.toInt < sz))) ∧ ∀ k, k < 60 → xl x (68 + 2 * s + 1) k = ml m 109 (60 * s + k) ∧ (so = 1 → (Int64.toInt32 (ml m 109 (60 * s + k))).toInt64 = ml m 109 (60 * s + k)) := by
      rcases sh_case (h10 s hs) hs with ⟨g1, _⟩ | ⟨g1, _⟩ | ⟨g1, g2, g3, g4, g5, q⟩
      · rw [g1] at h105; exact absurd h105 (by decide)
      · rw [g1] at h105; exact absurd h105 (by decide)
      · exact q
    have e3 : (3 : Int32).toInt = 3 := by decide
    have hpl := hasPl (x := x) (H := 68 + 2 * s) (i := pl) (n := 3) p5 p2
    rw [e3] at hpl
    have sub3 : (nI sz - 3).toInt = (sz : Int) - 3 := by
      rw [i_sub (by rw [nI_int (by omega), e3]; omega) (by rw [nI_int (by omega), e3]; omega), nI_int (by omega), e3]
    have stop : f_X8_cameFrom (68 + 2 * s) pl x = some (false, x) → f_X8_cuffs_53 (f + 1) a2 a3 (68 + 2 * s) (nI j) x = some (nI j, x) := by
      intro e
      show B_X8_cuffs_53 _ _ _ _ _ _ = _
      unfold B_X8_cuffs_53
      rw [if_neg z, hp, e, ob2_s]
      rfl
    by_cases c6 : nc < 6
    · have q1 : ¬ 6 ≤ nI nc := fun q => by have := (nI_lec (n := 6) (c := nc) (by decide) (by omega)).mp q; omega
      have q2 : ¬ nI nc = 6 := fun q => by have := (nI_eqc (n := nc) (c := 6) (by omega) (by decide)).mp q; omega
      by_cases cp : 0 ≤ pl.toInt ∧ 3 ≤ (sz : Int) ∧ pl.toInt ≤ (sz : Int) - 3
      · rw [decide_eq_true ⟨cp.1, by decide, cp.2⟩] at hpl
        have z2 : ¬ (nI sz - 3) < pl := by rw [i_lt, sub3]; omega
        obtain ⟨p, hp6, rfl⟩ := nI_ex (a := pl) (n := 58) cp.1 (by omega)
        obtain ⟨y1, hy1⟩ : ∃ y, y = Int64.toInt32 (ml m 109 (60 * s + p)) := ⟨_, rfl⟩
        obtain ⟨y2, hy2⟩ : ∃ y, y = Int64.toInt32 (ml m 109 (60 * s + (p + 1))) := ⟨_, rfl⟩
        obtain ⟨y3, hy3⟩ : ∃ y, y = Int64.toInt32 (ml m 109 (60 * s + (p + 2))) := ⟨_, rfl⟩
        have t1 : f_X9_intAt (nI s) (nI p) m = some y1 := by
          unfold f_X9_intAt
          rw [cellix hs (by omega), if_pos (inb_nI (by omega) (by decide)), ix_nI (by omega), hy1]
        have t2 : f_X9_intAt (nI s) (nI p + 1) m = some y2 := by
          unfold f_X9_intAt
          rw [nI_1, cellix hs (by omega), if_pos (inb_nI (by omega) (by decide)), ix_nI (by omega), hy2]
        have t3 : f_X9_intAt (nI s) (nI p + 2) m = some y3 := by
          unfold f_X9_intAt
          rw [nI_p2 (by omega), cellix hs (by omega), if_pos (inb_nI (by omega) (by decide)), ix_nI (by omega), hy3]
        have u1 : Int64.toInt32 (xl x (68 + 2 * s + 1) p) = y1 := by rw [(p8 p (by omega)).1, hy1]
        have u2 : Int64.toInt32 (xl x (68 + 2 * s + 1) (p + 1)) = y2 := by rw [(p8 (p + 1) (by omega)).1, hy2]
        have u3 : Int64.toInt32 (xl x (68 + 2 * s + 1) (p + 2)) = y3 := by rw [(p8 (p + 2) (by omega)).1, hy3]
        have k1 : f_X8_canBe 2 y1 = some (decide (0 ≤ y1.toInt ∧ y1.toInt ≤ 9)) := canBe_eq (w := 2) (by decide)
        have k2 : f_X8_canBe 3 y2 = some (decide (0 ≤ y2.toInt ∧ y2.toInt ≤ 9)) := canBe_eq (w := 3) (by decide)
        have k3 : f_X8_canBe 4 y3 = some (decide (0 ≤ y3.toInt ∧ y3.toInt ≤ 1)) := canBe_eq (w := 4) (by decide)
        have v1 : f_X9_isIn y1 0 9 = decide (0 ≤ y1.toInt ∧ y1.toInt ≤ 9) := by rw [isIn_eq]; rfl
        have v2 : f_X9_isIn y2 0 9 = decide (0 ≤ y2.toInt ∧ y2.toInt ≤ 9) := by rw [isIn_eq]; rfl
        have v3 : f_X9_isIn y3 0 1 = decide (0 ≤ y3.toInt ∧ y3.toInt ≤ 1) := by rw [isIn_eq]; rfl
        have cf : f_X8_cameFrom (68 + 2 * s) (nI p) x = if decide (0 ≤ y1.toInt ∧ y1.toInt ≤ 9) = true then (if decide (0 ≤ y2.toInt ∧ y2.toInt ≤ 9) = true then (if decide (0 ≤ y3.toInt ∧ y3.toInt ≤ 1) = true then ob2 (f_X8_addCuff y1 y2 y3 x) (fun _ x19 => some (true, x19)) else some (false, x)) else some (false, x)) else some (false, x) := by
          unfold f_X8_cameFrom
          rw [b1, if_neg q1, hpl, if_pos rfl, if_pos (inb_nI (by omega) (by decide)), ix_nI (by omega), nI_1, letx_s, if_pos (inb_nI (by omega) (by decide)), ix_nI (by omega), nI_p2 (by omega), letx_s, if_pos (inb_nI (by omega) (by decide)), ix_nI (by omega), letx_s, u1, u2, u3, k1, ob_s, k2, ob_s, k3, ob_s]
        have cM : f_X9_cuffs_60 (g + 1) (nI s) a2 a3 (nI j) (nI p) m = if decide (0 ≤ y1.toInt ∧ y1.toInt ≤ 9) = true then (if decide (0 ≤ y2.toInt ∧ y2.toInt ≤ 9) = true then (if decide (0 ≤ y3.toInt ∧ y3.toInt ≤ 1) = true then ob2 (f_X9_adds y1 y2 y3 m) (fun _ m22 => f_X9_cuffs_60 g (nI s) a2 a3 (nI (j + 1)) (nI p + 3) m22) else some (nI j, m)) else some (nI j, m)) else some (nI j, m) := by
          show B_X9_cuffs_60 _ _ _ _ _ _ _ = _
          unfold B_X9_cuffs_60
          rw [if_neg z, if_neg ha, if_pos i6, j0, p6, if_neg z2, b2, if_neg q2, t1, ob_s, t2, ob_s, t3, ob_s, v1, v2, v3, nI_1]
        by_cases w1 : 0 ≤ y1.toInt ∧ y1.toInt ≤ 9
        · by_cases w2 : 0 ≤ y2.toInt ∧ y2.toInt ≤ 9
          · by_cases w3 : 0 ≤ y3.toInt ∧ y3.toInt ≤ 1
            · obtain ⟨E1, E2, E3⟩ := cuff_adds y1 y2 y3 h1 h2 h3' h4 h5 h6 h7 h8 h9 h10 c6 w1 w2 w3
              rw [decide_eq_true w1, decide_eq_true w2, decide_eq_true w3, if_pos rfl, if_pos rfl, if_pos rfl] at cf cM
              rw [E1, ob2_s] at cf
              rw [E2, ob2_s] at cM
              obtain ⟨r, x', m', r1, r2, r3⟩ := ih (j + 1) f g (nI p + 3) _ _ ⟨nl, nc + 1, ns, nh, E3⟩ (by simp [mi_ms, h105]) (by omega) (by omega) (by omega) (by omega) hnext (by rw [nI_p3 (by omega), nI_int (by omega)]; omega)
              refine ⟨r, x', m', ?_, ?_, r3⟩
              · show B_X8_cuffs_53 _ _ _ _ _ _ = _
                unfold B_X8_cuffs_53
                rw [if_neg z, hp, cf, ob2_s, if_pos rfl, nI_1]
                exact r1
              · rw [cM]
                exact r2
            · rw [decide_eq_true w1, decide_eq_true w2, decide_eq_false w3] at cf cM
              exact ⟨nI j, x, m, stop cf, cM, hR⟩
          · rw [decide_eq_true w1, decide_eq_false w2] at cf cM
            exact ⟨nI j, x, m, stop cf, cM, hR⟩
        · rw [decide_eq_false w1] at cf cM
          exact ⟨nI j, x, m, stop cf, cM, hR⟩
      · rw [decide_eq_false (fun q => cp ⟨q.1, q.2.2⟩)] at hpl
        have z2 : (nI sz - 3) < pl := by rw [i_lt, sub3]; omega
        refine ⟨nI j, x, m, stop ?_, ?_, hR⟩
        · unfold f_X8_cameFrom
          rw [b1, if_neg q1, hpl]; rfl
        · show B_X9_cuffs_60 _ _ _ _ _ _ _ = _
          unfold B_X9_cuffs_60
          rw [if_neg z, if_neg ha, if_pos i6, j0, p6, if_pos z2]
    · have e6 : nc = 6 := by omega
      subst e6
      refine ⟨nI j, x, m, stop ?_, ?_, hR⟩
      · unfold f_X8_cameFrom
        rw [b1, if_pos (show (6 : Int32) ≤ nI 6 by decide)]
      · show B_X9_cuffs_60 _ _ _ _ _ _ _ = _
        unfold B_X9_cuffs_60
        rw [if_neg z, if_neg ha, if_pos i6, b2, if_pos (show nI 6 = 6 by decide)]
        split <;> rfl
theorem cmd_cuffs {x : MX} {m : MM} (a b c : Int32) (h : Rel x m) : ∃ r x' m', f_X8_cuffs a b c x = some (r, x') ∧ f_X9_cuffs a b c m = some (r, m') ∧ Rel x' m' := by
  have hR := h
  obtain ⟨nl, nc, ns, nh, h1, h2, h3, h4, h5, h6, h7, h8, h9, h10⟩ := h
  have e0 : (0 : Int32).toInt = 0 := by decide
  have e1 : (1 : Int32).toInt = 1 := by decide
  have e6 : (6 : Int32).toInt = 6 := by decide
  have k0 : f_X9_isIn c 1 6 = decide (1 ≤ c.toInt ∧ c.toInt ≤ 6) := by rw [isIn_eq]; rfl
  by_cases c1 : 0 ≤ a.toInt ∧ a.toInt < (6 : Nat)
  · by_cases c2 : 1 ≤ c.toInt ∧ c.toInt ≤ 6
    · obtain ⟨s, hs, rfl⟩ := nI_ex c1.1 c1.2
      have i6 : inb (nI s) 6 = true := inb_nI hs (by decide)
      have j0 : ix (nI s) = s := ix_nI (by omega)
      have y1 : ¬ c < 1 := by rw [i_lt, e1]; omega
      have y2 : c ≤ 6 := by rw [i_le, e6]; omega
      rcases sh_case (h10 s hs) hs with ⟨g1, g2, g3, g4, g5⟩ | ⟨g1, g2, g3, g4, g5, g6, g7⟩ | ⟨g1, g2, g3, g4, g5, so, sz, p1, p2, p3, p4, p5, p6, p7, p8⟩
      · refine ⟨0, x, m, ?_, ?_, hR⟩
        · simp only [f_X8_cuffs, isShelfX, decide_eq_true c1, if_true, if_neg y1, if_pos y2, i6, j0, g3]
        · simp only [f_X9_cuffs, isShelfM, decide_eq_true c1, if_true, k0, decide_eq_true c2, i6, j0, g1]
      · have hf : f_X6_holdsRowOf (68 + 2 * s) 0 x = false := by
          unfold f_X6_holdsRowOf
          rw [g6, isSortX]; rfl
        refine ⟨-12, x, m, ?_, ?_, hR⟩
        · simp only [f_X8_cuffs, isShelfX, decide_eq_true c1, if_true, if_neg y1, if_pos y2, i6, j0, g3, hf]; rfl
        · simp only [f_X9_cuffs, isShelfM, decide_eq_true c1, if_true, k0, decide_eq_true c2, i6, j0, g1]; rfl
      · have hf := holdsOf (v := 0) p3 p1
        have n0 : ¬ (2 : Int32) = 0 := by decide
        by_cases f0 : nI so = 0
        · rw [decide_eq_true f0] at hf
          have EX : f_X8_cuffs (nI s) b c x = f_X8_cuffs_53 LF b c (68 + 2 * s) 0 x := by
            simp only [f_X8_cuffs, isShelfX, decide_eq_true c1, if_true, if_neg y1, if_pos y2, i6, j0, g3, hf]
            rfl
          have EM : f_X9_cuffs (nI s) b c m = f_X9_cuffs_60 LF (nI s) b c 0 b m := by
            simp only [f_X9_cuffs, isShelfM, decide_eq_true c1, if_true, k0, decide_eq_true c2, i6, j0, g1, if_neg n0, p4, f0]
          rw [EX, EM]
          have z1 : ¬ c ≤ 0 := by rw [i_le, e0]; omega
          by_cases hb : b < 0
          · have hb' : b.toInt < 0 := by rw [i_lt, e0] at hb; exact hb
            have eb : b + 3 * 0 = b := by
              rw [show (3 : Int32) * 0 = 0 from rfl, i_eq, i_add] <;> (have := i_lo b; rw [e0]) <;> omega
            have hpl := hasPl (x := x) (H := 68 + 2 * s) (i := b) (n := 3) p5 p2
            rw [decide_eq_false (by omega)] at hpl
            refine ⟨0, x, m, ?_, ?_, hR⟩
            · show B_X8_cuffs_53 _ _ _ _ _ _ = _
              unfold B_X8_cuffs_53 f_X8_cameFrom
              rw [if_neg z1, eb, hpl]
              split <;> rfl
            · show B_X9_cuffs_60 _ _ _ _ _ _ _ = _
              unfold B_X9_cuffs_60
              rw [if_neg z1, if_pos hb]
          · have hb' : 0 ≤ b.toInt := by rw [i_lt, e0] at hb; omega
            have eb : b + 3 * nI 0 = b := by
              rw [show (3 : Int32) * nI 0 = 0 from rfl, i_eq, i_add] <;> (have := i_hi b; rw [e0]) <;> omega
            exact cuffs_loop hs hb c.toInt.toNat 0 LF LF b x m hR g1 (by omega) (by omega) (by unfold LF; omega) (by unfold LF; omega) eb hb'
        · rw [decide_eq_false f0] at hf
          refine ⟨-12, x, m, ?_, ?_, hR⟩
          · simp only [f_X8_cuffs, isShelfX, decide_eq_true c1, if_true, if_neg y1, if_pos y2, i6, j0, g3, hf]; rfl
          · simp only [f_X9_cuffs, isShelfM, decide_eq_true c1, if_true, k0, decide_eq_true c2, i6, j0, g1, if_neg n0, p4, if_neg f0]
    · refine ⟨-1, x, m, ?_, ?_, hR⟩
      · by_cases y1 : c < 1
        · simp only [f_X8_cuffs, isShelfX, decide_eq_true c1, if_true, if_pos y1]
        · have y2 : ¬ c ≤ 6 := by rw [i_lt, e1] at y1; rw [i_le, e6]; omega
          simp only [f_X8_cuffs, isShelfX, decide_eq_true c1, if_true, if_neg y1, if_neg y2]
      · simp only [f_X9_cuffs, isShelfM, decide_eq_true c1, if_true, k0, decide_eq_false c2]; rfl
  · exact ⟨-1, x, m, by simp only [f_X8_cuffs, isShelfX, decide_eq_false c1]; rfl, by simp only [f_X9_cuffs, isShelfM, decide_eq_false c1]; rfl, hR⟩
