theorem cuff_adds {x : MX} {m : MM} (a b c : Int32) {nl nc ns nh : Nat} (h1 : RCnt nl nc ns x m) (h2 : RNum nl nc ns x m) (h3 : RIn nc x m) (h4 : RLed x m) (h5 : RKept nc x m) (h6 : RHist nl nc ns x m) (h7 : RTape x m) (h8 : RLaw x m) (h9 : RHole nh x m) (h10 : RShelf nh x m) (hn : nc < 6) (c1 : 0 ≤ a.toInt ∧ a.toInt ≤ 9) (c2 : 0 ≤ b.toInt ∧ b.toInt ≤ 9) (c3 : 0 ≤ c.toInt ∧ c.toInt ≤ 1) : f_X8_addCuff a b c x = some (nI nc, xs (xs (xs (xs (xs x 9 nc a) 10 nc b) 11 nc c) 12 nc 20) 5 13 (nI (nc + 1))) ∧ f_X9_adds a b c m = some (nI nc, ms (ms (ms (ms (ms (ms m 83 nc a) 84 nc b) 85 nc c) 86 nc 20) 87 nc (-2)) 80 1 (nI (nc + 1))) ∧ (RCnt nl (nc + 1) ns (xs (xs (xs (xs (xs x 9 nc a) 10 nc b) 11 nc c) 12 nc 20) 5 13 (nI (nc + 1))) (ms (ms (ms (ms (ms (ms m 83 nc a) 84 nc b) 85 nc c) 86 nc 20) 87 nc (-2)) 80 1 (nI (nc + 1))) ∧ RNum nl (nc + 1) ns (xs (xs (xs (xs (xs x 9 nc a) 10 nc b) 11 nc c) 12 nc 20) 5 13 (nI (nc + 1))) (ms (ms (ms (ms (ms (ms m 83 nc a) 84 nc b) 85 nc c) 86 nc 20) 87 nc (-2)) 80 1 (nI (nc + 1))) ∧ RIn (nc + 1) (xs (xs (xs (xs (xs x 9 nc a) 10 nc b) 11 nc c) 12 nc 20) 5 13 (nI (nc + 1))) (ms (ms (ms (ms (ms (ms m 83 nc a) 84 nc b) 85 nc c) 86 nc 20) 87 nc (-2)) 80 1 (nI (nc + 1))) ∧ RLed (xs (xs (xs (xs (xs x 9 nc a) 10 nc b) 11 nc c) 12 nc 20) 5 13 (nI (nc + 1))) (ms (ms (ms (ms (ms (ms m 83 nc a) 84 nc b) 85 nc c) 86 nc 20) 87 nc (-2)) 80 1 (nI (nc + 1))) ∧ RKept (nc + 1) (xs (xs (xs (xs (xs x 9 nc a) 10 nc b) 11 nc c) 12 nc 20) 5 13 (nI (nc + 1))) (ms (ms (ms (ms (ms (ms m 83 nc a) 84 nc b) 85 nc c) 86 nc 20) 87 nc (-2)) 80 1 (nI (nc + 1))) ∧ RHist nl (nc + 1) ns (xs (xs (xs (xs (xs x 9 nc a) 10 nc b) 11 nc c) 12 nc 20) 5 13 (nI (nc + 1))) (ms (ms (ms (ms (ms (ms m 83 nc a) 84 nc b) 85 nc c) 86 nc 20) 87 nc (-2)) 80 1 (nI (nc + 1))) ∧ RTape (xs (xs (xs (xs (xs x 9 nc a) 10 nc b) 11 nc c) 12 nc 20) 5 13 (nI (nc + 1))) (ms (ms (ms (ms (ms (ms m 83 nc a) 84 nc b) 85 nc c) 86 nc 20) 87 nc (-2)) 80 1 (nI (nc + 1))) ∧ RLaw (xs (xs (xs (xs (xs x 9 nc a) 10 nc b) 11 nc c) 12 nc 20) 5 13 (nI (nc + 1))) (ms (ms (ms (ms (ms (ms m 83 nc a) 84 nc b) 85 nc c) 86 nc 20) 87 nc (-2)) 80 1 (nI (nc + 1))) ∧ RHole nh (xs (xs (xs (xs (xs x 9 nc a) 10 nc b) 11 nc c) 12 nc 20) 5 13 (nI (nc + 1))) (ms (ms (ms (ms (ms (ms m 83 nc a) 84 nc b) 85 nc c) 86 nc 20) 87 nc (-2)) 80 1 (nI (nc + 1))) ∧ RShelf nh (xs (xs (xs (xs (xs x 9 nc a) 10 nc b) 11 nc c) 12 nc 20) 5 13 (nI (nc + 1))) (ms (ms (ms (ms (ms (ms m 83 nc a) 84 nc b) 85 nc c) 86 nc 20) 87 nc (-2)) 80 1 (nI (nc + 1)))) := by
  obtain ⟨⟨a1, a2, a3⟩, ⟨b1, b2, b3⟩, l1, l2, l3⟩ := id h1
  have i8 : inb (nI nc) 8 = true := inb_nI (by omega) (by decide)
  have i6 : inb (nI nc) 6 = true := inb_nI (by omega) (by decide)
  have j0 : ix (nI nc) = nc := ix_nI (by omega)
  refine ⟨?_, ?_, ?_, ?_, ?_, ?_, ?_, ?_, ?_, ?_, ?_, ?_⟩
  · simp [f_X8_addCuff, letx_s, a2, i8, j0, xi_xs, nI_1]
  · simp [f_X9_adds, letx_s, b2, i6, j0, mi_ms, nI_1]
  · exact ⟨⟨by simp [xi_xs, a1], by simp [xi_xs], by simp [xi_xs, a3]⟩, ⟨by simp [mi_ms, b1], by simp [mi_ms], by simp [mi_ms, b3]⟩, l1, by omega, l3⟩
  · have g1 : RNum nl nc ns (xs x 9 nc a) (ms m 83 nc a) := h2.up (w0 := 2) (k0 := nc) (v := a) (by decide) (fun w k _ _ => xnum_up (w0 := 2)) (fun w k hw _ => mnum_up (w0 := 2) (by decide) (by decide) (by decide) hw) (by first | decide | omega) (by show _ ≤ (9 : Int); first | decide | omega) (by show (0 : Int) ≤ _; first | decide | omega) (fun w k _ q => hol_sz l1 l2 l3 q)
    have g2 : RNum nl nc ns (xs (xs x 9 nc a) 10 nc b) (ms (ms m 83 nc a) 84 nc b) := g1.up (w0 := 3) (k0 := nc) (v := b) (by decide) (fun w k _ _ => xnum_up (w0 := 3)) (fun w k hw _ => mnum_up (w0 := 3) (by decide) (by decide) (by decide) hw) (by first | decide | omega) (by show _ ≤ (9 : Int); first | decide | omega) (by show (0 : Int) ≤ _; first | decide | omega) (fun w k _ q => hol_sz l1 l2 l3 q)
    have g3 : RNum nl nc ns (xs (xs (xs x 9 nc a) 10 nc b) 11 nc c) (ms (ms (ms m 83 nc a) 84 nc b) 85 nc c) := g2.up (w0 := 4) (k0 := nc) (v := c) (by decide) (fun w k _ _ => xnum_up (w0 := 4)) (fun w k hw _ => mnum_up (w0 := 4) (by decide) (by decide) (by decide) hw) (by first | decide | omega) (by show _ ≤ (1 : Int); first | decide | omega) (by show (0 : Int) ≤ _; first | decide | omega) (fun w k _ q => hol_sz l1 l2 l3 q)
    have g4 : RNum nl nc ns (xs (xs (xs (xs x 9 nc a) 10 nc b) 11 nc c) 12 nc 20) (ms (ms (ms (ms m 83 nc a) 84 nc b) 85 nc c) 86 nc 20) := g3.up (w0 := 5) (k0 := nc) (v := 20) (by decide) (fun w k _ _ => xnum_up (w0 := 5)) (fun w k hw _ => mnum_up (w0 := 5) (by decide) (by decide) (by decide) hw) (by first | decide | omega) (by show _ ≤ (99 : Int); first | decide | omega) (by show (0 : Int) ≤ _; first | decide | omega) (fun w k _ q => hol_sz l1 l2 l3 q)
    refine (((g4.grow (fun w k hw q1 q2 => ?_)).xs (Or.inl (by decide))).ms (h := 87) (Or.inr (Or.inl rfl))).ms (Or.inl ⟨rfl, by decide, by decide⟩)
    have hw2 : 2 ≤ w ∧ w ≤ 5 := by
      unfold hol at q1 q2
      by_cases z : w ≤ 1
      · rw [if_pos z] at q1 q2; omega
      · rw [if_neg z] at q1 q2
        by_cases z2 : w ≤ 5
        · omega
        · rw [if_neg z2] at q1 q2
          omega
    have hk : k = nc := by
      unfold hol at q1 q2
      rw [if_neg (by omega), if_pos hw2.2] at q1 q2
      omega
    subst hk
    have hw3 : w = 2 ∨ w = 3 ∨ w = 4 ∨ w = 5 := by omega
    rcases hw3 with rfl | rfl | rfl | rfl
    · show (0 : Int) ≤ (mi _ 83 k).toInt; simp [mi_ms]; omega
    · show (0 : Int) ≤ (mi _ 84 k).toInt; simp [mi_ms]; omega
    · show (0 : Int) ≤ (mi _ 85 k).toInt; simp [mi_ms]; omega
    · show (0 : Int) ≤ (mi _ 86 k).toInt; simp [mi_ms]
  · refine ⟨fun k hk => ?_, fun k g1 g2 => ?_⟩
    · by_cases e : k = nc
      · subst e
        have e9 : xi x 26 k = -2 := h3.2 k (Nat.le_refl _) (by omega)
        simp [xi_xs, mi_ms, e9]
      · have := h3.1 k (by omega)
        simp [xi_xs, mi_ms, e]
        exact this
    · have := h3.2 k (by omega) g2
      simp [xi_xs]
      exact this
  · exact h4.cg (fun k => by simp [xi_xs]) (by simp [mi_ms]) (by simp [mi_ms]) (by simp [mi_ms]) (by simp [mi_ms])
  · exact (h5.mono (by omega : nc ≤ nc + 1)).cg (by simp [mi_ms]) (by simp [xi_xs]) (fun k => by simp [xi_xs]) (fun k => by simp [xi_xs]) (fun k => by simp [xi_xs]) (fun k => by simp [mi_ms])
  · exact (h6.mono (Nat.le_refl _) (by omega : nc ≤ nc + 1) (Nat.le_refl _)).cg (by simp [xi_xs]) (by simp [xi_xs]) (by simp [mi_ms]) (by simp [mi_ms]) (fun k => by simp [xi_xs]) (fun k => by simp [xi_xs]) (fun k => by simp [xi_xs]) (fun k => by simp [xi_xs]) (fun k => by simp [mi_ms]) (fun k => by simp [mi_ms]) (fun k => by simp [mi_ms]) (fun k => by simp [mi_ms])
  · refine h7.cg rfl ?_ ?_ (fun k => ?_) (by simp [mi_ms]) (fun k => by simp [mi_ms])
    · rcases h7.2.1 with e | e <;> rw [e] <;> simp [xi_xs]
    · rcases h7.1 with e | e <;> rw [e] <;> simp [xi_xs]
    · rcases h7.2.1 with e | e <;> rw [e] <;> simp [xi_xs]
  · exact h8.cg (((((law_xs h7.1 (by decide)).tr (law_xs h7.1 (by decide))).tr (law_xs h7.1 (by decide))).tr (law_xs h7.1 (by decide))).tr (law_xs h7.1 (by decide))) ((((((law_ms (by decide) (by omega)).tr (law_ms (by decide) (by omega))).tr (law_ms (by decide) (by omega))).tr (law_ms (by decide) (by omega))).tr (law_ms (by decide) (by omega))).tr (law_ms (by decide) (by omega))) (by simp [mi_ms])
  · exact h9.cg (fun k _ _ => by simp [xi_xs]) (fun k => by simp [xi_xs]) (fun k => by simp [xi_xs]) (by simp [mi_ms]) (by simp [mi_ms]) (fun k => by simp [mi_ms]) (fun k => by simp [mi_ms])
  · exact h10.cg (fun s k hs => by rw [xi_xs, if_neg (by omega), xi_xs, if_neg (by omega), xi_xs, if_neg (by omega), xi_xs, if_neg (by omega), xi_xs, if_neg (by omega)]) (fun s k _ => rfl) (fun k => by simp [mi_ms]) (fun k => by simp [mi_ms]) (fun k => by simp [mi_ms]) (fun k => by simp [mi_ms]) (fun k => rfl)
theorem cmd_cuff {x : MX} {m : MM} (a b : Int32) (h : Rel x m) : ∃ r x' m', f_X8_cuff a b x = some (r, x') ∧ f_X9_cuff a b m = some (r, m') ∧ Rel x' m' := by
  have hR := h
  obtain ⟨nl, nc, ns, nh, h1, h2, h3, h4, h5, h6, h7, h8, h9, h10⟩ := h
  obtain ⟨⟨a1, a2, a3⟩, ⟨b1, b2, b3⟩, l1, l2, l3⟩ := id h1
  have e0 : f_X8_canBe 2 a = some (decide (0 ≤ a.toInt ∧ a.toInt ≤ 9)) := canBe_eq (w := 2) (by decide)
  have e1 : f_X8_canBe 3 b = some (decide (0 ≤ b.toInt ∧ b.toInt ≤ 9)) := canBe_eq (w := 3) (by decide)
  have k0 : f_X9_isIn a 0 9 = decide (0 ≤ a.toInt ∧ a.toInt ≤ 9) := by rw [isIn_eq]; rfl
  have k1 : f_X9_isIn b 0 9 = decide (0 ≤ b.toInt ∧ b.toInt ≤ 9) := by rw [isIn_eq]; rfl
  by_cases c1 : 0 ≤ a.toInt ∧ a.toInt ≤ 9
  · by_cases c2 : 0 ≤ b.toInt ∧ b.toInt ≤ 9
    · by_cases c3 : nc < 6
      · have q1 : nI nc < 6 := (nI_lt6 (c := 6) (by omega) (by decide)).mpr c3
        have q2 : ¬ nI nc = 6 := fun q => by have := (nI_eqc (c := 6) (by omega) (by decide)).mp q; omega
        obtain ⟨E1, E2, E3⟩ := cuff_adds a b 0 h1 h2 h3 h4 h5 h6 h7 h8 h9 h10 c3 c1 c2 (by decide)
        refine ⟨nI nc, _, _, ?_, ?_, nl, nc + 1, ns, nh, E3⟩
        · simp [f_X8_cuff, e0, e1, c1, c2, ob_s, ob2_s, a2, q1, E1]
        · simp [f_X9_cuff, k0, k1, c1, c2, ob2_s, b2, q2, E2]
      · have q1 : ¬ nI nc < 6 := fun q => c3 ((nI_lt6 (c := 6) (by omega) (by decide)).mp q)
        have q2 : nI nc = 6 := (nI_eqc (c := 6) (by omega) (by decide)).mpr (by omega)
        exact ⟨-3, x, m, by simp [f_X8_cuff, e0, e1, c1, c2, ob_s, a2, q1], by simp [f_X9_cuff, k0, k1, c1, c2, b2, q2], hR⟩
    · exact ⟨-1, x, m, by simp only [f_X8_cuff, e0, e1, ob_s, decide_eq_true c1, decide_eq_false c2]; rfl, by simp only [f_X9_cuff, k0, k1, decide_eq_true c1, decide_eq_false c2]; rfl, hR⟩
  · exact ⟨-1, x, m, by simp only [f_X8_cuff, e0, ob_s, decide_eq_false c1]; rfl, by simp only [f_X9_cuff, k0, decide_eq_false c1]; rfl, hR⟩
theorem cmd_body {x : MX} {m : MM} (a : Int32) (h : Rel x m) : ∃ r x' m', f_X8_body a x = some (r, x') ∧ f_X9_body a m = some (r, m') ∧ Rel x' m' := by
  have hR := h
  obtain ⟨nl, nc, ns, nh, h1, h2, h3, h4, h5, h6, h7, h8, h9, h10⟩ := h
  obtain ⟨⟨a1, a2, a3⟩, ⟨b1, b2, b3⟩, l1, l2, l3⟩ := id h1
  obtain ⟨u1, u2, u3, u4, u5, u6⟩ := id h9
  have k0 : f_X9_isIn a 0 7 = decide (0 ≤ a.toInt ∧ a.toInt ≤ 7) := by rw [isIn_eq]; rfl
  have k1 : f_X2_isKind a = decide (0 ≤ a.toInt ∧ a.toInt ≤ 7) := by
    unfold f_X2_isKind
    simp only [i_lt, i_le]
    by_cases z1 : a.toInt < 0
    · rw [if_pos (by simpa using z1), decide_eq_false (by omega)]
    · rw [if_neg (by simpa using z1)]
      by_cases z2 : 8 ≤ a.toInt
      · rw [if_pos (by simpa using z2), decide_eq_false (by omega)]
      · rw [if_neg (by simpa using z2), decide_eq_true (by omega)]
  by_cases c1 : 0 ≤ a.toInt ∧ a.toInt ≤ 7
  · by_cases c3 : nh < 50
    · have q1 : nI nh < 50 := (nI_lt6 (c := 50) (by omega) (by decide)).mpr c3
      have q2 : ¬ nI nh = 50 := fun q => by have := (nI_eqc (c := 50) (by omega) (by decide)).mp q; omega
      have i8 : inb (nI nh) 50 = true := inb_nI (by omega) (by decide)
      have j0 : ix (nI nh) = nh := ix_nI (by omega)
      have E1 : f_X8_body a x = some (nI nh, xs (xs x 52 nh a) 51 2 (nI (nh + 1))) := by
        simp [f_X8_body, k1, c1, letx_s, u2, q1, i8, j0, xi_xs, nI_1]
      have E2 : f_X9_body a m = some (nI nh, ms (ms m 103 nh a) 80 8 (nI (nh + 1))) := by
        simp [f_X9_body, k0, c1, letx_s, u3, q2, i8, j0, mi_ms, nI_1]
      refine ⟨_, _, _, E1, E2, nl, nc, ns, nh + 1, ?_, ?_, ?_, ?_, ?_, ?_, ?_, ?_, ?_, ?_⟩
      · exact h1.cg (by simp [xi_xs]) (by simp [xi_xs]) (by simp [xi_xs]) (by simp [mi_ms]) (by simp [mi_ms]) (by simp [mi_ms])
      · exact h2.cg (fun w k hw _ => by rw [xi_xs, if_neg (by omega), xi_xs, if_neg (by omega)]) (fun w k hw => by rw [mnum_ne hw (by omega), mnum_ne hw (by omega)])
      · exact h3.cg (fun k => by simp [xi_xs]) (fun k => by simp [mi_ms])
      · exact h4.cg (fun k => by simp [xi_xs]) (by simp [mi_ms]) (by simp [mi_ms]) (by simp [mi_ms]) (by simp [mi_ms])
      · exact h5.cg (by simp [mi_ms]) (by simp [xi_xs]) (fun k => by simp [xi_xs]) (fun k => by simp [xi_xs]) (fun k => by simp [xi_xs]) (fun k => by simp [mi_ms])
      · exact h6.cg (by simp [xi_xs]) (by simp [xi_xs]) (by simp [mi_ms]) (by simp [mi_ms]) (fun k => by simp [xi_xs]) (fun k => by simp [xi_xs]) (fun k => by simp [xi_xs]) (fun k => by simp [xi_xs]) (fun k => by simp [mi_ms]) (fun k => by simp [mi_ms]) (fun k => by simp [mi_ms]) (fun k => by simp [mi_ms])
      · refine h7.cg rfl ?_ ?_ (fun k => ?_) (by simp [mi_ms]) (fun k => by simp [mi_ms])
        · rcases h7.2.1 with e | e <;> rw [e] <;> simp [xi_xs]
        · rcases h7.1 with e | e <;> rw [e] <;> simp [xi_xs]
        · rcases h7.2.1 with e | e <;> rw [e] <;> simp [xi_xs]
      · exact h8.cg ((law_xs h7.1 (by decide)).tr (law_xs h7.1 (by decide))) ((law_ms (by decide) (by omega)).tr (law_ms (by decide) (by omega))) (by simp [mi_ms])
      · refine ⟨by omega, by simp [xi_xs], by simp [mi_ms], fun k hk => ?_, by simp [xi_xs, mi_ms, u5], fun k hk hr => ?_⟩
        · by_cases e : k = nh
          · subst e
            simp [xi_xs, mi_ms]
            omega
          · have := u4 k (by omega)
            simp [xi_xs, mi_ms, e]
            exact this
        · have := u6 k hk (by simpa [mi_ms] using hr)
          simp [xi_xs, mi_ms]
          exact this
      · exact RShelf.cg (fun s hs => (h10 s hs).mono (by omega : nh ≤ nh + 1)) (fun s k hs => by rw [xi_xs, if_neg (by omega), xi_xs, if_neg (by omega)]) (fun s k _ => rfl) (fun k => by simp [mi_ms]) (fun k => by simp [mi_ms]) (fun k => by simp [mi_ms]) (fun k => by simp [mi_ms]) (fun k => rfl)
    · have q1 : ¬ nI nh < 50 := fun q => c3 ((nI_lt6 (c := 50) (by omega) (by decide)).mp q)
      have q2 : nI nh = 50 := (nI_eqc (c := 50) (by omega) (by decide)).mpr (by omega)
      exact ⟨-3, x, m, by simp [f_X8_body, k1, c1, u2, q1], by simp [f_X9_body, k0, c1, u3, q2], hR⟩
  · exact ⟨-1, x, m, by simp only [f_X8_body, k1, decide_eq_false c1]; rfl, by simp only [f_X9_body, k0, decide_eq_false c1]; rfl, hR⟩
