def anyF (f : Nat → Int32) (v : Int32) : Nat → Nat → Bool
  | 0, _ => false
  | n + 1, j => if f j = v then true else anyF f v n (j + 1)
theorem anyF_cg {f g : Nat → Int32} {v : Int32} : ∀ (n j : Nat), (∀ k, j ≤ k → k < j + n → f k = g k) → anyF f v n j = anyF g v n j := by
  intro n
  induction n with
  | zero => intro _ _; rfl
  | succ n ih =>
    intro j h
    show (if f j = v then true else anyF f v n (j + 1)) = (if g j = v then true else anyF g v n (j + 1))
    rw [h j (Nat.le_refl _) (by omega), ih _ (fun k h1 h2 => h k (by omega) (by omega))]
theorem anyF_none {f : Nat → Int32} {v : Int32} : ∀ (n j : Nat), (∀ k, j ≤ k → k < j + n → ¬ f k = v) → anyF f v n j = false := by
  intro n
  induction n with
  | zero => intro _ _; rfl
  | succ n ih =>
    intro j h
    show (if f j = v then true else anyF f v n (j + 1)) = false
    rw [if_neg (h j (Nat.le_refl _) (by omega)), ih _ (fun k h1 h2 => h k (by omega) (by omega))]
theorem anyF_cut {f : Nat → Int32} {v : Int32} {b : Nat} : ∀ (a j : Nat), anyF f v b (j + a) = false → anyF f v (a + b) j = anyF f v a j := by
  intro a
  induction a with
  | zero =>
    intro j h
    rw [Nat.zero_add]
    exact h
  | succ a ih =>
    intro j h
    rw [show a + 1 + b = (a + b) + 1 by omega]
    show (if f j = v then true else anyF f v (a + b) (j + 1)) = (if f j = v then true else anyF f v a (j + 1))
    rw [ih (j + 1) (by rw [show j + 1 + a = j + (a + 1) by omega]; exact h)]
theorem isInX {x : MX} {v : Int32} : ∀ (n j fuel : Nat), j + n = 6 → n < fuel → f_X0_isIn_25_2 x fuel v (nI j) = some (anyF (xi x 26) v n j) := by
  intro n
  induction n with
  | zero =>
    intro j f hj hf
    obtain ⟨f, rfl⟩ : ∃ e, f = e + 1 := ⟨f - 1, by omega⟩
    have c : (6 : Int32) ≤ nI j := (nI_lec (n := 6) (by decide) (by omega)).mpr (by omega)
    show B_X0_isIn_25_2 _ _ _ _ = _
    unfold B_X0_isIn_25_2
    rw [if_pos c]
    rfl
  | succ n ih =>
    intro j f hj hf
    obtain ⟨f, rfl⟩ : ∃ e, f = e + 1 := ⟨f - 1, by omega⟩
    have c : ¬ (6 : Int32) ≤ nI j := fun q => by have := (nI_lec (n := 6) (by decide) (by omega)).mp q; omega
    show B_X0_isIn_25_2 _ _ _ _ = some (if xi x 26 j = v then true else anyF (xi x 26) v n (j + 1))
    unfold B_X0_isIn_25_2
    rw [if_neg c, if_pos (inb_nI (by omega) (by decide)), ix_nI (by omega), nI_1]
    by_cases d : xi x 26 j = v
    · rw [if_pos d, if_pos d]
    · rw [if_neg d, if_neg d]
      exact ih (j + 1) f (by omega) (by omega)
theorem isUsedM {m : MM} {v : Int32} {nc : Nat} (hc : nc ≤ 6) (h : mi m 80 1 = nI nc) : ∀ (n j fuel : Nat), j + n = nc → n < fuel → f_X9_isUsed_2 m fuel v (nI j) = some (anyF (mi m 87) v n j) := by
  intro n
  induction n with
  | zero =>
    intro j f hj hf
    obtain ⟨f, rfl⟩ : ∃ e, f = e + 1 := ⟨f - 1, by omega⟩
    have c : nI nc ≤ nI j := (nI_lec (by omega) (by omega)).mpr (by omega)
    show B_X9_isUsed_2 _ _ _ _ = _
    unfold B_X9_isUsed_2
    rw [h, if_pos c]
    rfl
  | succ n ih =>
    intro j f hj hf
    obtain ⟨f, rfl⟩ : ∃ e, f = e + 1 := ⟨f - 1, by omega⟩
    have c : ¬ nI nc ≤ nI j := fun q => by have := (nI_lec (by omega) (by omega)).mp q; omega
    show B_X9_isUsed_2 _ _ _ _ = some (if mi m 87 j = v then true else anyF (mi m 87) v n (j + 1))
    unfold B_X9_isUsed_2
    rw [h, if_neg c, if_pos (inb_nI (by omega) (by decide)), ix_nI (by omega), nI_1]
    by_cases d : mi m 87 j = v
    · rw [if_pos d, if_pos d]
    · rw [if_neg d, if_neg d]
      exact ih (j + 1) f (by omega) (by omega)
def putX (x : MX) (b a g : Nat) (t d : Int32) : MX := xs (xs (xs (xs x 26 b (nI a)) 27 0 (xi x 27 0 + t)) 27 1 (xi x 27 1 + 1)) 15 g d
def putM (m : MM) (b a g : Nat) (t d : Int32) : MM := ms (ms (ms (ms m 87 b (nI a)) 90 g d) 80 37 (mi m 80 37 + t)) 80 38 (mi m 80 38 + 1)
theorem put_rel {x : MX} {m : MM} (hR : Rel x m) {a b g : Nat} (ha : a < 6) {n c : Nat} (hb : b < c) (hc : xi x 5 13 = nI c) (hc6 : c ≤ 6) (hg : g < 2) {t d : Int32} (hd : 0 ≤ d.toInt ∧ d.toInt ≤ 99) : Rel (putX x b a g t d) (putM m b a g t d) := by
  obtain ⟨nl, nc, ns, nh, h1, h2, h3, h4, h5, h6, h7, h8, h9, h10⟩ := id hR
  have lc := h1.2.2.2.1
  have ec : c = nc := by
    have e := hc.symm.trans h1.1.2.1
    exact (nI_eqc (by omega) (by omega)).mp e
  subst ec
  refine ⟨nl, c, ns, nh, ?_⟩
  apply rest_in h1 h6 h7 h8 h9 h10
  · rfl
  · intro h k q
    unfold offX at q
    unfold putX
    rw [xi_xs, if_neg (by omega), xi_xs, if_neg (by omega), xi_xs, if_neg (by omega), xi_xs, if_neg (by omega)]
  · intro _ _; rfl
  · intro h k q
    unfold offI at q
    unfold putM
    rw [mi_ms, if_neg (by omega), mi_ms, if_neg (by omega), mi_ms, if_neg (by omega), mi_ms, if_neg (by omega)]
  · intro _ _; rfl
  · have s1 : RNum nl c ns (xs (xs (xs x 26 b (nI a)) 27 0 (xi x 27 0 + t)) 27 1 (xi x 27 1 + 1)) (ms m 87 b (nI a)) := (((h2.xs (by omega)).xs (by omega)).xs (by omega)).ms (by omega)
    have s2 : RNum nl c ns (putX x b a g t d) (ms (ms m 87 b (nI a)) 90 g d) := s1.up (w0 := 8) (k0 := g) (v := d) (by decide) (fun w k _ _ => xnum_up (w0 := 8)) (fun w k hw _ => mnum_up (w0 := 8) (by decide) (by decide) (by decide) hw) hd.1 (by show _ ≤ (99 : Int); omega) (by show (0 : Int) ≤ _; omega) (fun w k _ q => hol_sz h1.2.2.1 lc h1.2.2.2.2 q)
    exact (s2.ms (by omega)).ms (by omega)
  · refine ⟨fun i hi => ?_, fun i p1 p2 => ?_⟩
    · have A : xi (putX x b a g t d) 26 i = if i = b then nI a else xi x 26 i := by
        unfold putX
        rw [xi_xs, if_neg (by omega), xi_xs, if_neg (by omega), xi_xs, if_neg (by omega), xi_xs]
        simp
      have B : mi (putM m b a g t d) 87 i = if i = b then nI a else mi m 87 i := by
        unfold putM
        rw [mi_ms, if_neg (by omega), mi_ms, if_neg (by omega), mi_ms, if_neg (by omega), mi_ms]
        simp
      rw [A, B]
      by_cases e2 : i = b
      · rw [if_pos e2, if_pos e2, nI_int (by omega)]
        exact ⟨rfl, by omega, by omega⟩
      · rw [if_neg e2, if_neg e2]
        exact h3.1 i hi
    · unfold putX
      rw [xi_xs, if_neg (by omega), xi_xs, if_neg (by omega), xi_xs, if_neg (by omega), xi_xs, if_neg (by omega)]
      exact h3.2 i p1 p2
  · obtain ⟨l1, l2, l3, l4⟩ := h4
    unfold putX putM
    refine ⟨?_, ?_, ?_, ?_⟩
    · simp [xi_xs, mi_ms, l1]
    · simp [xi_xs, mi_ms, l2]
    · simpa [xi_xs, mi_ms] using l3
    · simpa [xi_xs, mi_ms] using l4
  · unfold putX putM
    exact h5.cg (by simp [mi_ms]) (by simp [xi_xs]) (fun k => by simp [xi_xs]) (fun k => by simp [xi_xs]) (fun k => by simp [xi_xs]) (fun k => by simp [mi_ms])
theorem cmd_puts {x : MX} {m : MM} (v : Int32) (hR : Rel x m) : ∃ r x' m', f_X8_puts v x = some (r, x') ∧ f_X9_puts v m = some (r, m') ∧ Rel x' m' := by
  obtain ⟨nl, nc, ns, nh, h1, h2, h3, h4, h5, h6, h7, h8, h9, h10⟩ := id hR
  obtain ⟨T, K⟩ := tk_ex hR
  have la := h1.2.2.1
  have lb := h1.2.2.2.1
  unfold f_X8_puts f_X9_puts
  rcases pair_eq h1 v with ⟨p1, p2⟩ | ⟨p1, p2, a, b, ha, hb, ea, eb⟩
  · rw [p1, p2]
    exact ⟨_, x, m, rfl, rfl, hR⟩
  · have i6 : inb (nI b) 6 = true := inb_nI (by omega) (by decide)
    have i8 : inb (nI b) 8 = true := inb_nI (by omega) (by decide)
    have jb : ix (nI b) = b := ix_nI (by omega)
    have e26 := (h3.1 b hb).1
    have u1 : f_X0_isIn_25 (nI a) x = some (anyF (xi x 26) (nI a) 6 0) := isInX 6 0 LF (by omega) (by unfold LF; omega)
    have u2 : f_X9_isUsed (nI a) m = some (anyF (mi m 87) (nI a) nc 0) := isUsedM lb h1.2.1.2.1 nc 0 LF (by omega) (by unfold LF; omega)
    have u3 : anyF (xi x 26) (nI a) 6 0 = anyF (mi m 87) (nI a) nc 0 := by
      rw [← anyF_cg nc 0 (f := xi x 26) (fun k _ hk => (h3.1 k (by omega)).1)]
      obtain ⟨d, hd⟩ : ∃ d, 6 = nc + d := ⟨6 - nc, by omega⟩
      rw [hd]
      refine anyF_cut nc 0 (anyF_none d (0 + nc) (fun k k1 k2 q => ?_))
      rw [h3.2 k (by omega) (by omega)] at q
      exact nI_neg (n := a) (by omega) (v := -2) (by decide) q.symm
    rw [p1, p2, ob_s, ob_s, if_pos rfl, if_pos rfl, ea, eb, if_pos i6, jb, e26, u1, u2, ob_s, ob_s, u3, if_pos i6]
    by_cases c : mi m 87 b = -2
    · rw [if_pos c, if_pos c]
      by_cases d : anyF (mi m 87) (nI a) nc 0 = true
      · rw [if_pos d, if_pos d]
        exact ⟨_, x, m, rfl, rfl, hR⟩
      · rw [if_neg d, if_neg d]
        obtain ⟨g1, g2⟩ := gh_lt K.1 (b := b) (by omega)
        obtain ⟨x1, E1, E2⟩ := nowX K (SameX.rf x) (a := a) (b := b) (by omega) (by omega)
        obtain ⟨m1, F1, F2⟩ := nowM K (SameM.rf m) (a := a) (b := b) (by omega) (by omega)
        have R1 := hR.same E2 F2
        have e11 : xi x1 11 b = nI (gh m b) := (tk_xnum K.1 E2 (w := 4) (k := b) (by decide) (show b < 6 by omega)).trans g2
        have e85 : mi m1 85 b = nI (gh m b) := (F2.2 _ _ rfl).trans g2
        have e15 : xi x1 15 (gh m b) = mi m 90 (gh m b) := tk_xnum K.1 E2 (w := 8) (k := gh m b) (by decide) g1
        have e90 : mi m1 90 (gh m b) = mi m 90 (gh m b) := F2.2 _ _ rfl
        have hd := tk_dn K.1 g1
        have e9 : (99 : Int32).toInt = 99 := by decide
        have e1 : (1 : Int32).toInt = 1 := by decide
        have es : (mi m 90 (gh m b) + 1).toInt = (mi m 90 (gh m b)).toInt + 1 := by rw [i_add (by rw [e1]; omega) (by rw [e1]; omega), e1]
        have hin : 0 ≤ (imin 99 (mi m 90 (gh m b) + 1)).toInt ∧ (imin 99 (mi m 90 (gh m b) + 1)).toInt ≤ 99 := by
          unfold imin
          simp only [i_lt, e9, es]
          split
          · rw [es]; omega
          · exact ⟨by decide, by decide⟩
        refine ⟨nowT m T a b, putX x1 b a (gh m b) (nowT m T a b) (imin 99 (mi m 90 (gh m b) + 1)), putM m1 b a (gh m b) (nowT m T a b) (imin 99 (mi m 90 (gh m b) + 1)), ?_, ?_, put_rel R1 (n := 0) (by omega) hb (cntX h1 E2).2.1 lb g1 hin⟩
        · rw [E1, ob2_s, if_pos i8, letx_s, letx_s, letx_s, e11, if_pos (inb_nI (by omega) (by decide)), ix_nI (by omega), letx_s]
          unfold putX
          have y1 : xi (xs x1 26 b (nI a)) 27 0 = xi x1 27 0 := by rw [xi_xs, if_neg (by omega)]
          have y2 : xi (xs (xs x1 26 b (nI a)) 27 0 (xi x1 27 0 + nowT m T a b)) 27 1 = xi x1 27 1 := by rw [xi_xs, if_neg (by omega), xi_xs, if_neg (by omega)]
          have y3 : xi (xs (xs (xs x1 26 b (nI a)) 27 0 (xi x1 27 0 + nowT m T a b)) 27 1 (xi x1 27 1 + 1)) 15 (gh m b) = mi m 90 (gh m b) := by rw [xi_xs, if_neg (by omega), xi_xs, if_neg (by omega), xi_xs, if_neg (by omega), e15]
          rw [y1, y2, y3]
        · have w1 : mi (ms m1 87 b (nI a)) 85 b = nI (gh m b) := by rw [mi_ms, if_neg (by omega), e85]
          have w2 : mi (ms m1 87 b (nI a)) 90 (gh m b) = mi m 90 (gh m b) := by rw [mi_ms, if_neg (by omega), e90]
          have key : ∀ z : Int32, B_X9_puts_90 (nowT m T a b) z (mi m 90 (gh m b)) (nI (gh m b)) (ms m1 87 b (nI a)) = some (nowT m T a b, putM m1 b a (gh m b) (nowT m T a b) (mi m 90 (gh m b) + z)) := by
            intro z
            unfold B_X9_puts_90 putM
            have y1 : mi (ms (ms m1 87 b (nI a)) 90 (gh m b) (mi m 90 (gh m b) + z)) 80 37 = mi m1 80 37 := by rw [mi_ms, if_neg (by omega), mi_ms, if_neg (by omega)]
            have y2 : mi (ms (ms (ms m1 87 b (nI a)) 90 (gh m b) (mi m 90 (gh m b) + z)) 80 37 (mi m1 80 37 + nowT m T a b)) 80 38 = mi m1 80 38 := by rw [mi_ms, if_neg (by omega), mi_ms, if_neg (by omega), mi_ms, if_neg (by omega)]
            rw [if_pos (inb_nI g1 (by decide)), ix_nI (by omega), letx_s, letx_s, letx_s, y1, y2]
          rw [F1, ob2_s, letx_s, w1, if_pos (inb_nI g1 (by decide)), ix_nI (by omega), w2]
          by_cases q : 99 ≤ mi m 90 (gh m b)
          · rw [if_pos q, key]
            congr 3
            unfold imin
            rw [i_le, e9] at q
            rw [if_neg (by rw [i_lt, e9, es]; omega), i_eq, Int32.add_zero, e9]
            omega
          · rw [if_neg q, key]
            congr 3
            unfold imin
            rw [i_le, e9] at q
            by_cases z : mi m 90 (gh m b) + 1 < 99
            · rw [if_pos z]
            · rw [if_neg z, i_eq, es, e9]
              rw [i_lt, e9, es] at z
              omega
    · rw [if_neg c, if_neg c]
      by_cases d : anyF (mi m 87) (nI a) nc 0 = true
      · rw [if_pos d]
        exact ⟨_, x, m, rfl, rfl, hR⟩
      · rw [if_neg d]
        exact ⟨_, x, m, rfl, rfl, hR⟩
