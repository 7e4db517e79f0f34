def Ans (X : Option (Int32 × MX)) (x : MX) (M : Option (Int32 × MM)) (m : MM) : Prop := ∃ r, X = some (r, x) ∧ M = some (r, m)
theorem drawnIn {x : MX} {m : MM} (h1 : xi x 16 0 = mi m 80 3) (h2 : xi x 17 0 = mi m 80 4) {KX : Int32 → Int32 → Int32 → Int32 → Int32 → Int32 → Int32 → MX → Option (Int32 × MX)} {KM : Int32 → Int32 → Int32 → Int32 → Int32 → Int32 → Int32 → MM → Option (Int32 × MM)} {N w s e : Int32} (hK : ∀ z u l, Ans (KX N w s z u l (e + 1) x) x (KM N w z s u l (e + 1) m) m) : ∀ (n j f g : Nat) (z u l bx bm : Int32), j + n = 20 → n < f → n < g → (bx = 0 ∧ bm = 1) ∨ (bx = 1 ∧ bm = 0) → Ans (f_X8_drawn_67 KX f N w s z u l e bx (nI j) x) x (f_X9_drawn_70 KM g N w z s u l e bm (nI j) m) m := by
  have fin : ∀ z u l bx bm : Int32, (bx = 0 ∧ bm = 1) ∨ (bx = 1 ∧ bm = 0) → Ans (B_X8_drawn_150 KX N w s z u l e bx x) x (B_X9_drawn_143 KM N w z s u l e bm m) m := by
    intro z u l bx bm hb
    rcases hb with ⟨rfl, rfl⟩ | ⟨rfl, rfl⟩
    · exact hK z u (l + 1)
    · have q := hK z u l
      have e : l + f_X9_one 0 = l := Int32.add_zero l
      unfold B_X9_drawn_143
      rw [e]
      exact q
  intro n
  induction n with
  | zero =>
    intro j f g z u l bx bm hj hf hg hb
    obtain ⟨f, rfl⟩ : ∃ e, f = e + 1 := ⟨f - 1, by omega⟩
    obtain ⟨g, rfl⟩ : ∃ e, g = e + 1 := ⟨g - 1, by omega⟩
    have c : (20 : Int32) ≤ nI j := (nI_lec (n := 20) (by decide) (by omega)).mpr (by omega)
    show Ans (B_X8_drawn_67 _ _ _ _ _ _ _ _ _ _ _ _) x (B_X9_drawn_70 _ _ _ _ _ _ _ _ _ _ _ _) m
    unfold B_X8_drawn_67 B_X9_drawn_70
    rw [if_pos c, if_pos c]
    exact fin z u l bx bm hb
  | succ n ih =>
    intro j f g z u l bx bm hj hf hg hb
    obtain ⟨f, rfl⟩ : ∃ e, f = e + 1 := ⟨f - 1, by omega⟩
    obtain ⟨g, rfl⟩ : ∃ e, g = e + 1 := ⟨g - 1, by omega⟩
    have c : ¬ (20 : Int32) ≤ nI j := fun q => by have := (nI_lec (n := 20) (by decide) (by omega)).mp q; omega
    show Ans (B_X8_drawn_67 _ _ _ _ _ _ _ _ _ _ _ _) x (B_X9_drawn_70 _ _ _ _ _ _ _ _ _ _ _ _) m
    unfold B_X8_drawn_67 B_X9_drawn_70
    rw [if_neg c, if_neg c]
    rcases hb with ⟨rfl, rfl⟩ | ⟨rfl, rfl⟩
    · rw [if_pos rfl, if_neg (show ¬ (1 : Int32) = 0 by decide), letx_s, letx_s, h1]
      unfold B_X8_drawn_115 B_X9_drawn_114 B_X8_drawn_141 B_X9_drawn_133
      by_cases d : iush (z * 1103515245 + 12345) 8 % 12 < mi m 80 3
      · have d2 : ¬ mi m 80 3 ≤ iush (z * 1103515245 + 12345) 8 % 12 := by rw [i_le]; rw [i_lt] at d; omega
        rw [if_pos d, if_neg d2, if_pos rfl, if_neg (show ¬ (1 : Int32) = 0 by decide), h2, nI_1]
        exact ih (j + 1) f g _ _ _ 0 1 (by omega) (by omega) (by omega) (Or.inl ⟨rfl, rfl⟩)
      · have d2 : mi m 80 3 ≤ iush (z * 1103515245 + 12345) 8 % 12 := by rw [i_le]; rw [i_lt] at d; omega
        rw [if_neg d, if_pos d2, if_neg (show ¬ (1 : Int32) = 0 by decide), if_pos rfl, Int32.add_zero, nI_1]
        exact ih (j + 1) f g _ _ _ 1 0 (by omega) (by omega) (by omega) (Or.inr ⟨rfl, rfl⟩)
    · rw [if_neg (show ¬ (1 : Int32) = 0 by decide), if_pos rfl]
      exact fin z u l 1 0 (Or.inr ⟨rfl, rfl⟩)
theorem drawnOut {x : MX} {m : MM} (h1 : xi x 16 0 = mi m 80 3) (h2 : xi x 17 0 = mi m 80 4) {N : Nat} (hN : N ≤ 50) {w s : Int32} : ∀ (n j f g : Nat) (z u l : Int32), j + n = N → n < f → n < g → Ans (f_X8_drawn_55 f (nI N) w s z u l (nI j) x) x (f_X9_drawn_58 g (nI N) w z s u l (nI j) m) m := by
  intro n
  induction n with
  | zero =>
    intro j f g z u l hj hf hg
    obtain ⟨f, rfl⟩ : ∃ e, f = e + 1 := ⟨f - 1, by omega⟩
    obtain ⟨g, rfl⟩ : ∃ e, g = e + 1 := ⟨g - 1, by omega⟩
    have c : nI N ≤ nI j := (nI_lec (by omega) (by omega)).mpr (by omega)
    show Ans (B_X8_drawn_55 _ _ _ _ _ _ _ _ _) x (B_X9_drawn_58 _ _ _ _ _ _ _ _ _) m
    unfold B_X8_drawn_55 B_X9_drawn_58
    rw [if_pos c, if_pos c]
    by_cases d : w = 0
    · rw [if_pos d, if_pos d]
      exact ⟨u, rfl, rfl⟩
    · rw [if_neg d, if_neg d]
      exact ⟨l, rfl, rfl⟩
  | succ n ih =>
    intro j f g z u l hj hf hg
    obtain ⟨f, rfl⟩ : ∃ e, f = e + 1 := ⟨f - 1, by omega⟩
    obtain ⟨g, rfl⟩ : ∃ e, g = e + 1 := ⟨g - 1, by omega⟩
    have c : ¬ nI N ≤ nI j := fun q => by have := (nI_lec (by omega) (by omega)).mp q; omega
    show Ans (B_X8_drawn_55 _ _ _ _ _ _ _ _ _) x (B_X9_drawn_58 _ _ _ _ _ _ _ _ _) m
    unfold B_X8_drawn_55 B_X9_drawn_58
    rw [if_neg c, if_neg c]
    refine drawnIn h1 h2 (fun z u l => ?_) 20 0 LF LF z u l 0 1 (by omega) (by unfold LF; omega) (by unfold LF; omega) (Or.inl ⟨rfl, rfl⟩)
    rw [nI_1]
    exact ih (j + 1) f g z u l (by omega) (by omega) (by omega)
theorem cmd_drawn {x : MX} {m : MM} (v z a w : Int32) (hR : Rel x m) : ∃ r x' m', f_X8_drawn v z a w x = some (r, x') ∧ f_X9_drawn v z a w m = some (r, m') ∧ Rel x' m' := by
  obtain ⟨nl, nc, ns, nh, h1, h2, h3⟩ := id hR
  obtain ⟨T, K⟩ := tk_ex hR
  have e1 : (1 : Int32).toInt = 1 := by decide
  have e5 : (50 : Int32).toInt = 50 := by decide
  have la := h1.2.2.1
  have lb := h1.2.2.2.1
  have k0 : f_X9_isIn a 1 50 = decide (1 ≤ a.toInt ∧ a.toInt ≤ 50) := by rw [isIn_eq, e1, e5]
  unfold f_X8_drawn f_X9_drawn
  rw [partX, k0]
  rcases pair_eq h1 v with ⟨p1, p2⟩ | ⟨p1, p2, p, q, hp, hq, ep, eq⟩
  · rw [p1, p2]
    exact ⟨_, x, m, rfl, rfl, hR⟩
  · rw [p1, p2, ob_s, ob_s, if_pos rfl, if_pos rfl, ep, eq]
    by_cases d : 1 ≤ a.toInt ∧ a.toInt ≤ 50
    · have g1 : ¬ a < 1 := by rw [i_lt, e1]; omega
      have g2 : ¬ (50 : Int32) < a := by rw [i_lt, e5]; omega
      rw [if_neg g1, if_neg g2, decide_eq_true d, if_pos rfl]
      by_cases c : f_X9_isIn w 0 1 = true
      · rw [if_pos c, if_pos c]
        obtain ⟨x1, E1, E2⟩ := nowX K (SameX.rf x) (a := p) (b := q) (by omega) (by omega)
        obtain ⟨m1, F1, F2⟩ := nowM K (SameM.rf m) (a := p) (b := q) (by omega) (by omega)
        obtain ⟨dp, dq, hp2, hq2, d1, d2, d3, d4⟩ := tk_dr hR
        obtain ⟨N, hN, rfl⟩ := nI_ex (a := a) (n := 51) (by omega) (by omega)
        have f1 : xi x1 16 0 = mi m1 80 3 := ((E2.2.2 _ _ rfl).trans d3).trans ((F2.2 _ _ rfl).trans d1).symm
        have f2 : xi x1 17 0 = mi m1 80 4 := ((E2.2.2 _ _ rfl).trans d4).trans ((F2.2 _ _ rfl).trans d2).symm
        obtain ⟨r, r1, r2⟩ := drawnOut f1 f2 (N := N) (by omega) (w := w) (s := nowT m T p q) N 0 LF LF z 0 0 (by omega) (by unfold LF; omega) (by unfold LF; omega)
        refine ⟨r, x1, m1, ?_, ?_, hR.same E2 F2⟩
        · rw [E1, ob2_s]
          exact r1
        · rw [F1, ob2_s]
          exact r2
      · rw [if_neg c, if_neg c]
        exact ⟨_, x, m, rfl, rfl, hR⟩
    · refine ⟨-1, x, m, ?_, ?_, hR⟩
      · by_cases g1 : a < 1
        · rw [if_pos g1]
        · rw [if_neg g1, if_pos]
          rw [i_lt, e1] at g1
          rw [i_lt, e5]
          omega
      · rw [decide_eq_false d]; rfl
