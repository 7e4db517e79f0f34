theorem rest_text {nl nc ns nh : Nat} {x x' : MX} {m m' : MM} (h1 : RCnt nl nc ns x m) (h2 : RNum nl nc ns x m) (h3 : RIn nc x m) (h4 : RLed x m) (h5 : RKept nc x m) (h6 : RHist nl nc ns x m) (h9 : RHole nh x m) (h10 : RShelf nh x m) (b : ∀ h k, h < 56 ∨ 67 < h → xi x' h k = xi x h k) (bl : ∀ h k, xl x' h k = xl x h k) (c : ∀ h k, h ≠ 93 → h ≠ 94 → ¬ (h = 80 ∧ (k = 5 ∨ k = 6 ∨ k = 9)) → mi m' h k = mi m h k) (cl : ∀ h k, ml m' h k = ml m h k) :
    RTape x' m' → RLaw x' m' → RCnt nl nc ns x' m' ∧ RNum nl nc ns x' m' ∧ RIn nc x' m' ∧ RLed x' m' ∧ RKept nc x' m' ∧ RHist nl nc ns x' m' ∧ RTape x' m' ∧ RLaw x' m' ∧ RHole nh x' m' ∧ RShelf nh x' m' := by
  intro hT hL
  have X : ∀ h k, h < 56 ∨ 67 < h → xi x' h k = xi x h k := b
  have M : ∀ h k, h ≠ 93 → h ≠ 94 → ¬ (h = 80 ∧ (k = 5 ∨ k = 6 ∨ k = 9)) → mi m' h k = mi m h k := c
  refine ⟨?_, ?_, ?_, ?_, ?_, ?_, hT, hL, ?_, ?_⟩
  · exact h1.cg (X _ _ (by decide)) (X _ _ (by decide)) (X _ _ (by decide)) (M _ _ (by decide) (by decide) (by decide)) (M _ _ (by decide) (by decide) (by decide)) (M _ _ (by decide) (by decide) (by decide))
  · refine h2.cg (fun w k hw _ => X _ _ (by omega)) (fun w k hw => ?_)
    match w, hw with
    | 0, _ | 1, _ | 2, _ | 3, _ | 4, _ | 5, _ | 6, _ | 7, _ | 8, _ | 9, _ | 10, _ | 11, _ | 12, _ => exact M _ _ (by omega) (by omega) (by omega)
  · exact h3.cg (fun k => X _ _ (by decide)) (fun k => M _ _ (by omega) (by omega) (by omega))
  · exact h4.cg (fun k => X _ _ (by decide)) (M _ _ (by decide) (by decide) (by decide)) (M _ _ (by decide) (by decide) (by decide)) (M _ _ (by decide) (by decide) (by decide)) (M _ _ (by decide) (by decide) (by decide))
  · exact h5.cg (M _ _ (by decide) (by decide) (by decide)) (X _ _ (by decide)) (fun k => X _ _ (by decide)) (fun k => X _ _ (by decide)) (fun k => X _ _ (by decide)) (fun k => M _ _ (by omega) (by omega) (by omega))
  · exact h6.cg (X _ _ (by decide)) (X _ _ (by decide)) (M _ _ (by decide) (by decide) (by decide)) (M _ _ (by decide) (by decide) (by decide)) (fun k => X _ _ (by decide)) (fun k => X _ _ (by decide)) (fun k => X _ _ (by decide)) (fun k => X _ _ (by decide)) (fun k => M _ _ (by omega) (by omega) (by omega)) (fun k => M _ _ (by omega) (by omega) (by omega)) (fun k => M _ _ (by omega) (by omega) (by omega)) (fun k => M _ _ (by omega) (by omega) (by omega))
  · exact h9.cg (fun k _ _ => X _ _ (by decide)) (fun k => X _ _ (by decide)) (fun k => X _ _ (by decide)) (M _ _ (by decide) (by decide) (by decide)) (M _ _ (by decide) (by decide) (by decide)) (fun k => M _ _ (by omega) (by omega) (by omega)) (fun k => M _ _ (by omega) (by omega) (by omega))
  · exact h10.cg (fun s k hs => X _ _ (by omega)) (fun s k _ => bl _ _) (fun k => M _ _ (by omega) (by omega) (by omega)) (fun k => M _ _ (by omega) (by omega) (by omega)) (fun k => M _ _ (by omega) (by omega) (by omega)) (fun k => M _ _ (by omega) (by omega) (by omega)) (fun k => cl _ _)
theorem cmd_feed {x : MX} {m : MM} (a : Int32) (h : Rel x m) : ∃ r x' m', f_X8_feed a x = some (r, x') ∧ f_X9_feed a m = some (r, m') ∧ Rel x' m' := by
  have hR := h
  obtain ⟨nl, nc, ns, nh, h1, h2, h3, h4, h5, h6, h7, h8, h9, h10⟩ := h
  obtain ⟨t1, t2, t3, t0, sz, t4, t5, t6, t7⟩ := h7
  have e0 : (0 : Int32).toInt = 0 := by decide
  have e255 : (255 : Int32).toInt = 255 := by decide
  have k0 : f_X9_isIn a 0 255 = decide (0 ≤ a.toInt ∧ a.toInt ≤ 255) := by rw [isIn_eq, e0, e255]
  by_cases c : 0 ≤ a.toInt ∧ a.toInt ≤ 255
  · have c1 : ¬ a < 0 := fun q => by rw [i_lt, e0] at q; omega
    have c2 : a ≤ 255 := by rw [i_le, e255]; omega
    by_cases d : sz < 120
    · have d1 : nI sz < 120 := (nI_lt6 (n := sz) (c := 120) (by omega) (by omega)).mpr d
      have d2 : ¬ nI sz = 120 := fun q => by have := (nI_eqc (n := sz) (c := 120) (by omega) (by omega)).mp q; omega
      have q1 : xi (xs x (x.1.2 + 5) sz a) x.1.2 8 = nI sz := by rw [xi_xs, if_neg (by omega), t5]
      have q2 : xi (xs (xs x (x.1.2 + 5) sz a) x.1.2 8 (nI (sz + 1))) x.1.2 8 = nI (sz + 1) := by rw [xi_xs, if_pos ⟨rfl, rfl⟩]
      refine ⟨nI (sz + 1), xs (xs x (x.1.2 + 5) sz a) x.1.2 8 (nI (sz + 1)), ms (ms m 93 sz a) 80 5 (nI (sz + 1)), ?_, ?_, nl, nc, ns, nh, ?_⟩
      · unfold f_X8_feed
        rw [if_neg c1, if_pos c2, if_pos (lawB_of t2), t5, if_pos d1, if_pos (inb_nI d (by decide)), ix_nI (by omega), letx_s]
        show (if isLawB x.1.2 = true then letx (xs (xs x (x.1.2 + 5) sz a) x.1.2 8 (xi (xs x (x.1.2 + 5) sz a) x.1.2 8 + 1)) _ else none) = _
        rw [if_pos (lawB_of t2), q1, nI_1, letx_s]
        show (if isLawB x.1.2 = true then some (xi (xs (xs x (x.1.2 + 5) sz a) x.1.2 8 (nI (sz + 1))) x.1.2 8, _) else none) = _
        rw [if_pos (lawB_of t2), q2]
      · unfold f_X9_feed
        have p1 : mi (ms m 93 sz a) 80 5 = nI sz := by rw [mi_ms, if_neg (by omega), t6]
        have p2 : mi (ms (ms m 93 sz a) 80 5 (nI (sz + 1))) 80 5 = nI (sz + 1) := by rw [mi_ms, if_pos ⟨rfl, rfl⟩]
        rw [k0, decide_eq_true c, if_pos rfl, t6, if_neg d2, if_pos (inb_nI d (by decide)), ix_nI (by omega), letx_s, p1, nI_1, letx_s, p2]
      · apply rest_text h1 h2 h3 h4 h5 h6 h9 h10
        · intro h k hh
          rcases t2 with e | e <;> rw [e, xi_xs, if_neg (by omega), xi_xs, if_neg (by omega)]
        · intro _ _; rfl
        · intro h k q1 q2 q3
          rw [mi_ms, if_neg (by omega), mi_ms, if_neg (by omega)]
        · intro _ _; rfl
        · have t0' : xi (xs (xs x (x.1.2 + 5) sz a) x.1.2 8 (nI (sz + 1))) x.1.1 8 = 0 := by
            rcases t1 with e | e <;> rcases t2 with f | f <;> first | exact absurd (e.trans f.symm) t3 | (rw [xi_xs, if_neg (by omega), xi_xs, if_neg (by omega), t0])
          refine ⟨t1, t2, t3, t0', sz + 1, by omega, q2, by rw [mi_ms, if_pos ⟨rfl, rfl⟩], fun k hk => ?_⟩
          have u1 : xi (xs (xs x (x.1.2 + 5) sz a) x.1.2 8 (nI (sz + 1))) (x.1.2 + 5) k = if k = sz then a else xi x (x.1.2 + 5) k := by
            rw [xi_xs, if_neg (by omega), xi_xs]
            by_cases e : k = sz
            · rw [if_pos ⟨rfl, e⟩, if_pos e]
            · rw [if_neg (fun z => e z.2), if_neg e]
          have u2 : mi (ms (ms m 93 sz a) 80 5 (nI (sz + 1))) 93 k = if k = sz then a else mi m 93 k := by
            rw [mi_ms, if_neg (by omega), mi_ms]
            by_cases e : k = sz
            · rw [if_pos ⟨rfl, e⟩, if_pos e]
            · rw [if_neg (fun z => e z.2), if_neg e]
          show xi (xs (xs x (x.1.2 + 5) sz a) x.1.2 8 (nI (sz + 1))) (x.1.2 + 5) k = _ ∧ _
          rw [u1, u2]
          by_cases e : k = sz
          · rw [if_pos e, if_pos e]
            exact ⟨rfl, c⟩
          · rw [if_neg e, if_neg e]
            exact t7 k (by omega)
        · refine h8.cg ⟨rfl, ?_, fun k => ?_⟩ ((law_ms (by decide) (by omega)).tr (law_ms (by decide) (by omega))) (by simp [mi_ms])
          · rcases t1 with e | e <;> rcases t2 with f | f <;> rw [e, f] at t3 ⊢ <;> first | exact absurd rfl t3 | simp [xi_xs]
          · rcases t1 with e | e <;> rcases t2 with f | f <;> rw [e, f] at t3 ⊢ <;> first | exact absurd rfl t3 | simp [xi_xs]
    · have d3 : sz = 120 := by omega
      subst d3
      refine ⟨-3, x, m, ?_, ?_, hR⟩
      · unfold f_X8_feed
        rw [if_neg c1, if_pos c2, if_pos (lawB_of t2), t5, if_neg (show ¬ nI 120 < 120 by decide)]
      · unfold f_X9_feed
        rw [k0, decide_eq_true c, if_pos rfl, t6, if_pos (show nI 120 = 120 by decide)]
  · refine ⟨-1, x, m, ?_, ?_, hR⟩
    · unfold f_X8_feed
      by_cases c1 : a < 0
      · rw [if_pos c1]
      · rw [if_neg c1, if_neg (fun q => ?_)]
        rw [i_lt, e0] at c1
        rw [i_le, e255] at q
        omega
    · unfold f_X9_feed
      rw [k0, decide_eq_false c]; rfl
theorem cell3 {s p j : Nat} (hs : s < 6) (hp : p + j ≤ 60) : (60 : Int32) * nI s + nI p + nI j = nI (60 * s + p + j) := by
  have e60 : (60 : Int32).toInt = 60 := by decide
  have a1 : ((60 : Int32) * nI s).toInt = 60 * s := by rw [i_mul (by rw [e60, nI_int (by omega)]; omega) (by rw [e60, nI_int (by omega)]; omega), e60, nI_int (by omega)]
  have a2 : ((60 : Int32) * nI s + nI p).toInt = 60 * s + p := by rw [i_add (by rw [a1, nI_int (by omega)]; omega) (by rw [a1, nI_int (by omega)]; omega), a1, nI_int (by omega)]
  rw [i_eq, i_add (by rw [a2, nI_int (by omega)]; omega) (by rw [a2, nI_int (by omega)]; omega), a2, nI_int (by omega), nI_int (by omega)]
  omega
theorem lift_loop {s p c t q : Nat} (hs : s < 6) (hp : p + c ≤ 60) : ∀ (n j fuel : Nat) (m : MM), j + n = c → n < fuel → ∃ m', f_X9_shift_124 fuel (nI s) (nI p) (nI t) (nI q) (nI c) (nI j) m = f_X9_shift_161 LF (nI t) (nI q) (nI c) 0 m' ∧ (∀ h k, mi m' h k = mi m h k) ∧ ∀ h k, ml m' h k = if h = 110 ∧ j ≤ k ∧ k < c then ml m 109 (60 * s + p + k) else ml m h k := by
  intro n
  induction n with
  | zero =>
    intro j fuel m hj hf
    obtain ⟨f, rfl⟩ : ∃ f, fuel = f + 1 := ⟨fuel - 1, by omega⟩
    have e : j = c := by omega
    subst e
    refine ⟨m, ?_, fun _ _ => rfl, fun h k => ?_⟩
    · show B_X9_shift_124 _ _ _ _ _ _ _ _ = _
      unfold B_X9_shift_124
      rw [if_pos ((nI_lec (by omega) (by omega)).mpr (Nat.le_refl _))]
    · rw [if_neg (by omega)]
  | succ n ih =>
    intro j fuel m hj hf
    obtain ⟨f, rfl⟩ : ∃ f, fuel = f + 1 := ⟨fuel - 1, by omega⟩
    obtain ⟨m', g1, g2, g3⟩ := ih (j + 1) f (msl m 110 j (ml m 109 (60 * s + p + j))) (by omega) (by omega)
    refine ⟨m', ?_, fun h k => g2 h k, fun h k => ?_⟩
    · show B_X9_shift_124 _ _ _ _ _ _ _ _ = _
      unfold B_X9_shift_124
      have z : ¬ nI c ≤ nI j := fun q => by have := (nI_lec (by omega) (by omega)).mp q; omega
      rw [if_neg z, cell3 hs (by omega), if_pos (inb_nI (by omega) (by decide)), if_pos (inb_nI (by omega) (by decide)), ix_nI (by omega), ix_nI (by omega), letx_s, nI_1]
      exact g1
    · rw [g3]
      by_cases e : h = 110 ∧ j + 1 ≤ k ∧ k < c
      · rw [if_pos e, ml_msl, if_neg (by omega), if_pos (by omega)]
      · rw [if_neg e, ml_msl]
        by_cases e2 : h = 110 ∧ k = j
        · rw [if_pos e2, if_pos (by omega), e2.2]
        · rw [if_neg e2, if_neg (by omega)]
theorem drop_loop {c t q : Nat} (ht : t < 6) (hq : q + c ≤ 60) : ∀ (n j fuel : Nat) (m : MM), j + n = c → n < fuel → ∃ m', f_X9_shift_161 fuel (nI t) (nI q) (nI c) (nI j) m = some (nI c, m') ∧ (∀ h k, mi m' h k = mi m h k) ∧ ∀ h k, ml m' h k = if h = 109 ∧ 60 * t + q + j ≤ k ∧ k < 60 * t + q + c then ml m 110 (k - (60 * t + q)) else ml m h k := by
  intro n
  induction n with
  | zero =>
    intro j fuel m hj hf
    obtain ⟨f, rfl⟩ : ∃ f, fuel = f + 1 := ⟨fuel - 1, by omega⟩
    have e : j = c := by omega
    subst e
    refine ⟨m, ?_, fun _ _ => rfl, fun h k => ?_⟩
    · show B_X9_shift_161 _ _ _ _ _ _ = _
      unfold B_X9_shift_161
      rw [if_pos ((nI_lec (by omega) (by omega)).mpr (Nat.le_refl _))]
    · rw [if_neg (by omega)]
  | succ n ih =>
    intro j fuel m hj hf
    obtain ⟨f, rfl⟩ : ∃ f, fuel = f + 1 := ⟨fuel - 1, by omega⟩
    obtain ⟨m', g1, g2, g3⟩ := ih (j + 1) f (msl m 109 (60 * t + q + j) (ml m 110 j)) (by omega) (by omega)
    refine ⟨m', ?_, fun h k => g2 h k, fun h k => ?_⟩
    · show B_X9_shift_161 _ _ _ _ _ _ = _
      unfold B_X9_shift_161
      have z : ¬ nI c ≤ nI j := fun q => by have := (nI_lec (by omega) (by omega)).mp q; omega
      rw [if_neg z, cell3 ht (by omega), if_pos (inb_nI (by omega) (by decide)), if_pos (inb_nI (by omega) (by decide)), ix_nI (by omega), ix_nI (by omega), letx_s, nI_1]
      exact g1
    · rw [g3]
      by_cases e : h = 109 ∧ 60 * t + q + (j + 1) ≤ k ∧ k < 60 * t + q + c
      · rw [if_pos e, ml_msl, if_neg (by omega), if_pos (by omega)]
      · rw [if_neg e, ml_msl]
        by_cases e2 : h = 109 ∧ k = 60 * t + q + j
        · rw [if_pos e2, if_pos (by omega), e2.2, show 60 * t + q + j - (60 * t + q) = j by omega]
        · rw [if_neg e2, if_neg (by omega)]
