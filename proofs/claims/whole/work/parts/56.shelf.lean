theorem rest_shelf {nl nc ns nh : Nat} {x x' : MX} {m m' : MM} (h1 : RCnt nl nc ns x m) (h2 : RNum nl nc ns x m) (h3 : RIn nc x m) (h4 : RLed x m) (h5 : RKept nc x m) (h6 : RHist nl nc ns x m) (h7 : RTape x m) (h8 : RLaw x m) (h9 : RHole nh x m) (a : x'.1 = x.1) (b : ∀ h k, h < 68 → xi x' h k = xi x h k) (c : ∀ h k, h < 105 → mi m' h k = mi m h k) :
    ∀ {P : Prop}, P → RCnt nl nc ns x' m' ∧ RNum nl nc ns x' m' ∧ RIn nc x' m' ∧ RLed x' m' ∧ RKept nc x' m' ∧ RHist nl nc ns x' m' ∧ RTape x' m' ∧ RLaw x' m' ∧ RHole nh x' m' ∧ P := by
  intro P hP
  have X : ∀ h k, h < 68 → xi x' h k = xi x h k := b
  have M : ∀ h k, h < 105 → mi m' h k = mi m h k := c
  refine ⟨?_, ?_, ?_, ?_, ?_, ?_, ?_, ?_, ?_, hP⟩
  · exact h1.cg (X _ _ (by decide)) (X _ _ (by decide)) (X _ _ (by decide)) (M _ _ (by decide)) (M _ _ (by decide)) (M _ _ (by decide))
  · refine h2.cg (fun w k hw _ => X _ _ (by omega)) (fun w k hw => ?_)
    match w, hw with
    | 0, _ | 1, _ | 2, _ | 3, _ | 4, _ | 5, _ | 6, _ | 7, _ | 8, _ | 9, _ | 10, _ | 11, _ | 12, _ => exact M _ _ (by decide)
  · exact h3.cg (fun k => X _ _ (by decide)) (fun k => M _ _ (by decide))
  · exact h4.cg (fun k => X _ _ (by decide)) (M _ _ (by decide)) (M _ _ (by decide)) (M _ _ (by decide)) (M _ _ (by decide))
  · exact h5.cg (M _ _ (by decide)) (X _ _ (by decide)) (fun k => X _ _ (by decide)) (fun k => X _ _ (by decide)) (fun k => X _ _ (by decide)) (fun k => M _ _ (by decide))
  · exact h6.cg (X _ _ (by decide)) (X _ _ (by decide)) (M _ _ (by decide)) (M _ _ (by decide)) (fun k => X _ _ (by decide)) (fun k => X _ _ (by decide)) (fun k => X _ _ (by decide)) (fun k => X _ _ (by decide)) (fun k => M _ _ (by decide)) (fun k => M _ _ (by decide)) (fun k => M _ _ (by decide)) (fun k => M _ _ (by decide))
  · refine h7.cg a ?_ ?_ (fun k => ?_) (M _ _ (by decide)) (fun k => M _ _ (by decide))
    · rcases h7.2.1 with e | e <;> rw [e] <;> exact X _ _ (by decide)
    · rcases h7.1 with e | e <;> rw [e] <;> exact X _ _ (by decide)
    · rcases h7.2.1 with e | e <;> rw [e] <;> exact X _ _ (by decide)
  · refine h8.cg ⟨by rw [a], ?_, fun k => ?_⟩ ⟨M _ _ (by decide), fun k => M _ _ (by decide)⟩ (M _ _ (by decide))
    · rcases h7.1 with e | e <;> rw [e] <;> exact X _ _ (by decide)
    · rcases h7.1 with e | e <;> rw [e] <;> exact ⟨X _ _ (by decide), X _ _ (by decide)⟩
  · exact h9.cg (fun k _ _ => X _ _ (by decide)) (fun k => X _ _ (by decide)) (fun k => X _ _ (by decide)) (M _ _ (by decide)) (M _ _ (by decide)) (fun k => M _ _ (by decide)) (fun k => M _ _ (by decide))
theorem isShelfX {a : Int32} : f_X8_isShelf a = decide (0 ≤ a.toInt ∧ a.toInt < (6 : Nat)) := by
  unfold f_X8_isShelf
  simp only [i_lt, i_le]
  by_cases z1 : a.toInt < 0
  · rw [if_pos (by simpa using z1), decide_eq_false (by omega)]
  · rw [if_neg (by simpa using z1)]
    by_cases z2 : 6 ≤ a.toInt
    · rw [if_pos (by simpa using z2), decide_eq_false (by omega)]
    · rw [if_neg (by simpa using z2), decide_eq_true (by omega)]
theorem isShelfM {a : Int32} : f_X9_isShelf a = decide (0 ≤ a.toInt ∧ a.toInt < (6 : Nat)) := isShelfX
theorem cellix {s k : Nat} (hs : s < 6) (hk : k < 60) : (60 : Int32) * nI s + nI k = nI (60 * s + k) := by
  have e1 : (60 : Int32) * nI s = nI (60 * s) := by
    rw [i_eq, i_mul (by rw [nI_int (by omega)]; simp; omega) (by rw [nI_int (by omega)]; simp; omega), nI_int (by omega), nI_int (by omega)]
    simp
  rw [e1, nI_add]
theorem cmd_keep {x : MX} {m : MM} (a b : Int32) (h : Rel x m) : ∃ r x' m', f_X8_keep a b x = some (r, x') ∧ f_X9_keep a b m = some (r, m') ∧ Rel x' m' := by
  have hR := h
  obtain ⟨nl, nc, ns, nh, h1, h2, h3, h4, h5, h6, h7, h8, h9, h10⟩ := h
  obtain ⟨u1, u2, u3, u4, u5, u6⟩ := id h9
  by_cases c1 : 0 ≤ a.toInt ∧ a.toInt < (6 : Nat)
  · obtain ⟨s, hs, rfl⟩ := nI_ex c1.1 c1.2
    have i6 : inb (nI s) 6 = true := inb_nI hs (by decide)
    have j0 : ix (nI s) = s := ix_nI (by omega)
    have n1 : (nI nh - 1).toInt = (nh : Int) - 1 := by
      rw [i_sub (by rw [nI_int (by omega)]; simp; omega) (by rw [nI_int (by omega)]; simp; omega), nI_int (by omega)]
      simp
    have k0 : f_X9_isIn b (-1) (nI nh - 1) = decide (-1 ≤ b.toInt ∧ b.toInt ≤ (nh : Int) - 1) := by rw [isIn_eq, n1]; rfl
    by_cases c2 : -1 ≤ b.toInt ∧ b.toInt ≤ (nh : Int) - 1
    · have d1 : ¬ b < -1 := by rw [i_lt]; simp; omega
      have d2 : b < nI nh := by rw [i_lt, nI_int (by omega)]; omega
      by_cases c3 : 0 ≤ b
      · have c4 : 0 ≤ b.toInt := by rw [i_le] at c3; simpa using c3
        obtain ⟨q, hq, rfl⟩ := nI_ex (a := b) (n := nh) c4 (by omega)
        have E1 : f_X8_keep (nI s) (nI q) x = some (1, xs (xs (xs x (68 + 2 * s) 1 (-1)) (68 + 2 * s) 2 0) (68 + 2 * s) 3 (nI q)) := by
          simp only [f_X8_keep, isShelfX, decide_eq_true c1, if_true, if_neg d1, u2, if_pos d2, if_pos c3, i6, j0, f_X6_holdHole, letx_s, ob_s]
        have E2 : f_X9_keep (nI s) (nI q) m = some (1, ms (ms m 105 s 1) 108 s (nI q)) := by
          simp only [f_X9_keep, isShelfM, decide_eq_true c1, if_true, u3, k0, decide_eq_true c2, if_pos c3, B_X9_keep_39, i6, j0, letx_s]
        refine ⟨_, _, _, E1, E2, nl, nc, ns, nh, ?_⟩
        apply rest_shelf h1 h2 h3 h4 h5 h6 h7 h8 h9
        · rfl
        · exact (fun h k hh => by rw [xi_xs, if_neg (by omega), xi_xs, if_neg (by omega), xi_xs, if_neg (by omega)])
        · exact (fun h k hh => by rw [mi_ms, if_neg (by omega), mi_ms, if_neg (by omega)])
        intro t ht
        by_cases e : t = s
        · subst e
          refine Or.inr (Or.inl ⟨by simp [mi_ms], by simp [xi_xs], q, hq, by simp [mi_ms], by simp [xi_xs]⟩)
        · exact (h10 t ht).cg (fun k => by rw [xi_xs, if_neg (by omega), xi_xs, if_neg (by omega), xi_xs, if_neg (by omega)]) (fun k => rfl) (by simp [mi_ms, e]) (by simp [mi_ms]) (by simp [mi_ms]) (by simp [mi_ms, e]) (fun k _ => rfl)
      · have E1 : f_X8_keep (nI s) b x = some (1, xs (xs x (68 + 2 * s) 1 (-2)) (68 + 2 * s) 2 0) := by
          simp only [f_X8_keep, isShelfX, decide_eq_true c1, if_true, if_neg d1, u2, if_pos d2, if_neg c3, i6, j0, f_X6_holdNothing, letx_s, ob_s]
        have E2 : f_X9_keep (nI s) b m = some (1, ms (ms m 105 s 0) 108 s b) := by
          simp only [f_X9_keep, isShelfM, decide_eq_true c1, if_true, u3, k0, decide_eq_true c2, if_neg c3, B_X9_keep_39, i6, j0, letx_s]
        refine ⟨_, _, _, E1, E2, nl, nc, ns, nh, ?_⟩
        apply rest_shelf h1 h2 h3 h4 h5 h6 h7 h8 h9
        · rfl
        · exact (fun h k hh => by rw [xi_xs, if_neg (by omega), xi_xs, if_neg (by omega)])
        · exact (fun h k hh => by rw [mi_ms, if_neg (by omega), mi_ms, if_neg (by omega)])
        intro t ht
        by_cases e : t = s
        · subst e
          exact Or.inl ⟨by simp [mi_ms], by simp [xi_xs]⟩
        · exact (h10 t ht).cg (fun k => by rw [xi_xs, if_neg (by omega), xi_xs, if_neg (by omega)]) (fun k => rfl) (by simp [mi_ms, e]) (by simp [mi_ms]) (by simp [mi_ms]) (by simp [mi_ms, e]) (fun k _ => rfl)
    · refine ⟨-1, x, m, ?_, ?_, hR⟩
      · simp only [f_X8_keep, isShelfX, decide_eq_true c1, if_true, u2]
        by_cases d1 : b < -1
        · rw [if_pos d1]
        · rw [if_neg d1]
          have d2 : ¬ b < nI nh := by
            rw [i_lt] at d1 ⊢
            rw [nI_int (by omega)]
            simp at d1
            omega
          rw [if_neg d2]
      · simp only [f_X9_keep, isShelfM, decide_eq_true c1, if_true, u3, k0, decide_eq_false c2]
        rfl
  · exact ⟨-1, x, m, by simp only [f_X8_keep, isShelfX, decide_eq_false c1]; rfl, by simp only [f_X9_keep, isShelfM, decide_eq_false c1]; rfl, hR⟩
theorem row_loop {s : Nat} (hs : s < 6) : ∀ (n j fuel : Nat) (m : MM), j + n = 60 → n < fuel → ∃ m', f_X9_row_57 fuel (nI s) (nI j) m = some (1, m') ∧ (∀ h k, mi m' h k = mi m h k) ∧ ∀ h k, ml m' h k = if h = 109 ∧ 60 * s + j ≤ k ∧ k < 60 * s + 60 then 0 else ml m h k := by
  intro n
  induction n with
  | zero =>
    intro j fuel m hj hf
    obtain ⟨f, rfl⟩ : ∃ f, fuel = f + 1 := ⟨fuel - 1, by omega⟩
    have e : j = 60 := by omega
    subst e
    refine ⟨m, ?_, fun _ _ => rfl, fun h k => ?_⟩
    · show B_X9_row_57 _ _ _ _ = _
      unfold B_X9_row_57
      rw [if_pos (show (60 : Int32) ≤ nI 60 by decide)]
    · rw [if_neg (by omega)]
  | succ n ih =>
    intro j fuel m hj hf
    obtain ⟨f, rfl⟩ : ∃ f, fuel = f + 1 := ⟨fuel - 1, by omega⟩
    obtain ⟨m', g1, g2, g3⟩ := ih (j + 1) f (msl m 109 (60 * s + j) 0) (by omega) (by omega)
    refine ⟨m', ?_, fun h k => g2 h k, fun h k => ?_⟩
    · show B_X9_row_57 _ _ _ _ = _
      unfold B_X9_row_57
      have z : ¬ (60 : Int32) ≤ nI j := fun q => by have := (nI_lec (n := 60) (c := j) (by decide) (by omega)).mp q; omega
      rw [if_neg z, cellix hs (by omega), if_pos (inb_nI (by omega) (by decide)), ix_nI (by omega), letx_s, nI_1]
      exact g1
    · rw [g3, ml_msl]
      by_cases e : h = 109
      · subst e
        by_cases e2 : k = 60 * s + j
        · subst e2
          rw [if_neg (by omega), if_pos ⟨rfl, rfl⟩, if_pos ⟨rfl, by omega, by omega⟩]
        · by_cases e3 : 60 * s + (j + 1) ≤ k ∧ k < 60 * s + 60
          · rw [if_pos ⟨rfl, e3⟩, if_pos ⟨rfl, by omega, e3.2⟩]
          · rw [if_neg (fun q => e3 q.2), if_neg (fun q => e2 q.2), if_neg (fun q => e3 ⟨by omega, q.2.2⟩)]
      · rw [if_neg (fun q => e q.1), if_neg (fun q => e q.1), if_neg (fun q => e q.1)]
