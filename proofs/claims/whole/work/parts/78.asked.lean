def askF (tn tk : Nat → Int32) (t : Int32) : Nat → Nat → Int32 → Int32 → Int32 × Int32
  | 0, _, u, v => (u, v)
  | n + 1, j, u, v => askF tn tk t n (j + 1) (if t ≤ u then u + tk j else u + tn j) (v + tk j)
def askR (w : Int32) (p : Int32 × Int32) : Int32 := if w = 0 then p.1 else if p.1 ≤ p.2 then 0 else 1
theorem askX {x0 : MX} {m0 : MM} {T : Nat → Nat → Int32 → Int32 → Int32 → Int32} (K : TK x0 m0 T) {N : Nat} (hN : N ≤ 6) {k t w : Int32} (hk : 0 ≤ k.toInt ∧ k.toInt ≤ 10) : ∀ (n j fuel : Nat) (u v : Int32) (x : MX), SameX x0 x → j + n = N → n < fuel → ∃ x', f_X8_asked_55 fuel (nI N) w k t u v (nI j) x = some (askR w (askF (fun c => nowT m0 T c c) (fun c => T c c (mi m0 83 c) k 0) t n j u v), x') ∧ SameX x0 x' := by
  intro n
  induction n with
  | zero =>
    intro j f u v x sx hj hf
    obtain ⟨f, rfl⟩ : ∃ e, f = e + 1 := ⟨f - 1, by omega⟩
    have z : nI N ≤ nI j := (nI_lec (by omega) (by omega)).mpr (by omega)
    refine ⟨x, ?_, sx⟩
    show B_X8_asked_55 _ _ _ _ _ _ _ _ _ = _
    unfold B_X8_asked_55 askF askR
    rw [if_pos z]
    by_cases a : w = 0
    · rw [if_pos a, if_pos a]
    · rw [if_neg a, if_neg a]
      by_cases b : u ≤ v
      · rw [if_pos b, if_pos b]
      · rw [if_neg b, if_neg b]
  | succ n ih =>
    intro j f u v x sx hj hf
    obtain ⟨f, rfl⟩ : ∃ e, f = e + 1 := ⟨f - 1, by omega⟩
    have z : ¬ nI N ≤ nI j := fun q => by have := (nI_lec (by omega) (by omega)).mp q; omega
    obtain ⟨x1, E1, E2⟩ := skillX K sx (a := j) (b := j) (by omega) (by omega) (h := k) (n := 0) hk ⟨by decide, by decide⟩
    unfold askF
    by_cases b : t ≤ u
    · rw [if_pos b]
      obtain ⟨x', r1, r2⟩ := ih (j + 1) f (u + T j j (mi m0 83 j) k 0) (v + T j j (mi m0 83 j) k 0) x1 E2 (by omega) (by omega)
      refine ⟨x', ?_, r2⟩
      show B_X8_asked_55 _ _ _ _ _ _ _ _ _ = _
      unfold B_X8_asked_55 B_X8_asked_103
      rw [if_neg z, E1, ob2_s, if_pos b, nI_1]
      exact r1
    · rw [if_neg b]
      obtain ⟨x2, F1, F2⟩ := nowX K E2 (a := j) (b := j) (by omega) (by omega)
      obtain ⟨x', r1, r2⟩ := ih (j + 1) f (u + nowT m0 T j j) (v + T j j (mi m0 83 j) k 0) x2 F2 (by omega) (by omega)
      refine ⟨x', ?_, r2⟩
      show B_X8_asked_55 _ _ _ _ _ _ _ _ _ = _
      unfold B_X8_asked_55 B_X8_asked_103
      rw [if_neg z, E1, ob2_s, if_neg b, F1, ob2_s, nI_1]
      exact r1
theorem askM {x0 : MX} {m0 : MM} {T : Nat → Nat → Int32 → Int32 → Int32 → Int32} (K : TK x0 m0 T) {N : Nat} (hN : N ≤ 6) {k t w : Int32} (hk : 0 ≤ k.toInt ∧ k.toInt ≤ 10) : ∀ (n j fuel : Nat) (u v : Int32) (m : MM), SameM m0 m → j + n = N → n < fuel → ∃ m', f_X9_asked_61 fuel (nI N) w k t u v (nI j) m = some (askR w (askF (fun c => nowT m0 T c c) (fun c => T c c (mi m0 83 c) k 0) t n j u v), m') ∧ SameM m0 m' := by
  intro n
  induction n with
  | zero =>
    intro j f u v m sm hj hf
    obtain ⟨f, rfl⟩ : ∃ e, f = e + 1 := ⟨f - 1, by omega⟩
    have z : nI N ≤ nI j := (nI_lec (by omega) (by omega)).mpr (by omega)
    refine ⟨m, ?_, sm⟩
    show B_X9_asked_61 _ _ _ _ _ _ _ _ _ = _
    unfold B_X9_asked_61 askF askR B_X9_asked_145
    rw [if_pos z]
    by_cases a : w = 0
    · rw [if_pos a, if_pos a]
    · rw [if_neg a, if_neg a]
      by_cases b : u ≤ v
      · rw [if_pos b, if_pos b]; rfl
      · rw [if_neg b, if_neg b]; rfl
  | succ n ih =>
    intro j f u v m sm hj hf
    obtain ⟨f, rfl⟩ : ∃ e, f = e + 1 := ⟨f - 1, by omega⟩
    have z : ¬ nI N ≤ nI j := fun q => by have := (nI_lec (by omega) (by omega)).mp q; omega
    unfold askF
    by_cases b : t ≤ u
    · rw [if_pos b]
      obtain ⟨m1, E1, E2⟩ := takesM K sm (a := j) (b := j) (by omega) (by omega) (h := k) (n := 0) hk ⟨by decide, by decide⟩
      obtain ⟨m2, F1, F2⟩ := takesM K E2 (a := j) (b := j) (by omega) (by omega) (h := k) (n := 0) hk ⟨by decide, by decide⟩
      obtain ⟨m', r1, r2⟩ := ih (j + 1) f (u + T j j (mi m0 83 j) k 0) (v + T j j (mi m0 83 j) k 0) m2 F2 (by omega) (by omega)
      refine ⟨m', ?_, r2⟩
      show B_X9_asked_61 _ _ _ _ _ _ _ _ _ = _
      unfold B_X9_asked_61 B_X9_asked_98
      rw [if_neg z, if_pos b, E1, ob2_s, F1, ob2_s, nI_1]
      exact r1
    · rw [if_neg b]
      obtain ⟨m1, E1, E2⟩ := nowM K sm (a := j) (b := j) (by omega) (by omega)
      obtain ⟨m2, F1, F2⟩ := takesM K E2 (a := j) (b := j) (by omega) (by omega) (h := k) (n := 0) hk ⟨by decide, by decide⟩
      obtain ⟨m', r1, r2⟩ := ih (j + 1) f (u + nowT m0 T j j) (v + T j j (mi m0 83 j) k 0) m2 F2 (by omega) (by omega)
      refine ⟨m', ?_, r2⟩
      show B_X9_asked_61 _ _ _ _ _ _ _ _ _ = _
      unfold B_X9_asked_61 B_X9_asked_98
      rw [if_neg z, if_neg b, E1, ob2_s, F1, ob2_s, nI_1]
      exact r1
theorem bothX {nl nc ns : Nat} {x : MX} {m : MM} (h1 : RCnt nl nc ns x m) : f_X8_bothCount x = nI (min nl nc) := by
  have la := h1.2.2.1
  have lb := h1.2.2.2.1
  unfold f_X8_bothCount imin
  rw [h1.1.1, h1.1.2.1]
  by_cases c : nc < nl
  · rw [if_pos ((nI_lt6 (by omega) (by omega)).mpr c), Nat.min_eq_right (by omega)]
  · rw [if_neg (fun q => c ((nI_lt6 (by omega) (by omega)).mp q)), Nat.min_eq_left (by omega)]
theorem bothM {nl nc ns : Nat} {x : MX} {m : MM} (h1 : RCnt nl nc ns x m) : f_X9_both m = nI (min nl nc) := by
  have la := h1.2.2.1
  have lb := h1.2.2.2.1
  unfold f_X9_both
  rw [h1.2.1.1, h1.2.1.2.1]
  by_cases c : nc ≤ nl
  · rw [if_pos ((nI_lec (by omega) (by omega)).mpr c), Nat.min_eq_right (by omega)]
  · rw [if_neg (fun q => c ((nI_lec (by omega) (by omega)).mp q)), Nat.min_eq_left (by omega)]
theorem divc {a c : Int32} (h : 0 ≤ a.toInt) (hc : 0 < c.toInt) : (a / c).toInt = a.toInt / c.toInt := by
  have h2 := i_hi a
  have h3 : a.toInt / c.toInt ≤ a.toInt := Int.ediv_le_self _ h
  have h4 : 0 ≤ a.toInt / c.toInt := Int.ediv_nonneg h (by omega)
  rw [Int32.toInt_div, Int.tdiv_eq_ediv_of_nonneg h]
  exact Int.bmod_eq_of_le (by omega) (by omega)
theorem modc {a c : Int32} (h : 0 ≤ a.toInt) : (a % c).toInt = a.toInt % c.toInt := by
  rw [Int32.toInt_mod, Int.tmod_eq_emod_of_nonneg h]
theorem cmd_asked {x : MX} {m : MM} (a v w : Int32) (hR : Rel x m) : ∃ r x' m', f_X8_asked a v w x = some (r, x') ∧ f_X9_asked a v w m = some (r, m') ∧ Rel x' m' := by
  obtain ⟨nl, nc, ns, nh, h1, h2, h3⟩ := id hR
  obtain ⟨T, K⟩ := tk_ex hR
  have e0 : (0 : Int32).toInt = 0 := by decide
  have e9 : (99999 : Int32).toInt = 99999 := by decide
  have et : (10000 : Int32).toInt = 10000 := by decide
  have la := h1.2.2.1
  have hB : min nl nc ≤ 6 := by omega
  have k0 : f_X9_isIn a 0 (f_X9_both m) = decide (0 ≤ a.toInt ∧ a.toInt ≤ ((min nl nc : Nat) : Int)) := by rw [isIn_eq, e0, bothM h1, nI_int (by omega)]
  have k1 : f_X9_isIn v 0 99999 = decide (0 ≤ v.toInt ∧ v.toInt ≤ 99999) := by rw [isIn_eq, e0, e9]
  unfold f_X8_asked f_X9_asked
  rw [k0, k1, partX, bothX h1]
  by_cases c : 0 ≤ a.toInt ∧ a.toInt ≤ ((min nl nc : Nat) : Int)
  · have c1 : ¬ a < 0 := by rw [i_lt, e0]; omega
    have c2 : ¬ nI (min nl nc) < a := by rw [i_lt, nI_int (by omega)]; omega
    rw [if_neg c1, if_neg c2, decide_eq_true c, if_pos rfl]
    by_cases d : 0 ≤ v.toInt ∧ v.toInt ≤ 99999
    · have d1 : ¬ v < 0 := by rw [i_lt, e0]; omega
      have d2 : ¬ (99999 : Int32) < v := by rw [i_lt, e9]; omega
      rw [if_neg d1, if_neg d2, decide_eq_true d, if_pos rfl]
      by_cases p : f_X9_isIn w 0 1 = true
      · rw [if_pos p, if_pos p]
        obtain ⟨N, hN, rfl⟩ := nI_ex (a := a) (n := 7) c.1 (by omega)
        have hk : 0 ≤ (v / 10000).toInt ∧ (v / 10000).toInt ≤ 10 := by rw [divc d.1 (by rw [et]; decide), et]; omega
        obtain ⟨x', r1, r2⟩ := askX K (N := N) (by omega) (k := v / 10000) (t := v % 10000) (w := w) hk N 0 LF 0 (v % 10000) x (SameX.rf x) (by omega) (by unfold LF; omega)
        obtain ⟨m', t1, t2⟩ := askM K (N := N) (by omega) (k := v / 10000) (t := v % 10000) (w := w) hk N 0 LF 0 (v % 10000) m (SameM.rf m) (by omega) (by unfold LF; omega)
        exact ⟨_, x', m', r1, t1, hR.same r2 t2⟩
      · rw [if_neg p, if_neg p]
        exact ⟨-1, x, m, rfl, rfl, hR⟩
    · refine ⟨-1, x, m, ?_, ?_, hR⟩
      · by_cases d1 : v < 0
        · rw [if_pos d1]
        · rw [if_neg d1, if_pos]
          rw [i_lt, e0] at d1
          rw [i_lt, e9]
          omega
      · rw [decide_eq_false d]; rfl
  · refine ⟨-1, x, m, ?_, ?_, hR⟩
    · by_cases c1 : a < 0
      · rw [if_pos c1]
      · rw [if_neg c1, if_pos]
        rw [i_lt, e0] at c1
        rw [i_lt, nI_int (by omega)]
        omega
    · rw [decide_eq_false c]; rfl
