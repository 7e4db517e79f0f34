theorem tk_dr {x0 : MX} {m0 : MM} (hR : Rel x0 m0) : ∃ p q : Nat, p ≤ 11 ∧ q ≤ 99 ∧ mi m0 80 3 = nI p ∧ mi m0 80 4 = nI q ∧ xi x0 16 0 = nI p ∧ xi x0 17 0 = nI q := by
  obtain ⟨a1, a2, a3⟩ := tk_num hR (w := 9) (k := 0) (by decide) (by decide)
  obtain ⟨b1, b2, b3⟩ := tk_num hR (w := 10) (k := 0) (by decide) (by decide)
  have a1' : xi x0 16 0 = mi m0 80 3 := a1
  have b1' : xi x0 17 0 = mi m0 80 4 := b1
  have a3' : (mi m0 80 3).toInt ≤ 11 := a3
  have b3' : (mi m0 80 4).toInt ≤ 99 := b3
  have a2' : 0 ≤ (mi m0 80 3).toInt := a2
  have b2' : 0 ≤ (mi m0 80 4).toInt := b2
  exact ⟨(mi m0 80 3).toInt.toNat, (mi m0 80 4).toInt.toNat, by omega, by omega, nI_of_toInt a2', nI_of_toInt b2', a1'.trans (nI_of_toInt a2'), b1'.trans (nI_of_toInt b2')⟩
theorem now_nI {x0 : MX} {m0 : MM} {T : Nat → Nat → Int32 → Int32 → Int32 → Int32} (K : TK x0 m0 T) (a b : Nat) : ∃ t : Nat, 1 ≤ t ∧ t ≤ 999 ∧ nowT m0 T a b = nI t := by
  obtain ⟨h1, h2⟩ := nowT_in K a b
  exact ⟨(nowT m0 T a b).toInt.toNat, by omega, by omega, nI_of_toInt (by omega)⟩
theorem pq_le {t p q : Nat} (ht : t ≤ 999) (hp : p ≤ 11) (hq : q ≤ 99) : 12 * t + p * q < 20000 := by
  have h := Nat.mul_le_mul hp hq
  omega
theorem cmd_dropped {x : MX} {m : MM} (v w : Int32) (hR : Rel x m) : ∃ r x' m', f_X8_dropped v w x = some (r, x') ∧ f_X9_dropped v w m = some (r, m') ∧ Rel x' m' := by
  obtain ⟨nl, nc, ns, nh, h1, h2, h3⟩ := id hR
  obtain ⟨T, K⟩ := tk_ex hR
  have la := h1.2.2.1
  have lb := h1.2.2.2.1
  obtain ⟨p, q, hp, hq, d1, d2, d3, d4⟩ := tk_dr hR
  unfold f_X8_dropped f_X9_dropped
  rw [partX]
  rcases pair_eq h1 v with ⟨p1, p2⟩ | ⟨p1, p2, a, b, ha, hb, ea, eb⟩
  · rw [p1, p2]
    exact ⟨_, x, m, rfl, rfl, hR⟩
  · rw [p1, p2, ob_s, ob_s, if_pos rfl, if_pos rfl, ea, eb]
    by_cases c : f_X9_isIn w 0 1 = true
    · rw [if_pos c, if_pos c]
      obtain ⟨x1, E1, E2⟩ := nowX K (SameX.rf x) (a := a) (b := b) (by omega) (by omega)
      obtain ⟨m1, F1, F2⟩ := nowM K (SameM.rf m) (a := a) (b := b) (by omega) (by omega)
      obtain ⟨t, t1, t2, t3⟩ := now_nI K a b
      have hb2 := pq_le t2 hp hq
      rw [t3] at E1 F1
      have g4 : xi x1 17 0 = nI q := (E2.2.2 _ _ rfl).trans d4
      have g1 : mi m1 80 3 = nI p := (F2.2 _ _ rfl).trans d1
      have g2 : mi m1 80 4 = nI q := (F2.2 _ _ rfl).trans d2
      have z1 : (12 : Int32) * nI t + nI p * nI q = nI (12 * t + p * q) := by rw [← nA_add, ← nI_mul, ← nI_mul]; rfl
      have z2 : (12 : Int32) - nI p = nI (12 - p) := nI_sub (n := 12) (by omega)
      have z3 : (12 : Int64) * Int32.toInt64 (nI t) + Int32.toInt64 (nI p * nI q) = lI (12 * t + p * q) := by
        rw [nI_mul, lI_nI (by omega), lI_nI (by omega), ← lI_add, ← lI_mul, ← lI_mul]; rfl
      have z4 : (12 : Int64) - Int32.toInt64 (nI p) = lI (12 - p) := by
        rw [lI_nI (by omega)]
        exact lI_sub (n := 12) (by omega)
      refine ⟨lowV (12 * t + p * q) (12 - p) w, x1, m1, ?_, ?_, hR.same E2 F2⟩
      · rw [E1, ob2_s, d3, g4, letx_s, z1, z2, lI_nI (by omega), lI_nI (by omega), lowXx (by omega) (by omega) (by omega), ob_s]
      · rw [F1, ob2_s, g1, g2, z3, z4, lowMm (by omega) (by omega) (by omega), ob_s]
    · rw [if_neg c, if_neg c]
      exact ⟨_, x, m, rfl, rfl, hR⟩
def byV (t s p q : Nat) (v : Int32) : Nat → Nat → Int64
  | 0, j => lowV (12 ^ j - p ^ j) (12 ^ j) v
  | n + 1, j => if t < s + j * (q + s) then lowV (12 ^ j - p ^ j) (12 ^ j) v else byV t s p q v n (j + 1)
theorem pw12 {p j : Nat} (hp : p ≤ 11) (hj : j ≤ 6) : p ^ j ≤ 12 ^ j ∧ 12 ^ j ≤ 2985984 ∧ 0 < 12 ^ j := by
  refine ⟨Nat.pow_le_pow_left (by omega) j, ?_, Nat.pow_pos (by decide)⟩
  have h := Nat.pow_le_pow_right (n := 12) (by decide) hj
  have e : (12 : Nat) ^ 6 = 2985984 := by decide
  omega
theorem by_end {p j : Nat} (hp : p ≤ 11) (hj : j ≤ 6) (v : Int32) : f_X8_inLowestTerms (lI (12 ^ j) - lI (p ^ j)) (lI (12 ^ j)) v = some (lowV (12 ^ j - p ^ j) (12 ^ j) v) ∧ f_X9_lowest (lI (12 ^ j) - lI (p ^ j)) (lI (12 ^ j)) v = some (lowV (12 ^ j - p ^ j) (12 ^ j) v) := by
  obtain ⟨h1, h2, h3⟩ := pw12 hp hj
  rw [lI_sub h1]
  exact ⟨lowXx (by omega) (by omega) h3 v, lowMm (by omega) (by omega) h3 v⟩
theorem byX {t s p q : Nat} (hs : s ≤ 999) (ht : t ≤ 9999) (hp : p ≤ 11) (hq : q ≤ 99) (v : Int32) {x : MX} (hx : xi x 16 0 = nI p) (hy : xi x 17 0 = nI q) : ∀ (n j fuel : Nat), j + n = 6 → n < fuel → f_X8_by_57 fuel (nI t) v (nI s) (lI (12 ^ j)) (lI (p ^ j)) (nI (s + j * (q + s))) (nI j) x = some (byV t s p q v n j, x) := by
  intro n
  induction n with
  | zero =>
    intro j f hj hf
    obtain ⟨f, rfl⟩ : ∃ e, f = e + 1 := ⟨f - 1, by omega⟩
    have z : (6 : Int32) ≤ nI j := (nI_lec (n := 6) (by decide) (by omega)).mpr (by omega)
    show B_X8_by_57 _ _ _ _ _ _ _ _ _ = _
    unfold B_X8_by_57 B_X8_by_116
    rw [if_pos z, (by_end hp (by omega) v).1, ob_s]
    rfl
  | succ n ih =>
    intro j f hj hf
    obtain ⟨f, rfl⟩ : ∃ e, f = e + 1 := ⟨f - 1, by omega⟩
    have z : ¬ (6 : Int32) ≤ nI j := fun z => by have := (nI_lec (n := 6) (by decide) (by omega)).mp z; omega
    have hj5 : j * (q + s) ≤ 5 * 1098 := Nat.mul_le_mul (by omega) (by omega)
    show B_X8_by_57 _ _ _ _ _ _ _ _ _ = some (if t < s + j * (q + s) then lowV (12 ^ j - p ^ j) (12 ^ j) v else byV t s p q v n (j + 1), x)
    unfold B_X8_by_57 B_X8_by_116
    rw [if_neg z]
    by_cases c : t < s + j * (q + s)
    · rw [if_pos ((nI_lt6 (by omega) (by omega)).mpr c), if_pos c, (by_end hp (by omega) v).1, ob_s]
    · rw [if_neg (fun y => c ((nI_lt6 (by omega) (by omega)).mp y)), if_neg c, letx_s, hx, hy, lI_nI (by omega), lI_mul, nA_add, nA_add, nI_1]
      have e1 : lI (12 ^ j) * 12 = lI (12 ^ (j + 1)) := by rw [Nat.pow_succ, ← lI_mul]; rfl
      have e2 : s + j * (q + s) + (q + s) = s + (j + 1) * (q + s) := by rw [Nat.add_mul, Nat.one_mul]; omega
      rw [e1, e2, ← Nat.pow_succ]
      exact ih (j + 1) f (by omega) (by omega)
theorem byM {t s p q : Nat} (hs : s ≤ 999) (ht : t ≤ 9999) (hp : p ≤ 11) (hq : q ≤ 99) (v : Int32) {m : MM} (hx : mi m 80 3 = nI p) (hy : mi m 80 4 = nI q) : ∀ (n j fuel : Nat), j + n = 6 → n < fuel → f_X9_by_57 fuel (nI t) v (nI s) (lI (12 ^ j)) (lI (p ^ j)) (nI (j + 1)) m = some (byV t s p q v n j, m) := by
  intro n
  induction n with
  | zero =>
    intro j f hj hf
    obtain ⟨f, rfl⟩ : ∃ e, f = e + 1 := ⟨f - 1, by omega⟩
    have z : (6 : Int32) < nI (j + 1) := (nI_lt6 (n := 6) (by decide) (by omega)).mpr (by omega)
    show B_X9_by_57 _ _ _ _ _ _ _ _ = _
    unfold B_X9_by_57 B_X9_by_107
    rw [if_pos z, (by_end hp (by omega) v).2, ob_s]
    rfl
  | succ n ih =>
    intro j f hj hf
    obtain ⟨f, rfl⟩ : ∃ e, f = e + 1 := ⟨f - 1, by omega⟩
    have z : ¬ (6 : Int32) < nI (j + 1) := fun z => by have := (nI_lt6 (n := 6) (by decide) (by omega)).mp z; omega
    have hj5 : j * (q + s) ≤ 5 * 1098 := Nat.mul_le_mul (by omega) (by omega)
    have e3 : nI (j + 1) * nI s + (nI (j + 1) - 1) * nI q = nI (s + j * (q + s)) := by
      rw [nI_s1 (by omega), nI_mul, nI_mul, nA_add, Nat.add_mul, Nat.one_mul, Nat.mul_add]
      congr 1
      omega
    show B_X9_by_57 _ _ _ _ _ _ _ _ = some (if t < s + j * (q + s) then lowV (12 ^ j - p ^ j) (12 ^ j) v else byV t s p q v n (j + 1), m)
    unfold B_X9_by_57 B_X9_by_107
    rw [if_neg z, hy, e3]
    by_cases c : t < s + j * (q + s)
    · rw [if_pos ((nI_lt6 (by omega) (by omega)).mpr c), if_pos c, (by_end hp (by omega) v).2, ob_s]
    · rw [if_neg (fun y => c ((nI_lt6 (by omega) (by omega)).mp y)), if_neg c, letx_s, hx, lI_nI (by omega), lI_mul, nI_1]
      have e1 : lI (12 ^ j) * 12 = lI (12 ^ (j + 1)) := by rw [Nat.pow_succ, ← lI_mul]; rfl
      rw [e1, ← Nat.pow_succ]
      exact ih (j + 1) f (by omega) (by omega)
theorem cmd_by {x : MX} {m : MM} (v a w : Int32) (hR : Rel x m) : ∃ r x' m', f_X8_by v a w x = some (r, x') ∧ f_X9_by v a w m = some (r, m') ∧ Rel x' m' := by
  obtain ⟨nl, nc, ns, nh, h1, h2, h3⟩ := id hR
  obtain ⟨T, K⟩ := tk_ex hR
  have e0 : (0 : Int32).toInt = 0 := by decide
  have e9 : (9999 : Int32).toInt = 9999 := by decide
  have la := h1.2.2.1
  have lb := h1.2.2.2.1
  obtain ⟨p, q, hp, hq, d1, d2, d3, d4⟩ := tk_dr hR
  have k0 : f_X9_isIn a 0 9999 = decide (0 ≤ a.toInt ∧ a.toInt ≤ 9999) := by rw [isIn_eq, e0, e9]
  unfold f_X8_by f_X9_by
  rw [partX, k0]
  rcases pair_eq h1 v with ⟨p1, p2⟩ | ⟨p1, p2, c, b, hc, hb, ea, eb⟩
  · rw [p1, p2]
    exact ⟨_, x, m, rfl, rfl, hR⟩
  · rw [p1, p2, ob_s, ob_s, if_pos rfl, if_pos rfl, ea, eb]
    by_cases d : 0 ≤ a.toInt ∧ a.toInt ≤ 9999
    · have g1 : ¬ a < 0 := by rw [i_lt, e0]; omega
      have g2 : ¬ (9999 : Int32) < a := by rw [i_lt, e9]; omega
      rw [if_neg g1, if_neg g2, decide_eq_true d, if_pos rfl]
      by_cases z : f_X9_isIn w 0 1 = true
      · rw [if_pos z, if_pos z]
        obtain ⟨x1, E1, E2⟩ := nowX K (SameX.rf x) (a := c) (b := b) (by omega) (by omega)
        obtain ⟨m1, F1, F2⟩ := nowM K (SameM.rf m) (a := c) (b := b) (by omega) (by omega)
        obtain ⟨s, t1, t2, t3⟩ := now_nI K c b
        obtain ⟨t, ht, rfl⟩ := nI_ex (a := a) (n := 10000) d.1 (by omega)
        rw [t3] at E1 F1
        have rX := byX (t := t) (s := s) t2 (by omega) hp hq w (x := x1) ((E2.2.2 _ _ rfl).trans d3) ((E2.2.2 _ _ rfl).trans d4) 6 0 LF (by omega) (by unfold LF; omega)
        have rM := byM (t := t) (s := s) t2 (by omega) hp hq w (m := m1) ((F2.2 _ _ rfl).trans d1) ((F2.2 _ _ rfl).trans d2) 6 0 LF (by omega) (by unfold LF; omega)
        refine ⟨byV t s p q w 6 0, x1, m1, ?_, ?_, hR.same E2 F2⟩
        · rw [E1, ob2_s, ← rX, Nat.zero_mul, Nat.add_zero]
          rfl
        · rw [F1, ob2_s, ← rM]
          rfl
      · rw [if_neg z, if_neg z]
        exact ⟨_, x, m, rfl, rfl, hR⟩
    · refine ⟨-9223372036854775808, x, m, ?_, ?_, hR⟩
      · by_cases g1 : a < 0
        · rw [if_pos g1]
        · rw [if_neg g1, if_pos]
          rw [i_lt, e0] at g1
          rw [i_lt, e9]
          omega
      · rw [decide_eq_false d]; rfl
