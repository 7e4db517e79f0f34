def lI (n : Nat) : Int64 := Int64.ofNat n
theorem lI_int {n : Nat} (h : n < 9223372036854775808) : (lI n).toInt = n := Int64.toInt_ofNat_of_lt h
theorem lI_eqc {n k : Nat} (h : n < 9223372036854775808) (h2 : k < 9223372036854775808) : lI n = lI k ↔ n = k := by
  rw [← Int64.toInt_inj, lI_int h, lI_int h2]; omega
theorem lI_mod {n k : Nat} (h : n < 9223372036854775808) (h2 : k < 9223372036854775808) : lI n % lI k = lI (n % k) := (Int64.ofNat_mod h h2).symm
theorem lI_add (n k : Nat) : lI n + lI k = lI (n + k) := (Int64.ofNat_add n k).symm
theorem lI_mul (n k : Nat) : lI n * lI k = lI (n * k) := (Int64.ofNat_mul n k).symm
theorem lI_sub {n k : Nat} (h : k ≤ n) : lI n - lI k = lI (n - k) := (Int64.ofNat_sub n k h).symm
theorem nA_add (n k : Nat) : nI n + nI k = nI (n + k) := (Int32.ofNat_add n k).symm
theorem nI_mul (n k : Nat) : nI n * nI k = nI (n * k) := (Int32.ofNat_mul n k).symm
theorem nI_sub {n k : Nat} (h : k ≤ n) : nI n - nI k = nI (n - k) := (Int32.ofNat_sub n k h).symm
theorem lI_nI {n : Nat} (h : n < 2147483648) : Int32.toInt64 (nI n) = lI n := by
  rw [← Int64.toInt_inj, Int32.toInt_toInt64, nI_int h, lI_int (by omega)]
theorem cmp0 (v : Int64) : lg_cmp v 0 = 0 ↔ v = 0 := by
  unfold lg_cmp
  by_cases c : v > 0
  · rw [if_pos c]
    refine ⟨fun q => absurd q (by decide), fun q => ?_⟩
    subst q
    revert c
    decide
  · rw [if_neg c]
    by_cases d : v = 0
    · rw [if_pos d]; exact ⟨fun _ => d, fun _ => rfl⟩
    · rw [if_neg d]
      exact ⟨fun q => absurd q (by decide), fun q => absurd q d⟩
theorem gcd_next {D R : Nat} : Nat.gcd D R = Nat.gcd R (D % R) := by
  rw [Nat.gcd_comm D R, Nat.gcd_rec R D, Nat.gcd_comm]
theorem gcd_half {D R n : Nat} (h : R ≤ D) (hR : 0 < R) (hm : D * R < 2 ^ (n + 1)) : R * (D % R) < 2 ^ n := by
  have h1 : D % R < R := Nat.mod_lt D hR
  have h2 : R + D % R ≤ D := by
    have h3 := Nat.mod_add_div D R
    have h4 : 1 ≤ D / R := (Nat.le_div_iff_mul_le hR).mpr (by omega)
    have h5 : R * 1 ≤ R * (D / R) := Nat.mul_le_mul_left R h4
    omega
  have h6 : 2 * (D % R) ≤ D := by omega
  have h7 : R * (2 * (D % R)) ≤ R * D := Nat.mul_le_mul_left R h6
  have h8 : R * (2 * (D % R)) = 2 * (R * (D % R)) := by rw [Nat.mul_left_comm]
  have h9 : D * R = R * D := Nat.mul_comm D R
  have h10 : 2 ^ (n + 1) = 2 * 2 ^ n := by rw [Nat.pow_succ, Nat.mul_comm]
  omega
theorem gcdX (v0 v2 : Int64) (v4 : Int32) : ∀ (n D R k fuel : Nat), R ≤ D → D < 1099511627776 → D * R < 2 ^ n → k + n < 99 → n + 1 < fuel → f_X8_inLowestTerms_9 fuel v0 v2 v4 (lI D) (lI R) (nI k) = B_X8_inLowestTerms_44 v0 v2 v4 (lI (Nat.gcd D R)) := by
  intro n
  induction n with
  | zero =>
    intro D R k fuel h1 h2 h3 h4 h5
    obtain ⟨f, rfl⟩ : ∃ e, fuel = e + 1 := ⟨fuel - 1, by omega⟩
    have hR : R = 0 := by
      rcases Nat.eq_zero_or_pos R with h | h
      · exact h
      · have := Nat.mul_le_mul h1 h
        have h6 : 0 < D := by omega
        have h7 : 0 < D * R := Nat.mul_pos h6 h
        simp only [Nat.pow_zero] at h3
        omega
    subst hR
    have z : ¬ (100 : Int32) ≤ nI k := fun q => by have := (nI_lec (n := 100) (by decide) (by omega)).mp q; omega
    show B_X8_inLowestTerms_9 _ _ _ _ _ _ _ = _
    unfold B_X8_inLowestTerms_9
    rw [if_neg z, if_pos ((cmp0 (lI 0)).mpr rfl), Nat.gcd_zero_right]
  | succ n ih =>
    intro D R k fuel h1 h2 h3 h4 h5
    obtain ⟨f, rfl⟩ : ∃ e, fuel = e + 1 := ⟨fuel - 1, by omega⟩
    have z : ¬ (100 : Int32) ≤ nI k := fun q => by have := (nI_lec (n := 100) (by decide) (by omega)).mp q; omega
    show B_X8_inLowestTerms_9 _ _ _ _ _ _ _ = _
    unfold B_X8_inLowestTerms_9
    rw [if_neg z]
    rcases Nat.eq_zero_or_pos R with h | h
    · subst h
      rw [if_pos ((cmp0 (lI 0)).mpr rfl), Nat.gcd_zero_right]
    · have nz : ¬ lI R = 0 := fun q => by have := (lI_eqc (n := R) (k := 0) (by omega) (by decide)).mp q; omega
      have hm : D % R < R := Nat.mod_lt D h
      rw [if_neg (fun q => nz ((cmp0 _).mp q)), if_pos nz, lI_mod (by omega) (by omega), nI_1, gcd_next]
      exact ih R (D % R) (k + 1) f (by omega) (by omega) (gcd_half h1 h h3) (by omega) (by omega)
theorem gcdM : ∀ (n D R fuel : Nat), R ≤ D → D < 1099511627776 → D * R < 2 ^ n → n + 1 < fuel → G_X9_common fuel (lI D) (lI R) = some (lI (Nat.gcd D R)) := by
  intro n
  induction n with
  | zero =>
    intro D R fuel h1 h2 h3 h5
    obtain ⟨f, rfl⟩ : ∃ e, fuel = e + 1 := ⟨fuel - 1, by omega⟩
    have hR : R = 0 := by
      rcases Nat.eq_zero_or_pos R with h | h
      · exact h
      · have h6 : 0 < D := by omega
        have h7 : 0 < D * R := Nat.mul_pos h6 h
        simp only [Nat.pow_zero] at h3
        omega
    subst hR
    show R_X9_common _ _ _ = _
    unfold R_X9_common
    rw [if_pos ((cmp0 (lI 0)).mpr rfl), Nat.gcd_zero_right]
  | succ n ih =>
    intro D R fuel h1 h2 h3 h5
    obtain ⟨f, rfl⟩ : ∃ e, fuel = e + 1 := ⟨fuel - 1, by omega⟩
    show R_X9_common _ _ _ = _
    unfold R_X9_common
    rcases Nat.eq_zero_or_pos R with h | h
    · subst h
      rw [if_pos ((cmp0 (lI 0)).mpr rfl), Nat.gcd_zero_right]
    · have nz : ¬ lI R = 0 := fun q => by have := (lI_eqc (n := R) (k := 0) (by omega) (by decide)).mp q; omega
      have hm : D % R < R := Nat.mod_lt D h
      rw [if_neg (fun q => nz ((cmp0 _).mp q)), if_pos nz, lI_mod (by omega) (by omega), gcd_next, ih R (D % R) f (by omega) (by omega) (gcd_half h1 h h3) (by omega), ob_s]
theorem mul80 {D R : Nat} (h1 : D < 1099511627776) (h2 : R < 1099511627776) : D * R < 2 ^ 80 := by
  have h := Nat.mul_lt_mul'' h1 h2
  have e : (1099511627776 : Nat) * 1099511627776 = 2 ^ 80 := by decide
  omega
def lowV (A B : Nat) (v : Int32) : Int64 := if v = 0 then lI A / lI (Nat.gcd B A) else lI B / lI (Nat.gcd B A)
theorem lowXx {A B : Nat} (hA : A < 1099511627776) (hB : B < 1099511627776) (h0 : 0 < B) (v : Int32) : f_X8_inLowestTerms (lI A) (lI B) v = some (lowV A B v) := by
  have hg : 0 < Nat.gcd B A := Nat.gcd_pos_of_pos_left A h0
  have hl : Nat.gcd B A ≤ B := Nat.le_of_dvd h0 (Nat.gcd_dvd_left B A)
  have nz : ¬ lI (Nat.gcd B A) = 0 := fun q => by have := (lI_eqc (n := Nat.gcd B A) (k := 0) (by omega) (by decide)).mp q; omega
  have fin : B_X8_inLowestTerms_44 (lI A) (lI B) v (lI (Nat.gcd B A)) = some (lowV A B v) := by
    unfold B_X8_inLowestTerms_44 lowV
    rw [if_neg (fun q => nz ((cmp0 _).mp q))]
    by_cases c : v = 0
    · rw [if_pos c, if_pos c, if_pos nz]
    · rw [if_neg c, if_neg c, if_pos nz]
  rw [← fin]
  unfold f_X8_inLowestTerms
  by_cases c : A ≤ B
  · exact gcdX (lI A) (lI B) v 80 B A 0 LF c hB (mul80 hB hA) (by decide) (by unfold LF; omega)
  · have z : ¬ (100 : Int32) ≤ 0 := by decide
    have nA : ¬ lI A = 0 := fun q => by have := (lI_eqc (n := A) (k := 0) (by omega) (by decide)).mp q; omega
    show B_X8_inLowestTerms_9 (f_X8_inLowestTerms_9 4999) _ _ _ _ _ _ = _
    unfold B_X8_inLowestTerms_9
    rw [if_neg z, if_neg (fun q => nA ((cmp0 _).mp q)), if_pos nA, lI_mod (by omega) (by omega), Nat.mod_eq_of_lt (show B < A by omega), Nat.gcd_comm B A]
    exact gcdX (lI A) (lI B) v 80 A B 1 4999 (by omega) hA (mul80 hA hB) (by decide) (by omega)
theorem lowMm {A B : Nat} (hA : A < 1099511627776) (hB : B < 1099511627776) (h0 : 0 < B) (v : Int32) : f_X9_lowest (lI A) (lI B) v = some (lowV A B v) := by
  have hg : 0 < Nat.gcd B A := Nat.gcd_pos_of_pos_left A h0
  have hl : Nat.gcd B A ≤ B := Nat.le_of_dvd h0 (Nat.gcd_dvd_left B A)
  have nz : ¬ lI (Nat.gcd B A) = 0 := fun q => by have := (lI_eqc (n := Nat.gcd B A) (k := 0) (by omega) (by decide)).mp q; omega
  have e : f_X9_common (lI A) (lI B) = some (lI (Nat.gcd B A)) := by
    unfold f_X9_common
    by_cases c : B ≤ A
    · rw [Nat.gcd_comm B A]
      exact gcdM 80 A B RF c hA (mul80 hA hB) (by decide)
    · have nB : ¬ lI B = 0 := fun q => by have := (lI_eqc (n := B) (k := 0) (by omega) (by decide)).mp q; omega
      show R_X9_common (G_X9_common 99) _ _ = _
      unfold R_X9_common
      rw [if_neg (fun q => nB ((cmp0 _).mp q)), if_pos nB, lI_mod (by omega) (by omega), Nat.mod_eq_of_lt (show A < B by omega), gcdM 80 B A 99 (by omega) hB (mul80 hB hA) (by decide), ob_s]
  unfold f_X9_lowest lowV
  rw [e, ob_s]
  by_cases c : v = 0
  · rw [if_pos c, if_pos c, if_pos nz]
  · rw [if_neg c, if_neg c, if_pos nz]
