/-! numbers -/
theorem i_lt {a b : Int32} : a < b ↔ a.toInt < b.toInt := Int32.lt_iff_toInt_lt
theorem i_le {a b : Int32} : a ≤ b ↔ a.toInt ≤ b.toInt := Int32.le_iff_toInt_le
theorem i_eq {a b : Int32} : a = b ↔ a.toInt = b.toInt := Int32.toInt_inj.symm
theorem i_lo (a : Int32) : -2147483648 ≤ a.toInt := Int32.le_toInt a
theorem i_hi (a : Int32) : a.toInt < 2147483648 := Int32.toInt_lt a
theorem inb_iff {i : Int32} {n : Nat} : inb i n = true ↔ 0 ≤ i.toInt ∧ i.toInt < n := by
  unfold inb
  simp only [decide_eq_true_eq, Int32.le_iff_toInt_le, Int32.toNatClampNeg]
  have : (0 : Int32).toInt = 0 := by decide
  rw [this]
  omega
theorem ix_eq (i : Int32) : ix i = i.toInt.toNat := rfl
theorem ix_nI {n : Nat} (h : n < 2147483648) : ix (nI n) = n := nI_clamp h
theorem nI_int {n : Nat} (h : n < 2147483648) : (nI n).toInt = n := nI_toInt h
theorem inb_nI {k n : Nat} (h : k < n) (hn : n < 2147483648) : inb (nI k) n = true := inb_iff.mpr (by rw [nI_int (by omega)]; omega)
theorem i_add {a b : Int32} (h1 : -2147483648 ≤ a.toInt + b.toInt) (h2 : a.toInt + b.toInt < 2147483648) : (a + b).toInt = a.toInt + b.toInt := by
  rw [Int32.toInt_add]
  exact Int.bmod_eq_of_le (by simpa using h1) (by simpa using h2)
theorem i_sub {a b : Int32} (h1 : -2147483648 ≤ a.toInt - b.toInt) (h2 : a.toInt - b.toInt < 2147483648) : (a - b).toInt = a.toInt - b.toInt := by
  rw [Int32.toInt_sub]
  exact Int.bmod_eq_of_le (by simpa using h1) (by simpa using h2)
theorem i_mul {a b : Int32} (h1 : -2147483648 ≤ a.toInt * b.toInt) (h2 : a.toInt * b.toInt < 2147483648) : (a * b).toInt = a.toInt * b.toInt := by
  rw [Int32.toInt_mul]
  exact Int.bmod_eq_of_le (by simpa using h1) (by simpa using h2)
theorem nI_of_toInt {a : Int32} (h : 0 ≤ a.toInt) : a = nI a.toInt.toNat := by
  rw [i_eq, nI_int (by have := i_hi a; omega)]
  omega
theorem nI_ex {a : Int32} {n : Nat} (h : 0 ≤ a.toInt) (h2 : a.toInt < n) : ∃ k : Nat, k < n ∧ a = nI k := ⟨a.toInt.toNat, by omega, nI_of_toInt h⟩
/-! memories -/
theorem xi_xs {x : MX} {h k h' k' : Nat} {v : Int32} : xi (xs x h k v) h' k' = if h' = h ∧ k' = k then v else xi x h' k' := by
  unfold xi xs up2
  by_cases e : h' = h
  · subst e
    by_cases e2 : k' = k <;> simp [e2]
  · simp [e]
theorem xl_xs {x : MX} {h k h' k' : Nat} {v : Int32} : xl (xs x h k v) h' k' = xl x h' k' := rfl
theorem xi_xsl {x : MX} {h k h' k' : Nat} {v : Int64} : xi (xsl x h k v) h' k' = xi x h' k' := rfl
theorem xl_xsl {x : MX} {h k h' k' : Nat} {v : Int64} : xl (xsl x h k v) h' k' = if h' = h ∧ k' = k then v else xl x h' k' := by
  unfold xl xsl up2
  by_cases e : h' = h
  · subst e
    by_cases e2 : k' = k <;> simp [e2]
  · simp [e]
theorem mi_ms {m : MM} {h k h' k' : Nat} {v : Int32} : mi (ms m h k v) h' k' = if h' = h ∧ k' = k then v else mi m h' k' := by
  unfold mi ms up2
  by_cases e : h' = h
  · subst e
    by_cases e2 : k' = k <;> simp [e2]
  · simp [e]
theorem ml_ms {m : MM} {h k h' k' : Nat} {v : Int32} : ml (ms m h k v) h' k' = ml m h' k' := rfl
theorem mi_msl {m : MM} {h k h' k' : Nat} {v : Int64} : mi (msl m h k v) h' k' = mi m h' k' := rfl
theorem ml_msl {m : MM} {h k h' k' : Nat} {v : Int64} : ml (msl m h k v) h' k' = if h' = h ∧ k' = k then v else ml m h' k' := by
  unfold ml msl up2
  by_cases e : h' = h
  · subst e
    by_cases e2 : k' = k <;> simp [e2]
  · simp [e]
theorem xs_1 {x : MX} {h k : Nat} {v : Int32} : (xs x h k v).1 = x.1 := rfl
theorem xsl_1 {x : MX} {h k : Nat} {v : Int64} : (xsl x h k v).1 = x.1 := rfl
/-! what may be asked for -/
theorem isIn_iff {v a b : Int32} : f_X9_isIn v a b = true ↔ a.toInt ≤ v.toInt ∧ v.toInt ≤ b.toInt := by
  unfold f_X9_isIn
  simp only [i_lt, i_le]
  split
  · simp; omega
  · split
    · simp; omega
    · simp; omega
def loN (w : Nat) : Int := match w with
  | 0 => 1
  | 10 => 1
  | 11 => 1
  | 12 => 1
  | _ => 0
def hiN (w : Nat) : Int := match w with
  | 4 => 1
  | 5 => 99
  | 6 => 9
  | 7 => 99
  | 8 => 99
  | 9 => 11
  | 10 => 99
  | 11 => 99
  | 12 => 99
  | _ => 9
theorem SA_lo : ∀ w, w < 13 → ((SA 0).getD w 0).toInt = loN w := by decide
theorem SA_hi : ∀ w, w < 13 → ((SA 1).getD w 0).toInt = hiN w := by decide
theorem canBe_eq {w : Nat} {v : Int32} (h : w < 13) : f_X8_canBe (nI w) v = some (decide (loN w ≤ v.toInt ∧ v.toInt ≤ hiN w)) := by
  unfold f_X8_canBe
  rw [if_pos (inb_nI h (by decide)), ix_nI (by omega)]
  simp only [i_lt, SA_lo w h, SA_hi w h]
  split
  · rw [decide_eq_false (by omega)]
  · split
    · rw [decide_eq_false (by omega)]
    · rw [decide_eq_true (by omega)]
