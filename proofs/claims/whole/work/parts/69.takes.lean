def clampT (v : Int32) : Int32 := if 1 ≤ v then (if v ≤ 999 then v else 999) else 1
theorem clampX (v : Int32) : imax 1 (imin 999 v) = clampT v := by
  have e1 : (1 : Int32).toInt = 1 := by decide
  have e9 : (999 : Int32).toInt = 999 := by decide
  unfold imax imin clampT
  simp only [i_lt, i_le]
  by_cases h1 : 1 ≤ v.toInt
  · by_cases h2 : v.toInt ≤ 999
    · by_cases h3 : v.toInt = 999
      · have : v = 999 := by rw [i_eq, e9]; exact h3
        subst this
        decide
      · simp only [e1, e9]
        repeat' split
        all_goals first | rfl | (rw [i_eq]; omega) | omega
    · simp only [e1, e9]
      repeat' split
      all_goals first | rfl | (rw [i_eq]; omega) | omega
  · simp only [e1, e9]
    repeat' split
    all_goals first | rfl | (rw [i_eq]; omega) | omega
theorem clampM (v : Int32) (m : MM) : B_X9_takesSo_130 v m = some (clampT v, m) := by
  unfold B_X9_takesSo_130 clampT
  by_cases h1 : 1 ≤ v
  · rw [if_pos h1, if_pos h1]
    by_cases h2 : v ≤ 999
    · rw [if_pos h2, if_pos h2]
    · rw [if_neg h2, if_neg h2]
  · rw [if_neg h1, if_neg h1]
def lackT (a b : Int32) : Int32 := if a ≤ b then 0 else a - b
theorem lackX {a b : Int32} (h1 : 0 ≤ a.toInt ∧ a.toInt ≤ 9) (h2 : 0 ≤ b.toInt ∧ b.toInt ≤ 9) : imax 0 (a - b) = lackT a b ∧ 0 ≤ (lackT a b).toInt ∧ (lackT a b).toInt ≤ 9 := by
  have e0 : (0 : Int32).toInt = 0 := by decide
  have s : (a - b).toInt = a.toInt - b.toInt := i_sub (by omega) (by omega)
  unfold imax lackT
  simp only [i_lt, i_le, e0, s]
  by_cases h : a.toInt ≤ b.toInt
  · simp only [if_pos h]
    refine ⟨?_, by decide, by decide⟩
    repeat' split
    all_goals first | rfl | (rw [i_eq, s, e0]; omega) | omega
  · simp only [if_neg h, s]
    refine ⟨?_, by omega, by omega⟩
    repeat' split
    all_goals first | rfl | (rw [i_eq, s, e0]; omega) | omega
