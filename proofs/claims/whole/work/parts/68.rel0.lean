theorem rel0 : Rel x00 m00 := by
  refine ⟨0, 0, 0, 0, ?_, ?_, ?_, ?_, ?_, ?_, ?_, ?_, ?_, ?_⟩
  · exact ⟨⟨rfl, rfl, rfl⟩, ⟨rfl, rfl, rfl⟩, by decide, by decide, by decide⟩
  · refine ⟨?_, ?_⟩
    · have h : ∀ w, w < 13 → ∀ k, k < nsz w → xi x00 (7 + w) k = mnum m00 w k ∧ 0 ≤ (mnum m00 w k).toInt ∧ (mnum m00 w k).toInt ≤ hiN w := by decide +kernel
      exact fun w k hw hk => h w hw k hk
    · have h : ∀ w, w < 13 → ∀ k, k < hol 0 0 0 w → loN w ≤ (mnum m00 w k).toInt := by decide +kernel
      exact fun w k hw hk => h w hw k hk
  · have h : ∀ k, k < 6 → xi x00 26 k = -2 := by decide +kernel
    exact ⟨fun k hk => absurd hk (Nat.not_lt_zero k), fun k _ hk => h k hk⟩
  · exact ⟨rfl, rfl, rfl, rfl⟩
  · exact Or.inl ⟨rfl, rfl⟩
  · exact ⟨0, 0, Nat.le_refl _, by decide, rfl, rfl, rfl, rfl, fun k hk => absurd hk (Nat.not_lt_zero k)⟩
  · exact ⟨Or.inl rfl, Or.inr rfl, by decide, rfl, 0, by decide, rfl, rfl, fun k hk => absurd hk (Nat.not_lt_zero k)⟩
  · exact Or.inl ⟨rfl, rfl⟩
  · refine ⟨by decide, rfl, rfl, fun k hk => absurd hk (Nat.not_lt_zero k), rfl, fun k _ hk => ?_⟩
    have e : (mi m00 80 7).toInt = 0 := by decide +kernel
    rw [e] at hk
    omega
  · have h : ∀ s, s < 6 → mi m00 105 s = 0 ∧ xi x00 (68 + 2 * s) 1 = -2 := by decide +kernel
    exact fun s hs => Or.inl (h s hs)
