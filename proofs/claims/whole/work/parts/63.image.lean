theorem imageM {nc : Nat} (hc : nc ≤ 6) : ∀ (n j fuel : Nat) (m : MM), mi m 80 1 = nI nc → j + n = nc → n < fuel → ∃ m', f_X9_image_10 fuel (nI j) m = some (mi m 80 37, m') ∧ (∀ h k, ml m' h k = ml m h k) ∧ ∀ h k, mi m' h k = if h = 102 then (if k = 6 then mi m 90 0 else if k = 7 then mi m 90 1 else if k = 8 then mi m 80 37 else if k = 9 then mi m 80 38 else if k = 10 then mi m 80 39 else if k = 11 then mi m 80 40 else if j ≤ k ∧ k < nc then mi m 87 k else mi m 102 k) else mi m h k := by
  intro n
  induction n with
  | zero =>
    intro j fuel m hm hj hf
    obtain ⟨f, rfl⟩ : ∃ f, fuel = f + 1 := ⟨fuel - 1, by omega⟩
    have e : j = nc := by omega
    subst e
    refine ⟨ms (ms (ms (ms (ms (ms m 102 6 (mi m 90 0)) 102 7 (mi m 90 1)) 102 8 (mi m 80 37)) 102 9 (mi m 80 38)) 102 10 (mi m 80 39)) 102 11 (mi m 80 40), ?_, fun _ _ => rfl, fun h k => ?_⟩
    · show B_X9_image_10 _ _ _ = _
      unfold B_X9_image_10
      rw [hm, if_pos ((nI_lec (by omega) (by omega)).mpr (Nat.le_refl _))]
      simp [letx_s, mi_ms]
    · simp only [mi_ms]
      by_cases e : h = 102
      · subst e
        simp only [true_and, if_true]
        by_cases e1 : k = 6
        · subst e1; simp
        by_cases e2 : k = 7
        · subst e2; simp
        by_cases e3 : k = 8
        · subst e3; simp
        by_cases e4 : k = 9
        · subst e4; simp
        by_cases e5 : k = 10
        · subst e5; simp
        by_cases e6 : k = 11
        · subst e6; simp
        simp only [e1, e2, e3, e4, e5, e6, if_false]
        rw [if_neg (by omega)]
      · rw [if_neg (by omega), if_neg (by omega), if_neg (by omega), if_neg (by omega), if_neg (by omega), if_neg (by omega), if_neg e]
  | succ n ih =>
    intro j fuel m hm hj hf
    obtain ⟨f, rfl⟩ : ∃ f, fuel = f + 1 := ⟨fuel - 1, by omega⟩
    obtain ⟨m', g1, g3, g4⟩ := ih (j + 1) f (ms m 102 j (mi m 87 j)) (by rw [mi_ms, if_neg (by omega), hm]) (by omega) (by omega)
    have t : ∀ h k, h ≠ 102 → mi (ms m 102 j (mi m 87 j)) h k = mi m h k := fun h k q => by rw [mi_ms, if_neg (by omega)]
    refine ⟨m', ?_, g3, fun h k => ?_⟩
    · show B_X9_image_10 _ _ _ = _
      unfold B_X9_image_10
      have z : ¬ nI nc ≤ nI j := fun q => by have := (nI_lec (by omega) (by omega)).mp q; omega
      rw [hm, if_neg z, if_pos (inb_nI (by omega) (by decide)), if_pos (inb_nI (by omega) (by decide)), ix_nI (by omega), letx_s, nI_1]
      rw [t _ _ (by decide)] at g1
      exact g1
    · rw [g4]
      simp only [t 80 _ (by decide), t 87 _ (by decide), t 90 _ (by decide)]
      by_cases e : h = 102
      · subst e
        rw [if_pos rfl, if_pos rfl]
        have L : (if j + 1 ≤ k ∧ k < nc then mi m 87 k else mi (ms m 102 j (mi m 87 j)) 102 k) = if j ≤ k ∧ k < nc then mi m 87 k else mi m 102 k := by
          rw [mi_ms]
          by_cases e2 : k = j
          · subst e2
            rw [if_neg (show ¬ (k + 1 ≤ k ∧ k < nc) by omega), if_pos ⟨rfl, rfl⟩, if_pos (show k ≤ k ∧ k < nc by omega)]
          · rw [if_neg (show ¬ (102 = 102 ∧ k = j) from fun z => e2 z.2)]
            by_cases e3 : j + 1 ≤ k ∧ k < nc
            · rw [if_pos e3, if_pos (show j ≤ k ∧ k < nc by omega)]
            · rw [if_neg e3, if_neg (show ¬ (j ≤ k ∧ k < nc) by omega)]
        rw [L]
      · rw [if_neg e, if_neg e, t _ _ e]
theorem cmd_image {x : MX} {m : MM} (h : Rel x m) : ∃ r x' m', f_X8_image x = some (r, x') ∧ f_X9_image m = some (r, m') ∧ Rel x' m' := by
  obtain ⟨nl, nc, ns, nh, h1, h2, h3, h4, h5, h6, h7, h8, h9, h10⟩ := h
  have hc := h1.2.2.2.1
  have hcnt : mi (ms m 80 42 (mi m 80 1)) 80 1 = nI nc := by rw [mi_ms, if_neg (by omega)]; exact h1.2.1.2.1
  obtain ⟨m', w1, w3, w4⟩ := imageM hc nc 0 LF (ms m 80 42 (mi m 80 1)) hcnt (by omega) (by unfold LF; omega)
  have t : ∀ h k, ¬ (h = 80 ∧ k = 42) → mi (ms m 80 42 (mi m 80 1)) h k = mi m h k := fun h k q => by rw [mi_ms, if_neg q]
  have M : ∀ h k, h ≠ 102 → ¬ (h = 80 ∧ k = 42) → mi m' h k = mi m h k := fun h k q1 q2 => by rw [w4, if_neg q1, t _ _ q2]
  let X3 := xcp (xcp (xcp x 26 29 0 0 6) 27 30 0 0 4) 15 31 0 0 2
  have X : ∀ h k, h ≠ 29 → h ≠ 30 → h ≠ 31 → ¬ (h = 5 ∧ k = 15) → xi (xs X3 5 15 1) h k = xi x h k := fun h k q1 q2 q3 q4 => by
    rw [xi_xs, if_neg q4]
    show xi (xcp (xcp (xcp x 26 29 0 0 6) 27 30 0 0 4) 15 31 0 0 2) h k = _
    rw [xi_xcp, if_neg (by omega), xi_xcp, if_neg (by omega), xi_xcp, if_neg (by omega)]
  have X29 : ∀ k, k < 6 → xi (xs X3 5 15 1) 29 k = xi x 26 k := fun k hk => by
    rw [xi_xs, if_neg (by omega)]
    show xi (xcp (xcp (xcp x 26 29 0 0 6) 27 30 0 0 4) 15 31 0 0 2) 29 k = _
    rw [xi_xcp, if_neg (by omega), xi_xcp, if_neg (by omega), xi_xcp, if_pos ⟨rfl, by omega, by omega⟩, show 0 + (k - 0) = k by omega]
  have X30 : ∀ k, k < 4 → xi (xs X3 5 15 1) 30 k = xi x 27 k := fun k hk => by
    rw [xi_xs, if_neg (by omega)]
    show xi (xcp (xcp (xcp x 26 29 0 0 6) 27 30 0 0 4) 15 31 0 0 2) 30 k = _
    rw [xi_xcp, if_neg (by omega), xi_xcp, if_pos ⟨rfl, by omega, by omega⟩, xi_xcp, if_neg (by omega), show 0 + (k - 0) = k by omega]
  have X31 : ∀ k, k < 2 → xi (xs X3 5 15 1) 31 k = xi x 15 k := fun k hk => by
    rw [xi_xs, if_neg (by omega)]
    show xi (xcp (xcp (xcp x 26 29 0 0 6) 27 30 0 0 4) 15 31 0 0 2) 31 k = _
    rw [xi_xcp, if_pos ⟨rfl, by omega, by omega⟩, xi_xcp, if_neg (by omega), xi_xcp, if_neg (by omega), show 0 + (k - 0) = k by omega]
  refine ⟨mi m 80 37, xs X3 5 15 1, m', ?_, ?_, nl, nc, ns, nh, ?_⟩
  · show some (xi (xs X3 5 15 1) 27 0, xs X3 5 15 1) = _
    rw [X _ _ (by decide) (by decide) (by decide) (by decide), h4.1]
  · show f_X9_image_10 LF 0 (ms m 80 42 (mi m 80 1)) = _
    rw [t 80 37 (by decide)] at w1
    exact w1
  · apply rest_in h1 h6 h7 h8 h9 h10
    · rfl
    · exact fun h k q => X h k (by unfold offX at q; omega) (by unfold offX at q; omega) (by unfold offX at q; omega) (by unfold offX at q; omega)
    · intro _ _; rfl
    · exact fun h k q => M h k (by unfold offI at q; omega) (by unfold offI at q; omega)
    · exact w3
    · refine h2.cg (fun w k hw _ => X _ _ (by omega) (by omega) (by omega) (by omega)) (fun w k hw => ?_)
      match w, hw with
      | 0, _ | 1, _ | 2, _ | 3, _ | 4, _ | 5, _ | 6, _ | 7, _ | 8, _ | 9, _ | 10, _ | 11, _ | 12, _ => exact M _ _ (by omega) (by omega)
    · exact h3.cg (fun k => X _ _ (by decide) (by decide) (by decide) (by omega)) (fun k => M _ _ (by decide) (by omega))
    · exact h4.cg (fun k => X _ _ (by decide) (by decide) (by decide) (by omega)) (M _ _ (by decide) (by decide)) (M _ _ (by decide) (by decide)) (M _ _ (by decide) (by decide)) (M _ _ (by decide) (by decide))
    · refine Or.inr ⟨nc, Nat.le_refl _, ?_, ?_, fun k hk => ?_, fun k q1 q2 => ?_, fun j hj => ?_, fun j hj => ?_⟩
      · rw [w4, if_neg (by decide), mi_ms, if_pos ⟨rfl, rfl⟩]; exact h1.2.1.2.1
      · rw [xi_xs, if_pos ⟨rfl, rfl⟩]
      · have e : mi m' 102 k = mi m 87 k := by
          rw [w4, if_pos rfl, if_neg (by omega), if_neg (by omega), if_neg (by omega), if_neg (by omega), if_neg (by omega), if_neg (by omega), if_pos (by omega), t _ _ (by omega)]
        rw [e, X29 k (by omega)]
        exact h3.1 k hk
      · rw [X29 k q2]
        exact h3.2 k q1 q2
      · rw [X30 j hj, w4, if_pos rfl]
        simp only [t 80 37 (by decide), t 80 38 (by decide), t 80 39 (by decide), t 80 40 (by decide)]
        obtain ⟨l1, l2, l3, l4⟩ := h4
        match j, hj with
        | 0, _ => simpa using l1
        | 1, _ => simpa using l2
        | 2, _ => simpa using l3
        | 3, _ => simpa using l4
      · have E : mi m' 102 (6 + j) = mi m 90 j := by
          match j, hj with
          | 0, _ => rw [w4, if_pos rfl, if_pos rfl, t _ _ (by decide)]
          | 1, _ => rw [w4, if_pos rfl, if_neg (by decide), if_pos rfl, t _ _ (by decide)]
        rw [X31 j hj, E]
        exact h2.1 8 j (by decide) hj
