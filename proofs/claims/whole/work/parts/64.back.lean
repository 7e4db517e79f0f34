theorem backM {nc kc : Nat} (hc : nc ≤ 6) (hk : kc ≤ nc) : ∀ (n j fuel : Nat) (m : MM), mi m 80 1 = nI nc → mi m 80 42 = nI kc → j + n = nc → n < fuel → ∃ m', f_X9_back_12 fuel (nI j) m = some (mi m 102 8, m') ∧ (∀ h k, ml m' h k = ml m h k) ∧ ∀ h k, mi m' h k = if h = 90 ∧ k = 0 then mi m 102 6 else if h = 90 ∧ k = 1 then mi m 102 7 else if h = 80 ∧ k = 37 then mi m 102 8 else if h = 80 ∧ k = 38 then mi m 102 9 else if h = 80 ∧ k = 39 then mi m 102 10 else if h = 80 ∧ k = 40 then mi m 102 11 else if h = 87 ∧ j ≤ k ∧ k < nc then (if kc ≤ k then -2 else mi m 102 k) else mi m h k := by
  intro n
  induction n with
  | zero =>
    intro j fuel m hm hm2 hj hf
    obtain ⟨f, rfl⟩ : ∃ f, fuel = f + 1 := ⟨fuel - 1, by omega⟩
    have e : j = nc := by omega
    subst e
    refine ⟨ms (ms (ms (ms (ms (ms m 90 0 (mi m 102 6)) 90 1 (mi m 102 7)) 80 37 (mi m 102 8)) 80 38 (mi m 102 9)) 80 39 (mi m 102 10)) 80 40 (mi m 102 11), ?_, fun _ _ => rfl, fun h k => ?_⟩
    · show B_X9_back_12 _ _ _ = _
      unfold B_X9_back_12
      rw [hm, if_pos ((nI_lec (by omega) (by omega)).mpr (Nat.le_refl _))]
      simp [letx_s, mi_ms]
    · simp only [mi_ms]
      by_cases a1 : h = 90 ∧ k = 0
      · obtain ⟨rfl, rfl⟩ := a1; simp
      by_cases a2 : h = 90 ∧ k = 1
      · obtain ⟨rfl, rfl⟩ := a2; simp
      by_cases a3 : h = 80 ∧ k = 37
      · obtain ⟨rfl, rfl⟩ := a3; simp
      by_cases a4 : h = 80 ∧ k = 38
      · obtain ⟨rfl, rfl⟩ := a4; simp
      by_cases a5 : h = 80 ∧ k = 39
      · obtain ⟨rfl, rfl⟩ := a5; simp
      by_cases a6 : h = 80 ∧ k = 40
      · obtain ⟨rfl, rfl⟩ := a6; simp
      rw [if_neg a1, if_neg a2, if_neg a3, if_neg a4, if_neg a5, if_neg a6, if_neg a6, if_neg a5, if_neg a4, if_neg a3, if_neg a2, if_neg a1, if_neg (by omega)]
  | succ n ih =>
    intro j fuel m hm hm2 hj hf
    obtain ⟨f, rfl⟩ : ∃ f, fuel = f + 1 := ⟨fuel - 1, by omega⟩
    obtain ⟨v, hv⟩ : ∃ v, v = if kc ≤ j then -2 else mi m 102 j := ⟨_, rfl⟩
    obtain ⟨m', g1, g3, g4⟩ := ih (j + 1) f (ms m 87 j v) (by rw [mi_ms, if_neg (by omega), hm]) (by rw [mi_ms, if_neg (by omega), hm2]) (by omega) (by omega)
    have t : ∀ h k, h ≠ 87 → mi (ms m 87 j v) h k = mi m h k := fun h k q => by rw [mi_ms, if_neg (by omega)]
    refine ⟨m', ?_, g3, fun h k => ?_⟩
    · show B_X9_back_12 _ _ _ = _
      unfold B_X9_back_12 B_X9_back_44
      have z : ¬ nI nc ≤ nI j := fun q => by have := (nI_lec (by omega) (by omega)).mp q; omega
      rw [t _ _ (by decide)] at g1
      rw [hm, if_neg z, hm2]
      by_cases q : kc ≤ j
      · rw [if_pos ((nI_lec (by omega) (by omega)).mpr q), if_pos (inb_nI (by omega) (by decide)), ix_nI (by omega), letx_s, nI_1]
        rw [if_pos q] at hv
        rw [← hv]
        exact g1
      · rw [if_neg (fun y => q ((nI_lec (by omega) (by omega)).mp y)), if_pos (inb_nI (by omega) (by decide)), if_pos (inb_nI (by omega) (by decide)), ix_nI (by omega), letx_s, nI_1]
        rw [if_neg q] at hv
        rw [← hv]
        exact g1
    · rw [g4]
      simp only [t 102 _ (by decide)]
      have L : (if h = 87 ∧ j + 1 ≤ k ∧ k < nc then (if kc ≤ k then -2 else mi m 102 k) else mi (ms m 87 j v) h k) = if h = 87 ∧ j ≤ k ∧ k < nc then (if kc ≤ k then -2 else mi m 102 k) else mi m h k := by
        rw [mi_ms]
        by_cases e2 : h = 87 ∧ k = j
        · obtain ⟨rfl, rfl⟩ := e2
          rw [if_neg (show ¬ (87 = 87 ∧ k + 1 ≤ k ∧ k < nc) by omega), if_pos ⟨rfl, rfl⟩, if_pos (show 87 = 87 ∧ k ≤ k ∧ k < nc by omega), hv]
        · rw [if_neg e2]
          by_cases e3 : h = 87 ∧ j + 1 ≤ k ∧ k < nc
          · rw [if_pos e3, if_pos (show h = 87 ∧ j ≤ k ∧ k < nc by omega)]
          · rw [if_neg e3, if_neg (show ¬ (h = 87 ∧ j ≤ k ∧ k < nc) by omega)]
      rw [L]
theorem cmd_back {x : MX} {m : MM} (h : Rel x m) : ∃ r x' m', f_X8_back x = some (r, x') ∧ f_X9_back m = some (r, m') ∧ Rel x' m' := by
  have hR := h
  obtain ⟨nl, nc, ns, nh, h1, h2, h3, h4, h5, h6, h7, h8, h9, h10⟩ := h
  have hc := h1.2.2.2.1
  rcases id h5 with ⟨k1, k2⟩ | ⟨kc, k0, k1, k2, k3, k4, k5, k6⟩
  · refine ⟨-5, x, m, ?_, ?_, hR⟩
    · unfold f_X8_back
      rw [k2, if_pos rfl]
    · unfold f_X9_back
      rw [k1]; rfl
  · obtain ⟨m', w1, w3, w4⟩ := backM hc k0 nc 0 LF m h1.2.1.2.1 k1 (by omega) (by unfold LF; omega)
    have M : ∀ h k, h ≠ 90 → h ≠ 87 → ¬ (h = 80 ∧ 37 ≤ k ∧ k ≤ 40) → mi m' h k = mi m h k := fun h k q1 q2 q3 => by
      rw [w4, if_neg (by omega), if_neg (by omega), if_neg (by omega), if_neg (by omega), if_neg (by omega), if_neg (by omega), if_neg (by omega)]
    let X3 := xcp (xcp (xcp x 29 26 0 0 6) 30 27 0 0 4) 31 15 0 0 2
    have X : ∀ h k, h ≠ 26 → h ≠ 27 → h ≠ 15 → xi X3 h k = xi x h k := fun h k q1 q2 q3 => by
      show xi (xcp (xcp (xcp x 29 26 0 0 6) 30 27 0 0 4) 31 15 0 0 2) h k = _
      rw [xi_xcp, if_neg (by omega), xi_xcp, if_neg (by omega), xi_xcp, if_neg (by omega)]
    have X26 : ∀ k, k < 6 → xi X3 26 k = xi x 29 k := fun k hk => by
      show xi (xcp (xcp (xcp x 29 26 0 0 6) 30 27 0 0 4) 31 15 0 0 2) 26 k = _
      rw [xi_xcp, if_neg (by omega), xi_xcp, if_neg (by omega), xi_xcp, if_pos ⟨rfl, by omega, by omega⟩, show 0 + (k - 0) = k by omega]
    have X27 : ∀ k, k < 4 → xi X3 27 k = xi x 30 k := fun k hk => by
      show xi (xcp (xcp (xcp x 29 26 0 0 6) 30 27 0 0 4) 31 15 0 0 2) 27 k = _
      rw [xi_xcp, if_neg (by omega), xi_xcp, if_pos ⟨rfl, by omega, by omega⟩, xi_xcp, if_neg (by omega), show 0 + (k - 0) = k by omega]
    have X15 : ∀ k, k < 2 → xi X3 15 k = xi x 31 k := fun k hk => by
      show xi (xcp (xcp (xcp x 29 26 0 0 6) 30 27 0 0 4) 31 15 0 0 2) 15 k = _
      rw [xi_xcp, if_pos ⟨rfl, by omega, by omega⟩, xi_xcp, if_neg (by omega), xi_xcp, if_neg (by omega), show 0 + (k - 0) = k by omega]
    have M90 : ∀ k, k < 2 → mi m' 90 k = mi m 102 (6 + k) := fun k hk => by
      match k, hk with
      | 0, _ => rw [w4, if_pos ⟨rfl, rfl⟩]
      | 1, _ => rw [w4, if_neg (by omega), if_pos ⟨rfl, rfl⟩]
    have M87 : ∀ k, k < nc → mi m' 87 k = if kc ≤ k then -2 else mi m 102 k := fun k hk => by
      rw [w4, if_neg (by omega), if_neg (by omega), if_neg (by omega), if_neg (by omega), if_neg (by omega), if_neg (by omega), if_pos ⟨rfl, by omega, hk⟩]
    refine ⟨mi m 102 8, X3, m', ?_, ?_, nl, nc, ns, nh, ?_⟩
    · show (if xi x 5 15 = 0 then some (-5, x) else some (xi X3 27 0, X3)) = _
      rw [k2, if_neg (by decide), X27 0 (by decide), k5 0 (by decide)]
    · unfold f_X9_back
      have z : (0 : Int32) ≤ nI kc := by
        rw [i_le, nI_int (by omega), show (0 : Int32).toInt = 0 by decide]; omega
      rw [k1, if_pos z]
      exact w1
    · apply rest_in h1 h6 h7 h8 h9 h10
      · rfl
      · exact fun h k q => X h k (by unfold offX at q; omega) (by unfold offX at q; omega) (by unfold offX at q; omega)
      · intro _ _; rfl
      · exact fun h k q => M h k (by unfold offI at q; omega) (by unfold offI at q; omega) (by unfold offI at q; omega)
      · exact w3
      · refine ⟨fun w k hw hk => ?_, fun w k hw hk => ?_⟩
        · by_cases e : w = 8
          · subst e
            have hk2 : k < 2 := hk
            show xi X3 15 k = mi m' 90 k ∧ 0 ≤ (mi m' 90 k).toInt ∧ (mi m' 90 k).toInt ≤ 99
            rw [X15 k hk2, M90 k hk2]
            exact k6 k hk2
          · have e2 : mnum m' w k = mnum m w k := by
              match w, hw, e with
              | 0, _, _ | 1, _, _ | 2, _, _ | 3, _, _ | 4, _, _ | 5, _, _ | 6, _, _ | 7, _, _ | 9, _, _ | 10, _, _ | 11, _, _ | 12, _, _ => exact M _ _ (by omega) (by omega) (by omega)
              | 8, _, h => exact absurd rfl h
            rw [X _ _ (by omega) (by omega) (by omega), e2]
            exact h2.1 w k hw hk
        · by_cases e : w = 8
          · subst e
            have hk2 : k < 2 := hk
            show (0 : Int) ≤ (mi m' 90 k).toInt
            rw [M90 k hk2]
            exact (k6 k hk2).2.1
          · have e2 : mnum m' w k = mnum m w k := by
              match w, hw, e with
              | 0, _, _ | 1, _, _ | 2, _, _ | 3, _, _ | 4, _, _ | 5, _, _ | 6, _, _ | 7, _, _ | 9, _, _ | 10, _, _ | 11, _, _ | 12, _, _ => exact M _ _ (by omega) (by omega) (by omega)
              | 8, _, h => exact absurd rfl h
            rw [e2]
            exact h2.2 w k hw hk
      · refine ⟨fun k hk => ?_, fun k q1 q2 => ?_⟩
        · rw [X26 k (by omega), M87 k hk]
          by_cases e : kc ≤ k
          · rw [if_pos e, k4 k e (by omega)]
            exact ⟨rfl, by decide, by decide⟩
          · rw [if_neg e]
            exact k3 k (by omega)
        · rw [X26 k q2]
          exact k4 k (by omega) q2
      · refine ⟨?_, ?_, ?_, ?_⟩
        · rw [X27 0 (by decide), k5 0 (by decide), w4, if_neg (by omega), if_neg (by omega), if_pos ⟨rfl, rfl⟩]
        · rw [X27 1 (by decide), k5 1 (by decide), w4, if_neg (by omega), if_neg (by omega), if_neg (by omega), if_pos ⟨rfl, rfl⟩]
        · rw [X27 2 (by decide), k5 2 (by decide), w4, if_neg (by omega), if_neg (by omega), if_neg (by omega), if_neg (by omega), if_pos ⟨rfl, rfl⟩]
        · rw [X27 3 (by decide), k5 3 (by decide), w4, if_neg (by omega), if_neg (by omega), if_neg (by omega), if_neg (by omega), if_neg (by omega), if_pos ⟨rfl, rfl⟩]
      · exact h5.cg (M _ _ (by decide) (by decide) (by decide)) (X _ _ (by decide) (by decide) (by decide)) (fun k => X _ _ (by decide) (by decide) (by decide)) (fun k => X _ _ (by decide) (by decide) (by decide)) (fun k => X _ _ (by decide) (by decide) (by decide)) (fun k => M _ _ (by decide) (by decide) (by omega))
