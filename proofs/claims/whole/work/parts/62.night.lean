def offX (h k : Nat) : Prop := h ≠ 15 ∧ h ≠ 26 ∧ h ≠ 27 ∧ h ≠ 29 ∧ h ≠ 30 ∧ h ≠ 31 ∧ ¬ (h = 5 ∧ k = 15)
def offI (h k : Nat) : Prop := h ≠ 87 ∧ h ≠ 90 ∧ h ≠ 102 ∧ ¬ (h = 80 ∧ (k = 37 ∨ k = 38 ∨ k = 39 ∨ k = 40 ∨ k = 42))
theorem rest_in {nl nc ns nh : Nat} {x x' : MX} {m m' : MM} (h1 : RCnt nl nc ns x m) (h6 : RHist nl nc ns x m) (h7 : RTape x m) (h8 : RLaw x m) (h9 : RHole nh x m) (h10 : RShelf nh x m) (a : x'.1 = x.1) (b : ∀ h k, offX h k → xi x' h k = xi x h k) (bl : ∀ h k, xl x' h k = xl x h k) (c : ∀ h k, offI h k → mi m' h k = mi m h k) (cl : ∀ h k, ml m' h k = ml m h k) :
    RNum nl nc ns x' m' → RIn nc x' m' → RLed x' m' → RKept nc x' m' → RCnt nl nc ns x' m' ∧ RNum nl nc ns x' m' ∧ RIn nc x' m' ∧ RLed x' m' ∧ RKept nc x' m' ∧ RHist nl nc ns x' m' ∧ RTape x' m' ∧ RLaw x' m' ∧ RHole nh x' m' ∧ RShelf nh x' m' := by
  intro hN hI hL hK
  have X : ∀ h k, offX h k → xi x' h k = xi x h k := b
  have M : ∀ h k, offI h k → mi m' h k = mi m h k := c
  refine ⟨?_, hN, hI, hL, hK, ?_, ?_, ?_, ?_, ?_⟩
  · exact h1.cg (X _ _ (by unfold offX; omega)) (X _ _ (by unfold offX; omega)) (X _ _ (by unfold offX; omega)) (M _ _ (by unfold offI; omega)) (M _ _ (by unfold offI; omega)) (M _ _ (by unfold offI; omega))
  · exact h6.cg (X _ _ (by unfold offX; omega)) (X _ _ (by unfold offX; omega)) (M _ _ (by unfold offI; omega)) (M _ _ (by unfold offI; omega)) (fun k => X _ _ (by unfold offX; omega)) (fun k => X _ _ (by unfold offX; omega)) (fun k => X _ _ (by unfold offX; omega)) (fun k => X _ _ (by unfold offX; omega)) (fun k => M _ _ (by unfold offI; omega)) (fun k => M _ _ (by unfold offI; omega)) (fun k => M _ _ (by unfold offI; omega)) (fun k => M _ _ (by unfold offI; omega))
  · refine h7.cg a ?_ ?_ (fun k => ?_) (M _ _ (by unfold offI; omega)) (fun k => M _ _ (by unfold offI; omega))
    · rcases h7.2.1 with e | e <;> rw [e] <;> exact X _ _ (by unfold offX; omega)
    · rcases h7.1 with e | e <;> rw [e] <;> exact X _ _ (by unfold offX; omega)
    · rcases h7.2.1 with e | e <;> rw [e] <;> exact X _ _ (by unfold offX; omega)
  · refine h8.cg ⟨by rw [a], ?_, fun k => ?_⟩ ⟨M _ _ (by unfold offI; omega), fun k => M _ _ (by unfold offI; omega)⟩ (M _ _ (by unfold offI; omega))
    · rcases h7.1 with e | e <;> rw [e] <;> exact X _ _ (by unfold offX; omega)
    · rcases h7.1 with e | e <;> rw [e] <;> exact ⟨X _ _ (by unfold offX; omega), X _ _ (by unfold offX; omega)⟩
  · exact h9.cg (fun k _ _ => X _ _ (by unfold offX; omega)) (fun k => X _ _ (by unfold offX; omega)) (fun k => X _ _ (by unfold offX; omega)) (M _ _ (by unfold offI; omega)) (M _ _ (by unfold offI; omega)) (fun k => M _ _ (by unfold offI; omega)) (fun k => M _ _ (by unfold offI; omega))
  · exact h10.cg (fun s k hs => X _ _ (by unfold offX; omega)) (fun s k _ => bl _ _) (fun k => M _ _ (by unfold offI; omega)) (fun k => M _ _ (by unfold offI; omega)) (fun k => M _ _ (by unfold offI; omega)) (fun k => M _ _ (by unfold offI; omega)) (fun k => cl _ _)
def cntO (f : Nat → Int32) : Nat → Nat → Int32 → Int32
  | _, 0, v => v
  | j, n + 1, v => cntO f (j + 1) n (if f j = -2 then v else v + 1)
theorem cntO_cg {f g : Nat → Int32} : ∀ (n j : Nat) (v : Int32), (∀ k, j ≤ k → k < j + n → f k = g k) → cntO f j n v = cntO g j n v := by
  intro n
  induction n with
  | zero => intro _ _ _; rfl
  | succ n ih =>
    intro j v h
    show cntO f (j + 1) n _ = cntO g (j + 1) n _
    rw [h j (Nat.le_refl _) (by omega)]
    exact ih _ _ (fun k h1 h2 => h k (by omega) (by omega))
theorem cntO_add {f : Nat → Int32} (b : Nat) : ∀ (a j : Nat) (v : Int32), cntO f j (a + b) v = cntO f (j + a) b (cntO f j a v) := by
  intro a
  induction a with
  | zero => intro j v; rw [Nat.zero_add]; rfl
  | succ a ih =>
    intro j v
    rw [show a + 1 + b = (a + b) + 1 by omega]
    show cntO f (j + 1) (a + b) _ = cntO f (j + (a + 1)) b (cntO f (j + 1) a _)
    rw [ih, show j + 1 + a = j + (a + 1) by omega]
theorem cntO_none {f : Nat → Int32} : ∀ (n j : Nat) (v : Int32), (∀ k, j ≤ k → k < j + n → f k = -2) → cntO f j n v = v := by
  intro n
  induction n with
  | zero => intro _ _ _; rfl
  | succ n ih =>
    intro j v h
    show cntO f (j + 1) n _ = v
    rw [h j (Nat.le_refl _) (by omega), if_pos rfl]
    exact ih _ _ (fun k h1 h2 => h k (by omega) (by omega))
theorem outX : ∀ (n j fuel : Nat) (v : Int32) (x : MX), j + n = 6 → n < fuel → ∃ x', f_X0_takeAllOut_25_4 fuel v (nI j) x = some (cntO (xi x 26) j n v, x') ∧ x'.1 = x.1 ∧ (∀ h k, xl x' h k = xl x h k) ∧ ∀ h k, xi x' h k = if h = 26 ∧ j ≤ k ∧ k < 6 then -2 else xi x h k := by
  intro n
  induction n with
  | zero =>
    intro j fuel v x hj hf
    obtain ⟨f, rfl⟩ : ∃ f, fuel = f + 1 := ⟨fuel - 1, by omega⟩
    have e : j = 6 := by omega
    subst e
    refine ⟨x, ?_, rfl, fun _ _ => rfl, fun h k => ?_⟩
    · show B_X0_takeAllOut_25_4 _ _ _ _ = _
      unfold B_X0_takeAllOut_25_4
      rw [if_pos (show (6 : Int32) ≤ nI 6 by decide)]
      rfl
    · rw [if_neg (by omega)]
  | succ n ih =>
    intro j fuel v x hj hf
    obtain ⟨f, rfl⟩ : ∃ f, fuel = f + 1 := ⟨fuel - 1, by omega⟩
    obtain ⟨x', g1, g2, g3, g4⟩ := ih (j + 1) f (if xi x 26 j = -2 then v else v + 1) (xs x 26 j (-2)) (by omega) (by omega)
    refine ⟨x', ?_, g2, g3, fun h k => ?_⟩
    · show B_X0_takeAllOut_25_4 _ _ _ _ = _
      unfold B_X0_takeAllOut_25_4 B_X0_takeAllOut_25_24
      have z : ¬ (6 : Int32) ≤ nI j := fun q => by have := (nI_lec (n := 6) (c := j) (by decide) (by omega)).mp q; omega
      have i6 : inb (nI j) 6 = true := inb_nI (by omega) (by decide)
      rw [if_neg z, if_pos i6, ix_nI (by omega), if_pos i6, letx_s, letx_s, nI_1]
      have e : cntO (xi x 26) j (n + 1) v = cntO (xi (xs x 26 j (-2)) 26) (j + 1) n (if xi x 26 j = -2 then v else v + 1) := by
        show cntO (xi x 26) (j + 1) n _ = _
        refine cntO_cg _ _ _ (fun k h1 h2 => ?_)
        rw [xi_xs, if_neg (by omega)]
      rw [e]
      by_cases q : xi x 26 j = -2
      · rw [if_pos q]
        rw [if_pos q] at g1 ⊢
        exact g1
      · rw [if_neg q]
        rw [if_neg q] at g1 ⊢
        rw [if_pos i6]
        exact g1
    · rw [g4, xi_xs]
      by_cases e : h = 26 ∧ j + 1 ≤ k ∧ k < 6
      · rw [if_pos e, if_pos (by omega)]
      · rw [if_neg e]
        by_cases e2 : h = 26 ∧ k = j
        · rw [if_pos e2, if_pos (by omega)]
        · rw [if_neg e2, if_neg (by omega)]
theorem outM {nc : Nat} (hc : nc ≤ 6) : ∀ (n j fuel : Nat) (v : Int32) (m : MM), mi m 80 1 = nI nc → j + n = nc → n < fuel → ∃ m', f_X9_night_4 fuel v (nI j) m = some (cntO (mi m 87) j n v, m') ∧ (∀ h k, ml m' h k = ml m h k) ∧ ∀ h k, mi m' h k = if h = 80 ∧ k = 40 then mi m 80 40 + 1 else if h = 87 ∧ j ≤ k ∧ k < nc then -2 else mi m h k := by
  intro n
  induction n with
  | zero =>
    intro j fuel v m hm hj hf
    obtain ⟨f, rfl⟩ : ∃ f, fuel = f + 1 := ⟨fuel - 1, by omega⟩
    have e : j = nc := by omega
    subst e
    refine ⟨ms m 80 40 (mi m 80 40 + 1), ?_, fun _ _ => rfl, fun h k => ?_⟩
    · show B_X9_night_4 _ _ _ _ = _
      unfold B_X9_night_4
      rw [hm, if_pos ((nI_lec (by omega) (by omega)).mpr (Nat.le_refl _))]
      rfl
    · rw [mi_ms]
      by_cases e : h = 80 ∧ k = 40
      · rw [if_pos e, if_pos e]
      · rw [if_neg e, if_neg e, if_neg (by omega)]
  | succ n ih =>
    intro j fuel v m hm hj hf
    obtain ⟨f, rfl⟩ : ∃ f, fuel = f + 1 := ⟨fuel - 1, by omega⟩
    obtain ⟨m', g1, g3, g4⟩ := ih (j + 1) f (if mi m 87 j = -2 then v else v + 1) (ms m 87 j (-2)) (by rw [mi_ms, if_neg (by omega), hm]) (by omega) (by omega)
    refine ⟨m', ?_, g3, fun h k => ?_⟩
    · show B_X9_night_4 _ _ _ _ = _
      unfold B_X9_night_4 B_X9_night_30
      have z : ¬ nI nc ≤ nI j := fun q => by have := (nI_lec (by omega) (by omega)).mp q; omega
      have i6 : inb (nI j) 6 = true := inb_nI (by omega) (by decide)
      have o0 : f_X9_one 0 = 0 := by decide
      have o1 : f_X9_one 1 = 1 := by decide
      have vz : v + 0 = v := by rw [i_eq, i_add] <;> (have := i_lo v; have := i_hi v; have e0 : (0 : Int32).toInt = 0 := by decide) <;> omega
      rw [hm, if_neg z, if_pos i6, ix_nI (by omega), if_pos i6, letx_s, letx_s, nI_1, o0, o1, vz]
      have e : cntO (mi m 87) j (n + 1) v = cntO (mi (ms m 87 j (-2)) 87) (j + 1) n (if mi m 87 j = -2 then v else v + 1) := by
        show cntO (mi m 87) (j + 1) n _ = _
        refine cntO_cg _ _ _ (fun k h1 h2 => ?_)
        rw [mi_ms, if_neg (by omega)]
      rw [e]
      by_cases q : mi m 87 j = -2
      · rw [if_pos q]
        rw [if_pos q] at g1 ⊢
        exact g1
      · rw [if_neg q]
        rw [if_neg q] at g1 ⊢
        rw [if_pos i6]
        exact g1
    · rw [g4, mi_ms, mi_ms]
      by_cases e0 : h = 80 ∧ k = 40
      · rw [if_pos e0, if_pos e0, if_neg (by omega)]
      · rw [if_neg e0, if_neg e0]
        by_cases e : h = 87 ∧ j + 1 ≤ k ∧ k < nc
        · rw [if_pos e, if_pos (by omega)]
        · rw [if_neg e]
          by_cases e2 : h = 87 ∧ k = j
          · rw [if_pos e2, if_pos (by omega)]
          · rw [if_neg e2, if_neg (by omega)]
theorem cmd_night {x : MX} {m : MM} (h : Rel x m) : ∃ r x' m', f_X8_night x = some (r, x') ∧ f_X9_night m = some (r, m') ∧ Rel x' m' := by
  obtain ⟨nl, nc, ns, nh, h1, h2, h3, h4, h5, h6, h7, h8, h9, h10⟩ := h
  have hc := h1.2.2.2.1
  obtain ⟨x', g1, g2, g3, g4⟩ := outX 6 0 LF 0 (xs x 27 3 (xi x 27 3 + 1)) rfl (by decide)
  obtain ⟨m', w1, w3, w4⟩ := outM hc nc 0 LF 0 m h1.2.1.2.1 (by omega) (by unfold LF; omega)
  have ec : cntO (xi (xs x 27 3 (xi x 27 3 + 1)) 26) 0 6 0 = cntO (mi m 87) 0 nc 0 := by
    have q : ∀ k, xi (xs x 27 3 (xi x 27 3 + 1)) 26 k = xi x 26 k := fun k => by rw [xi_xs, if_neg (by omega)]
    obtain ⟨d, hd⟩ : ∃ d, 6 = nc + d := ⟨6 - nc, by omega⟩
    rw [hd, cntO_add d nc 0 0, cntO_none _ _ _ (fun k q1 q2 => by rw [q, h3.2 k (by omega) (by omega)])]
    exact cntO_cg _ _ _ (fun k q1 q2 => by rw [q, (h3.1 k (by omega)).1])
  have X : ∀ h k, h ≠ 26 → h ≠ 27 → xi x' h k = xi x h k := fun h k q1 q2 => by rw [g4, if_neg (by omega), xi_xs, if_neg (by omega)]
  have M : ∀ h k, h ≠ 87 → ¬ (h = 80 ∧ k = 40) → mi m' h k = mi m h k := fun h k q1 q2 => by rw [w4, if_neg q2, if_neg (by omega)]
  refine ⟨cntO (mi m 87) 0 nc 0, x', m', ?_, w1, nl, nc, ns, nh, ?_⟩
  · unfold f_X8_night f_X0_takeAllOut_25
    have g1' : f_X0_takeAllOut_25_4 LF 0 0 (xs x 27 3 (xi x 27 3 + 1)) = some (cntO (mi m 87) 0 nc 0, x') := by rw [← ec]; exact g1
    rw [letx_s, g1', ob2_s]
  · apply rest_in h1 h6 h7 h8 h9 h10
    · exact g2
    · exact fun h k q => X h k (by unfold offX at q; omega) (by unfold offX at q; omega)
    · exact g3
    · exact fun h k q => M h k (by unfold offI at q; omega) (by unfold offI at q; omega)
    · exact w3
    · refine h2.cg (fun w k hw _ => X _ _ (by omega) (by omega)) (fun w k hw => ?_)
      match w, hw with
      | 0, _ | 1, _ | 2, _ | 3, _ | 4, _ | 5, _ | 6, _ | 7, _ | 8, _ | 9, _ | 10, _ | 11, _ | 12, _ => exact M _ _ (by omega) (by omega)
    · refine ⟨fun k hk => ?_, fun k q1 q2 => ?_⟩
      · have a1 : xi x' 26 k = -2 := by rw [g4, if_pos ⟨rfl, by omega, by omega⟩]
        have a2 : mi m' 87 k = -2 := by rw [w4, if_neg (by omega), if_pos ⟨rfl, by omega, by omega⟩]
        rw [a1, a2]
        exact ⟨rfl, by decide, by decide⟩
      · rw [g4, if_pos ⟨rfl, by omega, by omega⟩]
    · obtain ⟨l1, l2, l3, l4⟩ := h4
      have q : ∀ k, xi x' 27 k = if k = 3 then xi x 27 3 + 1 else xi x 27 k := fun k => by
        rw [g4, if_neg (by omega), xi_xs]
        by_cases e : k = 3
        · rw [if_pos ⟨rfl, e⟩, if_pos e]
        · rw [if_neg (fun z => e z.2), if_neg e]
      refine ⟨?_, ?_, ?_, ?_⟩
      · rw [q, M _ _ (by decide) (by decide)]; exact l1
      · rw [q, M _ _ (by decide) (by decide)]; exact l2
      · rw [q, M _ _ (by decide) (by decide)]; exact l3
      · rw [q, w4, if_pos rfl, if_pos ⟨rfl, rfl⟩, l4]
    · exact h5.cg (M _ _ (by decide) (by decide)) (X _ _ (by decide) (by decide)) (fun k => X _ _ (by decide) (by decide)) (fun k => X _ _ (by decide) (by decide)) (fun k => X _ _ (by decide) (by decide)) (fun k => M _ _ (by decide) (by omega))
