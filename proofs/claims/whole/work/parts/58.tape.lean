def offT (h k : Nat) : Prop := h = 80 ∧ k ≠ 3 ∧ k ≠ 4 ∧ k ≠ 28 ∧ k ≠ 29 ∨ h = 87 ∨ h = 93 ∨ h = 94 ∨ 98 < h
theorem rest_tape {nl nc ns nh : Nat} {x x' : MX} {m m' : MM} (h1 : RCnt nl nc ns x m) (h3 : RIn nc x m) (h4 : RLed x m) (h5 : RKept nc x m) (h7 : RTape x m) (h8 : RLaw x m) (h9 : RHole nh x m) (h10 : RShelf nh x m) (a : x'.1 = x.1) (b : ∀ h k, h < 7 ∨ 24 < h → xi x' h k = xi x h k) (bl : ∀ h k, xl x' h k = xl x h k) (c : ∀ h k, offT h k → mi m' h k = mi m h k) (cl : ∀ h k, ml m' h k = ml m h k) :
    RNum nl nc ns x' m' → RHist nl nc ns x' m' → RCnt nl nc ns x' m' ∧ RNum nl nc ns x' m' ∧ RIn nc x' m' ∧ RLed x' m' ∧ RKept nc x' m' ∧ RHist nl nc ns x' m' ∧ RTape x' m' ∧ RLaw x' m' ∧ RHole nh x' m' ∧ RShelf nh x' m' := by
  intro hN hH
  have X : ∀ h k, h < 7 ∨ 24 < h → xi x' h k = xi x h k := b
  have M : ∀ h k, offT h k → mi m' h k = mi m h k := c
  refine ⟨?_, hN, ?_, ?_, ?_, hH, ?_, ?_, ?_, ?_⟩
  · exact h1.cg (X _ _ (by decide)) (X _ _ (by decide)) (X _ _ (by decide)) (M _ _ (by unfold offT; omega)) (M _ _ (by unfold offT; omega)) (M _ _ (by unfold offT; omega))
  · exact h3.cg (fun k => X _ _ (by decide)) (fun k => M _ _ (by unfold offT; omega))
  · exact h4.cg (fun k => X _ _ (by decide)) (M _ _ (by unfold offT; omega)) (M _ _ (by unfold offT; omega)) (M _ _ (by unfold offT; omega)) (M _ _ (by unfold offT; omega))
  · exact h5.cg (M _ _ (by unfold offT; omega)) (X _ _ (by decide)) (fun k => X _ _ (by decide)) (fun k => X _ _ (by decide)) (fun k => X _ _ (by decide)) (fun k => M _ _ (by unfold offT; omega))
  · refine h7.cg a ?_ ?_ (fun k => ?_) (M _ _ (by unfold offT; omega)) (fun k => M _ _ (by unfold offT; omega))
    · rcases h7.2.1 with e | e <;> rw [e] <;> exact X _ _ (by decide)
    · rcases h7.1 with e | e <;> rw [e] <;> exact X _ _ (by decide)
    · rcases h7.2.1 with e | e <;> rw [e] <;> exact X _ _ (by decide)
  · refine h8.cg ⟨by rw [a], ?_, fun k => ?_⟩ ⟨M _ _ (by unfold offT; omega), fun k => M _ _ (by unfold offT; omega)⟩ (M _ _ (by unfold offT; omega))
    · rcases h7.1 with e | e <;> rw [e] <;> exact X _ _ (by decide)
    · rcases h7.1 with e | e <;> rw [e] <;> exact ⟨X _ _ (by decide), X _ _ (by decide)⟩
  · exact h9.cg (fun k _ _ => X _ _ (by decide)) (fun k => X _ _ (by decide)) (fun k => X _ _ (by decide)) (M _ _ (by unfold offT; omega)) (M _ _ (by unfold offT; omega)) (fun k => M _ _ (by unfold offT; omega)) (fun k => M _ _ (by unfold offT; omega))
  · exact h10.cg (fun s k hs => X _ _ (by omega)) (fun s k _ => bl _ _) (fun k => M _ _ (by unfold offT; omega)) (fun k => M _ _ (by unfold offT; omega)) (fun k => M _ _ (by unfold offT; omega)) (fun k => M _ _ (by unfold offT; omega)) (fun k => cl _ _)
def wh (w : Nat) : Nat := match w with | 9 => 80 | 10 => 80 | w => mrow w
def wk (w k : Nat) : Nat := match w with | 9 => 3 | 10 => 4 | _ => k
theorem read_eq {w k : Nat} (hw : w < 13) (hk : k < nsz w) (m : MM) : f_X9_read (nI k) (nI w) m = some (mnum m w k) := by
  match w, hw, hk with
  | 0, _, h | 1, _, h | 2, _, h | 3, _, h | 4, _, h | 5, _, h =>
    have h6 : k < 6 := h
    have i6 := inb_nI h6 (by decide)
    show (if inb (nI k) 6 = true then some (mi m _ (ix (nI k))) else none) = _
    rw [if_pos i6, ix_nI (by omega)]
    rfl
  | 6, _, h | 7, _, h | 8, _, h =>
    have h6 : k < 2 := h
    have i6 := inb_nI h6 (by decide)
    show (if inb (nI k) 2 = true then some (mi m _ (ix (nI k))) else none) = _
    rw [if_pos i6, ix_nI (by omega)]
    rfl
  | 9, _, h | 10, _, h => rfl
  | 11, _, h | 12, _, h =>
    have h6 : k < 8 := h
    have i6 := inb_nI h6 (by decide)
    show (if inb (nI k) 8 = true then some (mi m _ (ix (nI k))) else none) = _
    rw [if_pos i6, ix_nI (by omega)]
    rfl
theorem write_eq {w k : Nat} (hw : w < 13) (hk : k < nsz w) (v : Int32) (m : MM) : f_X9_write (nI k) (nI w) v m = some (ms m (wh w) (wk w k) v) := by
  match w, hw, hk with
  | 0, _, h | 1, _, h | 2, _, h | 3, _, h | 4, _, h | 5, _, h =>
    have h6 : k < 6 := h
    have i6 := inb_nI h6 (by decide)
    show (if inb (nI k) 6 = true then letx (ms m _ (ix (nI k)) v) (fun m3 => some m3) else none) = _
    rw [if_pos i6, ix_nI (by omega)]
    rfl
  | 6, _, h | 7, _, h | 8, _, h =>
    have h6 : k < 2 := h
    have i6 := inb_nI h6 (by decide)
    show (if inb (nI k) 2 = true then letx (ms m _ (ix (nI k)) v) (fun m3 => some m3) else none) = _
    rw [if_pos i6, ix_nI (by omega)]
    rfl
  | 9, _, h | 10, _, h => rfl
  | 11, _, h | 12, _, h =>
    have h6 : k < 8 := h
    have i6 := inb_nI h6 (by decide)
    show (if inb (nI k) 8 = true then letx (ms m _ (ix (nI k)) v) (fun m3 => some m3) else none) = _
    rw [if_pos i6, ix_nI (by omega)]
    rfl
theorem mnum_wr {w0 k0 : Nat} (hw0 : w0 < 13) (hk0 : k0 < nsz w0) {v : Int32} {m : MM} {w k : Nat} (hw : w < 13) (hk : k < nsz w) : mnum (ms m (wh w0) (wk w0 k0) v) w k = if w = w0 ∧ k = k0 then v else mnum m w k := by
  by_cases e9 : w0 = 9
  · subst e9
    have : k0 = 0 := by have h : k0 < 1 := hk0; omega
    subst this
    match w, hw, hk with
    | 9, _, h =>
      have : k = 0 := by have h : k < 1 := h; omega
      subst this
      simp [mnum, wh, wk, mi_ms]
    | 0, _, _ | 1, _, _ | 2, _, _ | 3, _, _ | 4, _, _ | 5, _, _ | 6, _, _ | 7, _, _ | 8, _, _ | 10, _, _ | 11, _, _ | 12, _, _ => simp [mnum, wh, wk, mi_ms]
  · by_cases e10 : w0 = 10
    · subst e10
      have : k0 = 0 := by have h : k0 < 1 := hk0; omega
      subst this
      match w, hw, hk with
      | 10, _, h =>
        have : k = 0 := by have h : k < 1 := h; omega
        subst this
        simp [mnum, wh, wk, mi_ms]
      | 0, _, _ | 1, _, _ | 2, _, _ | 3, _, _ | 4, _, _ | 5, _, _ | 6, _, _ | 7, _, _ | 8, _, _ | 9, _, _ | 11, _, _ | 12, _, _ => simp [mnum, wh, wk, mi_ms]
    · have a : wh w0 = mrow w0 := by
        match w0, hw0, e9, e10 with
        | 0, _, _, _ | 1, _, _, _ | 2, _, _, _ | 3, _, _, _ | 4, _, _, _ | 5, _, _, _ | 6, _, _, _ | 7, _, _, _ | 8, _, _, _ | 11, _, _, _ | 12, _, _, _ => rfl
        | 9, _, h, _ => exact absurd rfl h
        | 10, _, _, h => exact absurd rfl h
      have b : wk w0 k0 = k0 := by
        match w0, hw0, e9, e10 with
        | 0, _, _, _ | 1, _, _, _ | 2, _, _, _ | 3, _, _, _ | 4, _, _, _ | 5, _, _, _ | 6, _, _, _ | 7, _, _, _ | 8, _, _, _ | 11, _, _, _ | 12, _, _, _ => rfl
        | 9, _, h, _ => exact absurd rfl h
        | 10, _, _, h => exact absurd rfl h
      rw [a, b]
      exact mnum_up hw0 e9 e10 hw
theorem wh_off {w k : Nat} (hw : w < 13) {h j : Nat} (o : offT h j ∨ (94 < h ∧ h < 99) ∨ h = 80 ∧ 28 ≤ j) {v : Int32} {m : MM} : mi (ms m (wh w) (wk w k) v) h j = mi m h j := by
  rw [mi_ms]
  refine if_neg (fun q => ?_)
  unfold offT at o
  match w, hw with
  | 0, _ | 1, _ | 2, _ | 3, _ | 4, _ | 5, _ | 6, _ | 7, _ | 8, _ | 11, _ | 12, _ =>
    have e : h = _ := q.1
    simp only [wh, mrow] at e
    omega
  | 9, _ | 10, _ =>
    have e : h = 80 := q.1
    have e2 := q.2
    simp only [wk] at e2
    omega
theorem nI_s1 {j : Nat} (h : j < 2147483647) : nI (j + 1) - 1 = nI j := by
  have e1 : (1 : Int32).toInt = 1 := by decide
  rw [i_eq, i_sub (by rw [nI_int (by omega), e1]; omega) (by rw [nI_int (by omega), e1]; omega), nI_int (by omega), nI_int (by omega), e1]
  omega
theorem cmd_undo {x : MX} {m : MM} (h : Rel x m) : ∃ r x' m', f_X8_undo x = some (r, x') ∧ f_X9_undo m = some (r, m') ∧ Rel x' m' := by
  have hR := h
  obtain ⟨nl, nc, ns, nh, h1, h2, h3, h4, h5, h6, h7, h8, h9, h10⟩ := h
  obtain ⟨md, al, a1, a2, a3, a4, a5, a6, a7⟩ := h6
  by_cases e : md = 0
  · subst e
    refine ⟨-5, x, m, ?_, ?_, hR⟩
    · unfold f_X8_undo
      rw [a3, if_pos (show nI 0 = 0 from rfl)]
    · unfold f_X9_undo
      rw [a5, if_pos (show nI 0 = 0 from rfl)]
  · obtain ⟨j, rfl⟩ : ∃ j, md = j + 1 := ⟨md - 1, by omega⟩
    obtain ⟨n, w, b1, b2, b3, b4, b5, b6, b7, b8, b9, b10, b11, b12⟩ := a7 j (by omega)
    have hn : n < nsz w := hol_sz h1.2.2.1 h1.2.2.2.1 h1.2.2.2.2 b2
    have hn8 : n < 8 := by unfold nsz at hn; split at hn <;> (try split at hn) <;> (try split at hn) <;> omega
    have z : ¬ nI (j + 1) = 0 := fun q => by
      have := (nI_eqc (n := j + 1) (c := 0) (by omega) (by omega)).mp q
      omega
    have s1 : nI (j + 1) - 1 = nI j := nI_s1 (by omega)
    have s2 : nI (al - (j + 1)) + 1 = nI (al - j) := by
      rw [show al - j = al - (j + 1) + 1 by omega, nI_1]
    have v1 := mi m 97 j
    refine ⟨nI j, xs (xs (xs x 20 4 (nI j)) 20 5 (nI (al - j))) (7 + w) n (mi m 97 j), ms (ms m 80 28 (nI j)) (wh w) (wk w n) (mi m 97 j), ?_, ?_, nl, nc, ns, nh, ?_⟩
    · unfold f_X8_undo
      have q1 : xi (xs x 20 4 (nI j)) 20 5 = nI (al - (j + 1)) := by rw [xi_xs, if_neg (by omega), a4]
      have q2 : xi (xs (xs x 20 4 (nI j)) 20 5 (nI (al - j))) 20 4 = nI j := by simp [xi_xs]
      have q3 : xi (xs (xs x 20 4 (nI j)) 20 5 (nI (al - j))) 22 j = nI w := by simp [xi_xs, b4]
      have q4 : xi (xs (xs x 20 4 (nI j)) 20 5 (nI (al - j))) 21 j = nI n := by simp [xi_xs, b3]
      have q5 : xi (xs (xs x 20 4 (nI j)) 20 5 (nI (al - j))) 23 j = mi m 97 j := by simp [xi_xs, b7]
      have q6 : xi (xs (xs (xs x 20 4 (nI j)) 20 5 (nI (al - j))) (7 + w) n (mi m 97 j)) 20 4 = nI j := by
        rw [xi_xs, if_neg (by omega), q2]
      rw [a3, if_neg z, s1, letx_s, q1, s2, letx_s, q2, if_pos (inb_nI (by omega) (by decide)), ix_nI (by omega), q3, if_pos (inb_nI b1 (by decide)), q4, if_pos (inb_nI hn8 (by decide)), ix_nI (by omega), ix_nI (by omega), q5, letx_s, q6]
    · unfold f_X9_undo
      have q2 : mi (ms m 80 28 (nI j)) 80 28 = nI j := by simp [mi_ms]
      have q3 : mi (ms m 80 28 (nI j)) 95 j = nI n := by simp [mi_ms, b5]
      have q4 : mi (ms m 80 28 (nI j)) 96 j = nI w := by simp [mi_ms, b6]
      have q5 : mi (ms m 80 28 (nI j)) 97 j = mi m 97 j := by simp [mi_ms]
      rw [a5, if_neg z, s1, letx_s, q2, if_pos (inb_nI (by omega) (by decide)), ix_nI (by omega), q3, q4, q5, write_eq b1 hn, ob_s, wh_off b1 (by omega), q2]
    · apply rest_tape h1 h3 h4 h5 h7 h8 h9 h10
      · rfl
      · intro h k hh
        simp only [xi_xs]
        rw [if_neg (by omega), if_neg (by omega), if_neg (by omega)]
      · intro _ _; rfl
      · intro h k hh
        rw [wh_off b1 (Or.inl hh), mi_ms, if_neg (by unfold offT at hh; omega)]
      · intro _ _; rfl
      · have g : RNum nl nc ns (xs (xs x 20 4 (nI j)) 20 5 (nI (al - j))) (ms m 80 28 (nI j)) := ((h2.xs (by omega)).xs (by omega)).ms (by omega)
        refine g.up b1 (fun w' k hw hk => xnum_up) (fun w' k hw hk => mnum_wr b1 hn hw hk) ?_ b10 b9 (fun w k _ hk => hol_sz h1.2.2.1 h1.2.2.2.1 h1.2.2.2.2 hk)
        have : (0 : Int) ≤ loN w := by unfold loN; split <;> omega
        omega
      · refine ⟨j, al, by omega, a2, ?_, ?_, ?_, ?_, fun k hk => ?_⟩
        · rw [xi_xs, if_neg (by omega)]; simp [xi_xs]
        · rw [xi_xs, if_neg (by omega)]; simp [xi_xs]
        · rw [wh_off b1 (by omega)]; simp [mi_ms]
        · rw [wh_off b1 (by omega)]; simp [mi_ms, a6]
        · obtain ⟨n', w', c⟩ := a7 k hk
          refine ⟨n', w', ?_⟩
          have t : ∀ h k, 20 < h → h < 25 → xi (xs (xs (xs x 20 4 (nI j)) 20 5 (nI (al - j))) (7 + w) n (mi m 97 j)) h k = xi x h k := by
            intro h k q1 q2
            simp only [xi_xs]
            rw [if_neg (by omega), if_neg (by omega), if_neg (by omega)]
          have t2 : ∀ h k, 94 < h → h < 99 → mi (ms (ms m 80 28 (nI j)) (wh w) (wk w n) (mi m 97 j)) h k = mi m h k := by
            intro h k q1 q2
            rw [wh_off b1 (by omega), mi_ms, if_neg (by omega)]
          rw [t _ _ (by omega) (by omega), t _ _ (by omega) (by omega), t _ _ (by omega) (by omega), t _ _ (by omega) (by omega), t2 _ _ (by omega) (by omega), t2 _ _ (by omega) (by omega), t2 _ _ (by omega) (by omega), t2 _ _ (by omega) (by omega)]
          exact c
theorem cmd_redo {x : MX} {m : MM} (h : Rel x m) : ∃ r x' m', f_X8_redo x = some (r, x') ∧ f_X9_redo m = some (r, m') ∧ Rel x' m' := by
  have hR := h
  obtain ⟨nl, nc, ns, nh, h1, h2, h3, h4, h5, h6, h7, h8, h9, h10⟩ := h
  obtain ⟨md, al, a1, a2, a3, a4, a5, a6, a7⟩ := h6
  by_cases e : md = al
  · subst e
    refine ⟨-5, x, m, ?_, ?_, hR⟩
    · unfold f_X8_redo
      rw [a4, Nat.sub_self, if_pos (show nI 0 = 0 from rfl)]
    · unfold f_X9_redo
      rw [a5, a6, if_pos rfl]
  · have hlt : md < al := by omega
    obtain ⟨n, w, b1, b2, b3, b4, b5, b6, b7, b8, b9, b10, b11, b12⟩ := a7 md (by omega)
    have hn : n < nsz w := hol_sz h1.2.2.1 h1.2.2.2.1 h1.2.2.2.2 b2
    have hn8 : n < 8 := by unfold nsz at hn; split at hn <;> (try split at hn) <;> (try split at hn) <;> omega
    have z : ¬ nI (al - md) = 0 := fun q => by
      have := (nI_eqc (n := al - md) (c := 0) (by omega) (by omega)).mp q
      omega
    have z2 : ¬ nI md = nI al := fun q => e ((nI_eqc (by omega) (by omega)).mp q)
    have s1 : nI (al - md) - 1 = nI (al - (md + 1)) := by
      rw [show al - md = (al - (md + 1)) + 1 by omega, nI_s1 (by omega)]
    have s3 : nI al - nI (md + 1) = nI (al - (md + 1)) := by
      rw [i_eq, i_sub (by rw [nI_int (by omega), nI_int (by omega)]; omega) (by rw [nI_int (by omega), nI_int (by omega)]; omega), nI_int (by omega), nI_int (by omega), nI_int (by omega)]
      omega
    refine ⟨nI (al - (md + 1)), xs (xs (xs x (7 + w) n (mi m 98 md)) 20 4 (nI (md + 1))) 20 5 (nI (al - (md + 1))), ms (ms m (wh w) (wk w n) (mi m 98 md)) 80 28 (nI (md + 1)), ?_, ?_, nl, nc, ns, nh, ?_⟩
    · unfold f_X8_redo
      have q1 : xi (xs x (7 + w) n (mi m 98 md)) 20 4 = nI md := by rw [xi_xs, if_neg (by omega), a3]
      have q2 : xi (xs (xs x (7 + w) n (mi m 98 md)) 20 4 (nI (md + 1))) 20 5 = nI (al - md) := by rw [xi_xs, if_neg (by omega), xi_xs, if_neg (by omega), a4]
      have q3 : xi (xs (xs (xs x (7 + w) n (mi m 98 md)) 20 4 (nI (md + 1))) 20 5 (nI (al - (md + 1)))) 20 5 = nI (al - (md + 1)) := by rw [xi_xs, if_pos ⟨rfl, rfl⟩]
      rw [a4, if_neg z, a3, if_pos (inb_nI (by omega) (by decide)), ix_nI (by omega), b4, if_pos (inb_nI b1 (by decide)), b3, if_pos (inb_nI hn8 (by decide)), ix_nI (by omega), ix_nI (by omega), b8, letx_s, q1, nI_1, letx_s, q2, s1, letx_s, q3]
    · unfold f_X9_redo
      have q1 : mi (ms m (wh w) (wk w n) (mi m 98 md)) 80 28 = nI md := by rw [wh_off b1 (by omega), a5]
      have q2 : mi (ms (ms m (wh w) (wk w n) (mi m 98 md)) 80 28 (nI (md + 1))) 80 29 = nI al := by rw [mi_ms, if_neg (by omega), wh_off b1 (by omega), a6]
      have q3 : mi (ms (ms m (wh w) (wk w n) (mi m 98 md)) 80 28 (nI (md + 1))) 80 28 = nI (md + 1) := by rw [mi_ms, if_pos ⟨rfl, rfl⟩]
      rw [a5, a6, if_neg z2, if_pos (inb_nI (by omega) (by decide)), ix_nI (by omega), b5, b6, write_eq b1 hn, ob_s, q1, nI_1, letx_s, q2, q3, s3]
    · apply rest_tape h1 h3 h4 h5 h7 h8 h9 h10
      · rfl
      · intro h k hh
        simp only [xi_xs]
        rw [if_neg (by omega), if_neg (by omega), if_neg (by omega)]
      · intro _ _; rfl
      · intro h k hh
        rw [mi_ms, if_neg (by unfold offT at hh; omega), wh_off b1 (Or.inl hh)]
      · intro _ _; rfl
      · have g : RNum nl nc ns (xs x (7 + w) n (mi m 98 md)) (ms m (wh w) (wk w n) (mi m 98 md)) := by
          refine h2.up b1 (fun w' k hw hk => xnum_up) (fun w' k hw hk => mnum_wr b1 hn hw hk) ?_ b12 b11 (fun w k _ hk => hol_sz h1.2.2.1 h1.2.2.2.1 h1.2.2.2.2 hk)
          have : (0 : Int) ≤ loN w := by unfold loN; split <;> omega
          omega
        exact ((g.xs (by omega)).xs (by omega)).ms (by omega)
      · refine ⟨md + 1, al, by omega, a2, ?_, ?_, ?_, ?_, fun k hk => ?_⟩
        · simp [xi_xs]
        · simp [xi_xs]
        · simp [mi_ms]
        · rw [mi_ms, if_neg (by omega), wh_off b1 (by omega), a6]
        · obtain ⟨n', w', c⟩ := a7 k hk
          refine ⟨n', w', ?_⟩
          have t : ∀ h k, 20 < h → h < 25 → xi (xs (xs (xs x (7 + w) n (mi m 98 md)) 20 4 (nI (md + 1))) 20 5 (nI (al - (md + 1)))) h k = xi x h k := by
            intro h k q1 q2
            simp only [xi_xs]
            rw [if_neg (by omega), if_neg (by omega), if_neg (by omega)]
          have t2 : ∀ h k, 94 < h → h < 99 → mi (ms (ms m (wh w) (wk w n) (mi m 98 md)) 80 28 (nI (md + 1))) h k = mi m h k := by
            intro h k q1 q2
            rw [mi_ms, if_neg (by omega), wh_off b1 (by omega)]
          rw [t _ _ (by omega) (by omega), t _ _ (by omega) (by omega), t _ _ (by omega) (by omega), t _ _ (by omega) (by omega), t2 _ _ (by omega) (by omega), t2 _ _ (by omega) (by omega), t2 _ _ (by omega) (by omega), t2 _ _ (by omega) (by omega)]
          exact c
theorem e13 : (13 : Int32).toInt = 13 := by decide
theorem hol13 {w : Nat} (h : w < 13) {nl nc ns : Nat} {x : MX} {m : MM} (h1 : RCnt nl nc ns x m) : (f_X8_holdersOf (nI w) x).toInt = hol nl nc ns w := by
  obtain ⟨⟨a1, a2, a3⟩, _, b1, b2, b3⟩ := h1
  match w, h with
  | 0, _ | 1, _ =>
    show (xi x 5 12).toInt = _
    rw [a1, nI_int (by omega)]; rfl
  | 2, _ | 3, _ | 4, _ | 5, _ =>
    show (xi x 5 13).toInt = _
    rw [a2, nI_int (by omega)]; rfl
  | 6, _ | 7, _ | 8, _ => rfl
  | 9, _ | 10, _ => rfl
  | 11, _ | 12, _ =>
    show (xi x 5 14).toInt = _
    rw [a3, nI_int (by omega)]; rfl
theorem thereX {nl nc ns : Nat} {x : MX} {m : MM} (h1 : RCnt nl nc ns x m) {a b : Int32} : f_X8_isThere a b x = decide ((0 ≤ b.toInt ∧ b.toInt < 13) ∧ 0 ≤ a.toInt ∧ a.toInt < hol nl nc ns b.toInt.toNat) := by
  have e0 : (0 : Int32).toInt = 0 := by decide
  by_cases c : 0 ≤ b.toInt ∧ b.toInt < 13
  · obtain ⟨w, hw, rfl⟩ := nI_ex (n := 13) c.1 c.2
    unfold f_X8_isThere
    simp only [i_lt, i_le, e0, hol13 hw h1, nI_int (n := w) (by omega), Int.toNat_natCast]
    split
    · rw [decide_eq_false (by omega)]
    · split
      · rw [decide_eq_false (by omega)]
      · rw [decide_eq_true (by omega)]
  · have q : f_X8_holdersOf b x = 0 := by
      unfold f_X8_holdersOf
      have e12 : (12 : Int32).toInt = 12 := by decide
      simp only [i_lt, i_le, e0, e12]
      by_cases c1 : b.toInt < 0
      · rw [if_pos c1]
      · rw [if_neg c1, if_neg (by omega)]
    rw [decide_eq_false (fun z => c z.1)]
    unfold f_X8_isThere
    rw [q]
    by_cases c1 : a < 0
    · rw [if_pos c1]
    · rw [if_neg c1, if_pos]
      rw [i_lt, e0] at c1
      rw [i_le, e0]
      omega
theorem cuffM {nl nc ns : Nat} {x : MX} {m : MM} (h1 : RCnt nl nc ns x m) {a : Int32} : f_X9_isCuff a m = decide (0 ≤ a.toInt ∧ a.toInt < nc) := by
  have e0 : (0 : Int32).toInt = 0 := by decide
  unfold f_X9_isCuff
  rw [h1.2.1.2.1]
  simp only [i_lt, i_le, e0, nI_int (n := nc) (by have := h1.2.2.2.1; omega)]
  split
  · rw [decide_eq_false (by omega)]
  · split
    · rw [decide_eq_false (by omega)]
    · rw [decide_eq_true (by omega)]
theorem cuffX {nl nc ns : Nat} {x : MX} {m : MM} (h1 : RCnt nl nc ns x m) {a : Int32} : f_X8_isCuff a x = decide (0 ≤ a.toInt ∧ a.toInt < nc) := by
  have e0 : (0 : Int32).toInt = 0 := by decide
  unfold f_X8_isCuff
  rw [h1.1.2.1]
  simp only [i_lt, i_le, e0, nI_int (n := nc) (by have := h1.2.2.2.1; omega)]
  split
  · rw [decide_eq_false (by omega)]
  · split
    · rw [decide_eq_false (by omega)]
    · rw [decide_eq_true (by omega)]
theorem linkM {nl nc ns : Nat} {x : MX} {m : MM} (h1 : RCnt nl nc ns x m) {a : Int32} : f_X9_isLink a m = decide (0 ≤ a.toInt ∧ a.toInt < nl) := by
  have e0 : (0 : Int32).toInt = 0 := by decide
  unfold f_X9_isLink
  rw [h1.2.1.1]
  simp only [i_lt, i_le, e0, nI_int (n := nl) (by have := h1.2.2.1; omega)]
  split
  · rw [decide_eq_false (by omega)]
  · split
    · rw [decide_eq_false (by omega)]
    · rw [decide_eq_true (by omega)]
theorem thereMw {nl nc ns : Nat} {x : MX} {m : MM} (h1 : RCnt nl nc ns x m) {a : Int32} {w : Nat} (hw : w < 13) : f_X9_isNumber a (nI w) m = decide (0 ≤ a.toInt ∧ a.toInt < hol nl nc ns w) := by
  have e0 : (0 : Int32).toInt = 0 := by decide
  have k3 : f_X9_isIn a 0 (mi m 80 2 - 1) = decide (0 ≤ a.toInt ∧ a.toInt < ns) := by
    have e1 : (1 : Int32).toInt = 1 := by decide
    have := h1.2.2.2.2
    rw [isIn_eq, h1.2.1.2.2, i_sub (by rw [nI_int (by omega), e1]; omega) (by rw [nI_int (by omega), e1]; omega), nI_int (by omega), e0, e1]
    exact decide_eq_decide.mpr (by omega)
  have k2 : f_X9_isIn a 0 1 = decide (0 ≤ a.toInt ∧ a.toInt < (2 : Nat)) := by
    rw [isIn_eq, e0, show (1 : Int32).toInt = 1 by decide]
    exact decide_eq_decide.mpr (by omega)
  have k1 : (a = 0) ↔ 0 ≤ a.toInt ∧ a.toInt < (1 : Nat) := by
    rw [i_eq, e0]; omega
  have tt : ∀ b : Bool, (if b = true then true else false) = b := by intro b; cases b <;> rfl
  match w, hw with
  | 0, _ | 1, _ =>
    show (if f_X9_isLink a m = true then true else false) = _
    rw [linkM h1, tt]
    exact decide_eq_decide.mpr (by show _ ↔ 0 ≤ a.toInt ∧ a.toInt < nl; exact Iff.rfl)
  | 2, _ | 3, _ | 4, _ | 5, _ =>
    show (if f_X9_isCuff a m = true then true else false) = _
    rw [cuffM h1, tt]
    exact decide_eq_decide.mpr (by show _ ↔ 0 ≤ a.toInt ∧ a.toInt < nc; exact Iff.rfl)
  | 6, _ | 7, _ | 8, _ =>
    show (if f_X9_isIn a 0 1 = true then true else false) = _
    rw [k2, tt]
    exact decide_eq_decide.mpr (by show _ ↔ 0 ≤ a.toInt ∧ a.toInt < (2 : Nat); exact Iff.rfl)
  | 9, _ | 10, _ =>
    show (if a = 0 then true else false) = _
    by_cases q : a = 0
    · rw [if_pos q]
      exact (decide_eq_true (by show 0 ≤ a.toInt ∧ a.toInt < (1 : Nat); exact k1.mp q)).symm
    · rw [if_neg q]
      exact (decide_eq_false (by show ¬ (0 ≤ a.toInt ∧ a.toInt < (1 : Nat)); exact fun z => q (k1.mpr z))).symm
  | 11, _ | 12, _ =>
    show (if f_X9_isIn a 0 (mi m 80 2 - 1) = true then true else false) = _
    rw [k3, tt]
    exact decide_eq_decide.mpr (by show _ ↔ 0 ≤ a.toInt ∧ a.toInt < ns; exact Iff.rfl)
theorem thereM {nl nc ns : Nat} {x : MX} {m : MM} (h1 : RCnt nl nc ns x m) {a b : Int32} : f_X9_isNumber a b m = decide ((0 ≤ b.toInt ∧ b.toInt < 13) ∧ 0 ≤ a.toInt ∧ a.toInt < hol nl nc ns b.toInt.toNat) := by
  by_cases c : 0 ≤ b.toInt ∧ b.toInt < 13
  · obtain ⟨w, hw, rfl⟩ := nI_ex (n := 13) c.1 c.2
    rw [thereMw h1 hw, nI_int (by omega), Int.toNat_natCast]
    exact decide_eq_decide.mpr (by omega)
  · rw [decide_eq_false (fun z => c z.1)]
    have i1 : ∀ p q : Int32, 0 ≤ p.toInt → q.toInt < 13 → f_X9_isIn b p q = false := by
      intro p q h1 h2
      rw [isIn_eq, decide_eq_false (by omega)]
    unfold f_X9_isNumber B_X9_isNumber_18 B_X9_isNumber_36 B_X9_isNumber_58 B_X9_isNumber_74
    rw [i1 0 1 (by decide) (by decide), i1 2 5 (by decide) (by decide), i1 6 8 (by decide) (by decide), i1 9 10 (by decide) (by decide), i1 11 12 (by decide) (by decide)]
    rfl
theorem cmd_of {x : MX} {m : MM} (a b : Int32) (h : Rel x m) : ∃ r, f_X8_of a b x = some r ∧ f_X9_of a b m = some r := by
  obtain ⟨nl, nc, ns, nh, h1, h2, h3, h4, h5, h6, h7, h8, h9, h10⟩ := h
  have b2 := h1.2.2.2.1
  by_cases c : b = 13
  · subst c
    have tM : f_X9_isNumber a 13 m = false := by
      rw [thereM h1, e13, decide_eq_false (by omega)]
    by_cases d : 0 ≤ a.toInt ∧ a.toInt < nc
    · obtain ⟨k, hk, rfl⟩ := nI_ex d.1 d.2
      refine ⟨mi m 87 k, ?_, ?_⟩
      · unfold f_X8_of
        rw [if_pos rfl, cuffX h1, decide_eq_true d, if_pos rfl, if_pos (inb_nI (by omega) (by decide)), ix_nI (by omega), (h3.1 k hk).1]
      · unfold f_X9_of
        rw [if_pos rfl, cuffM h1, decide_eq_true d, if_pos rfl, if_pos (inb_nI (by omega) (by decide)), ix_nI (by omega)]
    · refine ⟨-1, ?_, ?_⟩
      · unfold f_X8_of
        rw [if_pos rfl, cuffX h1, decide_eq_false d]; rfl
      · unfold f_X9_of B_X9_of_21
        rw [if_pos rfl, cuffM h1, decide_eq_false d, tM]; rfl
  · by_cases d : (0 ≤ b.toInt ∧ b.toInt < 13) ∧ 0 ≤ a.toInt ∧ a.toInt < hol nl nc ns b.toInt.toNat
    · have tX : f_X8_isThere a b x = true := by rw [thereX h1, decide_eq_true d]
      have tM : f_X9_isNumber a b m = true := by rw [thereM h1, decide_eq_true d]
      obtain ⟨w, hw, rfl⟩ := nI_ex (n := 13) d.1.1 d.1.2
      rw [nI_int (by omega), Int.toNat_natCast] at d
      obtain ⟨k, hk, rfl⟩ := nI_ex d.2.1 d.2.2
      have hn : k < nsz w := hol_sz h1.2.2.1 h1.2.2.2.1 h1.2.2.2.2 hk
      have hn8 : k < 8 := by unfold nsz at hn; split at hn <;> (try split at hn) <;> (try split at hn) <;> omega
      refine ⟨mnum m w k, ?_, ?_⟩
      · unfold f_X8_of
        rw [if_neg c, tX, if_pos rfl, if_pos (inb_nI hw (by decide)), if_pos (inb_nI hn8 (by decide)), ix_nI (by omega), ix_nI (by omega), (h2.1 w k hw hn).1]
      · unfold f_X9_of B_X9_of_21
        rw [if_neg c, tM, if_pos rfl, read_eq hw hn, ob_s]
    · have tX : f_X8_isThere a b x = false := by rw [thereX h1, decide_eq_false d]
      have tM : f_X9_isNumber a b m = false := by rw [thereM h1, decide_eq_false d]
      refine ⟨-1, ?_, ?_⟩
      · unfold f_X8_of
        rw [if_neg c, tX]; rfl
      · unfold f_X9_of B_X9_of_21
        rw [if_neg c, tM]; rfl
