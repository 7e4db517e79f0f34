theorem xi_xcp {x : MX} {a b sp dp n h k : Nat} : xi (xcp x a b sp dp n) h k = if h = b ∧ dp ≤ k ∧ k < dp + n then xi x a (sp + (k - dp)) else xi x h k := by
  unfold xi xcp rs2 va_cpy
  by_cases e : h = b
  · subst e
    by_cases e2 : dp ≤ k ∧ k < dp + n
    · simp [e2]
    · simp only [if_true, if_neg e2]
      rw [if_neg (fun q => e2 q.2)]
  · simp [e]
theorem xl_xcp {x : MX} {a b sp dp n h k : Nat} : xl (xcp x a b sp dp n) h k = xl x h k := rfl
def EN (nl nc ns : Nat) (x : MX) (m : MM) (k : Nat) : Prop := ∃ n w : Nat, w < 13 ∧ n < hol nl nc ns w ∧ xi x 21 k = nI n ∧ xi x 22 k = nI w ∧ mi m 95 k = nI n ∧ mi m 96 k = nI w ∧ xi x 23 k = mi m 97 k ∧ xi x 24 k = mi m 98 k ∧ loN w ≤ (mi m 97 k).toInt ∧ (mi m 97 k).toInt ≤ hiN w ∧ loN w ≤ (mi m 98 k).toInt ∧ (mi m 98 k).toInt ≤ hiN w
def RHj (nl nc ns j : Nat) (x : MX) (m : MM) : Prop := xi x 20 4 = nI j ∧ mi m 80 28 = nI j ∧ ∀ k, k < j → EN nl nc ns x m k
def noteX (x : MX) (j : Nat) (n w o v : Int32) : MX := xs (xs (xs (xs (xs (xs x 21 j n) 22 j w) 23 j o) 24 j v) 20 4 (nI (j + 1))) 20 5 0
def noteM (m : MM) (j : Nat) (n w o v : Int32) : MM := ms (ms (ms (ms (ms (ms m 95 j n) 96 j w) 97 j o) 98 j v) 80 28 (nI (j + 1))) 80 29 (nI (j + 1))
theorem noteX_eq {x : MX} {j : Nat} (hj : j < 40) (hx : xi x 20 4 = nI j) (n w o v : Int32) : B_X1_note_13 n w o v x = some (noteX x j n w o v) := by
  unfold B_X1_note_13 noteX
  have i4 := inb_nI hj (n := 40) (by decide)
  have j4 := ix_nI (n := j) (by omega)
  have q1 : xi (xs x 21 j n) 20 4 = nI j := by rw [xi_xs, if_neg (by omega), hx]
  have q2 : xi (xs (xs x 21 j n) 22 j w) 20 4 = nI j := by rw [xi_xs, if_neg (by omega), q1]
  have q3 : xi (xs (xs (xs x 21 j n) 22 j w) 23 j o) 20 4 = nI j := by rw [xi_xs, if_neg (by omega), q2]
  have q4 : xi (xs (xs (xs (xs x 21 j n) 22 j w) 23 j o) 24 j v) 20 4 = nI j := by rw [xi_xs, if_neg (by omega), q3]
  rw [hx, if_pos i4, j4, letx_s, q1, if_pos i4, j4, letx_s, q2, if_pos i4, j4, letx_s, q3, if_pos i4, j4, letx_s, q4, nI_1]
  rfl
theorem noteM_eq {m : MM} {j : Nat} (hj : j < 40) (hm : mi m 80 28 = nI j) {a w : Nat} (hw : w < 13) (ha : a < nsz w) (v o : Int32) : B_X9_mend_59 (nI a) (nI w) v o m = some (o, ms (noteM m j (nI a) (nI w) o v) (wh w) (wk w a) v) := by
  unfold B_X9_mend_59 noteM
  have i4 := inb_nI hj (n := 40) (by decide)
  have j4 := ix_nI (n := j) (by omega)
  have q1 : mi (ms m 95 j (nI a)) 80 28 = nI j := by rw [mi_ms, if_neg (by omega), hm]
  have q2 : mi (ms (ms m 95 j (nI a)) 96 j (nI w)) 80 28 = nI j := by rw [mi_ms, if_neg (by omega), q1]
  have q3 : mi (ms (ms (ms m 95 j (nI a)) 96 j (nI w)) 97 j o) 80 28 = nI j := by rw [mi_ms, if_neg (by omega), q2]
  have q4 : mi (ms (ms (ms (ms m 95 j (nI a)) 96 j (nI w)) 97 j o) 98 j v) 80 28 = nI j := by rw [mi_ms, if_neg (by omega), q3]
  have q5 : mi (ms (ms (ms (ms (ms m 95 j (nI a)) 96 j (nI w)) 97 j o) 98 j v) 80 28 (nI (j + 1))) 80 28 = nI (j + 1) := by rw [mi_ms, if_pos ⟨rfl, rfl⟩]
  rw [hm, if_pos i4, j4, letx_s, q1, if_pos i4, j4, letx_s, q2, if_pos i4, j4, letx_s, q3, if_pos i4, j4, letx_s, q4, nI_1, letx_s, q5, letx_s, write_eq hw ha]
  rfl
theorem mend_core {nl nc ns nh j a w : Nat} {v : Int32} {x xd : MX} {m md : MM} (h1 : RCnt nl nc ns x m) (h2 : RNum nl nc ns x m) (h3 : RIn nc x m) (h4 : RLed x m) (h5 : RKept nc x m) (h7 : RTape x m) (h8 : RLaw x m) (h9 : RHole nh x m) (h10 : RShelf nh x m) (hj : j < 40) (d1 : xd.1 = x.1) (d2 : ∀ h k, h < 20 ∨ 24 < h → xi xd h k = xi x h k) (d3 : ∀ h k, xl xd h k = xl x h k) (d4 : ∀ h k, (h < 95 ∧ ¬ (h = 80 ∧ k = 28) ∨ 98 < h) → mi md h k = mi m h k) (d5 : ∀ h k, ml md h k = ml m h k) (hh : RHj nl nc ns j xd md) (hw : w < 13) (ha : a < hol nl nc ns w) (hv : loN w ≤ v.toInt ∧ v.toInt ≤ hiN w) :
    Rel (xs (noteX xd j (nI a) (nI w) (mnum m w a) v) (7 + w) a v) (ms (noteM md j (nI a) (nI w) (mnum m w a) v) (wh w) (wk w a) v) := by
  have hs : ∀ w k, w < 13 → k < hol nl nc ns w → k < nsz w := fun w k _ hk => hol_sz h1.2.2.1 h1.2.2.2.1 h1.2.2.2.2 hk
  have hn := hs w a hw ha
  have hlo : (0 : Int) ≤ loN w := by unfold loN; split <;> omega
  have tx : ∀ h k, h < 7 ∨ 24 < h → xi (xs (noteX xd j (nI a) (nI w) (mnum m w a) v) (7 + w) a v) h k = xi x h k := by
    intro h k hh
    unfold noteX
    simp only [xi_xs]
    rw [if_neg (by omega), if_neg (by omega), if_neg (by omega), if_neg (by omega), if_neg (by omega), if_neg (by omega), if_neg (by omega), d2 _ _ (by omega)]
  have tm : ∀ h k, offT h k → mi (ms (noteM md j (nI a) (nI w) (mnum m w a) v) (wh w) (wk w a) v) h k = mi m h k := by
    intro h k hh
    rw [wh_off hw (Or.inl hh)]
    unfold noteM
    unfold offT at hh
    simp only [mi_ms]
    rw [if_neg (by omega), if_neg (by omega), if_neg (by omega), if_neg (by omega), if_neg (by omega), if_neg (by omega), d4 _ _ (by omega)]
  refine ⟨nl, nc, ns, nh, ?_⟩
  apply rest_tape h1 h3 h4 h5 h7 h8 h9 h10
  · exact d1
  · exact tx
  · exact d3
  · exact tm
  · exact d5
  · have g0 : RNum nl nc ns xd md := by
      refine h2.cg (fun w k hw _ => d2 _ _ (by omega)) (fun w k hw => ?_)
      match w, hw with
      | 0, _ | 1, _ | 2, _ | 3, _ | 4, _ | 5, _ | 6, _ | 7, _ | 8, _ | 9, _ | 10, _ | 11, _ | 12, _ => exact d4 _ _ (by omega)
    have g : RNum nl nc ns (noteX xd j (nI a) (nI w) (mnum m w a) v) (noteM md j (nI a) (nI w) (mnum m w a) v) := by
      unfold noteX noteM
      exact (((((((((((g0.xs (by omega)).xs (by omega)).xs (by omega)).xs (by omega)).xs (by omega)).xs (by omega)).ms (by omega)).ms (by omega)).ms (by omega)).ms (by omega)).ms (by omega)).ms (by omega)
    exact g.up hw (fun w' k hw hk => xnum_up) (fun w' k hw' hk => mnum_wr hw hn hw' hk) (by omega) hv.2 hv.1 hs
  · refine ⟨j + 1, j + 1, Nat.le_refl _, by omega, ?_, ?_, ?_, ?_, fun k hk => ?_⟩
    · rw [xi_xs, if_neg (by omega)]; simp [noteX, xi_xs]
    · rw [xi_xs, if_neg (by omega), Nat.sub_self]
      unfold noteX
      rw [xi_xs, if_pos ⟨rfl, rfl⟩]; rfl
    · rw [wh_off hw (by omega)]; simp [noteM, mi_ms]
    · rw [wh_off hw (by omega)]; simp [noteM, mi_ms]
    · have t : ∀ h, 20 < h → h < 25 → xi (xs (noteX xd j (nI a) (nI w) (mnum m w a) v) (7 + w) a v) h k = if k = j then (if h = 21 then nI a else if h = 22 then nI w else if h = 23 then mnum m w a else v) else xi xd h k := by
        intro h q1 q2
        rw [xi_xs, if_neg (by omega)]
        unfold noteX
        simp only [xi_xs]
        rw [if_neg (by omega), if_neg (by omega)]
        by_cases e : k = j
        · subst e
          rw [if_pos rfl]
          by_cases e1 : h = 21
          · subst e1; simp
          · by_cases e2 : h = 22
            · subst e2; simp
            · by_cases e3 : h = 23
              · subst e3; simp
              · have e4 : h = 24 := by omega
                subst e4; simp
        · rw [if_neg e, if_neg (by omega), if_neg (by omega), if_neg (by omega), if_neg (by omega)]
      have t2 : ∀ h, 94 < h → h < 99 → mi (ms (noteM md j (nI a) (nI w) (mnum m w a) v) (wh w) (wk w a) v) h k = if k = j then (if h = 95 then nI a else if h = 96 then nI w else if h = 97 then mnum m w a else v) else mi md h k := by
        intro h q1 q2
        rw [wh_off hw (by omega)]
        unfold noteM
        simp only [mi_ms]
        rw [if_neg (by omega), if_neg (by omega)]
        by_cases e : k = j
        · subst e
          rw [if_pos rfl]
          by_cases e1 : h = 95
          · subst e1; simp
          · by_cases e2 : h = 96
            · subst e2; simp
            · by_cases e3 : h = 97
              · subst e3; simp
              · have e4 : h = 98 := by omega
                subst e4; simp
        · rw [if_neg e, if_neg (by omega), if_neg (by omega), if_neg (by omega), if_neg (by omega)]
      show EN _ _ _ _ _ k
      unfold EN
      rw [t _ (by omega) (by omega), t _ (by omega) (by omega), t _ (by omega) (by omega), t _ (by omega) (by omega), t2 _ (by omega) (by omega), t2 _ (by omega) (by omega), t2 _ (by omega) (by omega), t2 _ (by omega) (by omega)]
      by_cases e : k = j
      · simp only [if_pos e]
        refine ⟨a, w, hw, ha, rfl, rfl, rfl, rfl, rfl, rfl, h2.2 w a hw ha, (h2.1 w a hw hn).2.2, hv.1, hv.2⟩
      · simp only [if_neg e]
        exact hh.2.2 k (by omega)
theorem drops_loop : ∀ (n i fuel : Nat) (m : MM), i + n = 40 → 0 < i → n < fuel → ∃ m', f_X9_drops_2 fuel (nI i) m = some m' ∧ (∀ h k, ml m' h k = ml m h k) ∧ ∀ h k, mi m' h k = if h = 80 ∧ k = 28 then mi m 80 28 - 1 else if 94 < h ∧ h < 99 ∧ i - 1 ≤ k ∧ k < 39 then mi m h (k + 1) else mi m h k := by
  intro n
  induction n with
  | zero =>
    intro i fuel m hi hp hf
    obtain ⟨f, rfl⟩ : ∃ f, fuel = f + 1 := ⟨fuel - 1, by omega⟩
    have e : i = 40 := by omega
    subst e
    refine ⟨ms m 80 28 (mi m 80 28 - 1), ?_, fun _ _ => rfl, fun h k => ?_⟩
    · show B_X9_drops_2 _ _ _ = _
      unfold B_X9_drops_2
      rw [if_pos (show (40 : Int32) ≤ nI 40 by decide)]
      rfl
    · rw [mi_ms]
      by_cases e : h = 80 ∧ k = 28
      · rw [if_pos e, if_pos e]
      · rw [if_neg e, if_neg e, if_neg (by omega)]
  | succ n ih =>
    intro i fuel m hi hp hf
    obtain ⟨f, rfl⟩ : ∃ f, fuel = f + 1 := ⟨fuel - 1, by omega⟩
    obtain ⟨j, rfl⟩ : ∃ j, i = j + 1 := ⟨i - 1, by omega⟩
    obtain ⟨m', g1, g2, g3⟩ := ih (j + 2) f (ms (ms (ms (ms m 95 j (mi m 95 (j + 1))) 96 j (mi m 96 (j + 1))) 97 j (mi m 97 (j + 1))) 98 j (mi m 98 (j + 1))) (by omega) (by omega) (by omega)
    have t : ∀ h k, mi (ms (ms (ms (ms m 95 j (mi m 95 (j + 1))) 96 j (mi m 96 (j + 1))) 97 j (mi m 97 (j + 1))) 98 j (mi m 98 (j + 1))) h k = if 94 < h ∧ h < 99 ∧ k = j then mi m h (j + 1) else mi m h k := by
      intro h k
      simp only [mi_ms]
      by_cases e : 94 < h ∧ h < 99 ∧ k = j
      · rw [if_pos e]
        obtain ⟨e1, e2, e3⟩ := e
        subst e3
        by_cases q1 : h = 95
        · subst q1; simp
        · by_cases q2 : h = 96
          · subst q2; simp
          · by_cases q3 : h = 97
            · subst q3; simp
            · have q4 : h = 98 := by omega
              subst q4; simp
      · rw [if_neg e, if_neg (by omega), if_neg (by omega), if_neg (by omega), if_neg (by omega)]
    refine ⟨m', ?_, fun h k => g2 h k, fun h k => ?_⟩
    · show B_X9_drops_2 _ _ _ = _
      unfold B_X9_drops_2
      have z : ¬ (40 : Int32) ≤ nI (j + 1) := fun q => by have := (nI_lec (n := 40) (c := j + 1) (by decide) (by omega)).mp q; omega
      rw [if_neg z, nI_s1 (by omega), if_pos (inb_nI (by omega) (by decide)), if_pos (inb_nI (by omega) (by decide)), ix_nI (by omega), ix_nI (by omega), nI_1]
      exact g1
    · rw [g3, t, t, t]
      by_cases e : h = 80 ∧ k = 28
      · rw [if_pos e, if_pos e, if_neg (by omega)]
      · rw [if_neg e, if_neg e]
        by_cases e2 : 94 < h ∧ h < 99 ∧ j + 2 - 1 ≤ k ∧ k < 39
        · rw [if_pos e2, if_neg (by omega), if_pos (by omega)]
        · rw [if_neg e2]
          by_cases e3 : 94 < h ∧ h < 99 ∧ k = j
          · rw [if_pos e3, if_pos (by omega)]
            obtain ⟨_, _, e4⟩ := e3
            subst e4
            rfl
          · rw [if_neg e3, if_neg (by omega)]
def fgX (x : MX) : MX := xcp (xcp (xcp (xcp (xs x 20 4 39) 21 21 1 0 39) 22 22 1 0 39) 23 23 1 0 39) 24 24 1 0 39
theorem forget_eq (x : MX) : f_X1_forgetOldest x = some (fgX x) := rfl
theorem fgX_xi {x : MX} {h k : Nat} : xi (fgX x) h k = if h = 20 ∧ k = 4 then 39 else if 20 < h ∧ h < 25 ∧ k < 39 then xi x h (k + 1) else xi x h k := by
  unfold fgX
  simp only [xi_xcp, xi_xs]
  by_cases e : h = 20 ∧ k = 4
  · rw [if_pos e, if_neg (by omega), if_neg (by omega), if_neg (by omega), if_neg (by omega), if_pos e]
  · rw [if_neg e]
    by_cases e2 : 20 < h ∧ h < 25 ∧ k < 39
    · rw [if_pos e2]
      by_cases q1 : h = 21
      · subst q1; simp [e2, Nat.add_comm]
      · by_cases q2 : h = 22
        · subst q2; simp [e2, Nat.add_comm]
        · by_cases q3 : h = 23
          · subst q3; simp [e2, Nat.add_comm]
          · have q4 : h = 24 := by omega
            subst q4; simp [e2, Nat.add_comm]
    · rw [if_neg e2, if_neg (by omega), if_neg (by omega), if_neg (by omega), if_neg (by omega), if_neg e]
theorem least_eq : ∀ w, w < 13 → (f_X9_least (nI w)).toInt = loN w := by decide
theorem most_eq : ∀ w, w < 13 → (f_X9_most (nI w)).toInt = hiN w := by decide
theorem cmd_mend {x : MX} {m : MM} (a b c : Int32) (h : Rel x m) : ∃ r x' m', f_X8_mend a b c x = some (r, x') ∧ f_X9_mend a b c m = some (r, m') ∧ Rel x' m' := by
  have hR := h
  obtain ⟨nl, nc, ns, nh, h1, h2, h3, h4, h5, h6, h7, h8, h9, h10⟩ := h
  by_cases d : (0 ≤ b.toInt ∧ b.toInt < 13) ∧ 0 ≤ a.toInt ∧ a.toInt < hol nl nc ns b.toInt.toNat
  · have tX : f_X8_isThere a b x = true := by rw [thereX h1, decide_eq_true d]
    have tM : f_X9_isNumber a b m = true := by rw [thereM h1, decide_eq_true d]
    obtain ⟨w, hw, rfl⟩ := nI_ex (n := 13) d.1.1 d.1.2
    rw [nI_int (by omega), Int.toNat_natCast] at d
    obtain ⟨k, hk, rfl⟩ := nI_ex d.2.1 d.2.2
    have hn : k < nsz w := hol_sz h1.2.2.1 h1.2.2.2.1 h1.2.2.2.2 hk
    have hn8 : k < 8 := by unfold nsz at hn; split at hn <;> (try split at hn) <;> (try split at hn) <;> omega
    have xe : xi x (7 + w) k = mnum m w k := (h2.1 w k hw hn).1
    have kM : f_X9_isIn c (f_X9_least (nI w)) (f_X9_most (nI w)) = decide (loN w ≤ c.toInt ∧ c.toInt ≤ hiN w) := by rw [isIn_eq, least_eq w hw, most_eq w hw]
    by_cases e : loN w ≤ c.toInt ∧ c.toInt ≤ hiN w
    · by_cases e2 : mnum m w k = c
      · refine ⟨mnum m w k, x, m, ?_, ?_, hR⟩
        · unfold f_X8_mend
          rw [tX, if_pos rfl, canBe_eq hw, ob_s, decide_eq_true e, if_pos rfl, if_pos (inb_nI hw (by decide)), if_pos (inb_nI hn8 (by decide)), ix_nI (by omega), ix_nI (by omega), xe, if_pos e2]
        · unfold f_X9_mend
          rw [tM, if_pos rfl, kM, decide_eq_true e, if_pos rfl, read_eq hw hn, ob_s, if_pos e2]
      · obtain ⟨md, al, a1, a2, a3, a4, a5, a6, a7⟩ := h6
        by_cases f : md < 40
        · have z1 : nI md < 40 := (nI_lt6 (n := md) (c := 40) (by omega) (by omega)).mpr f
          have z2 : ¬ nI md = 40 := fun q => by have := (nI_eqc (n := md) (c := 40) (by omega) (by omega)).mp q; omega
          refine ⟨mnum m w k, _, _, ?_, ?_, mend_core (j := md) (xd := x) (md := m) (a := k) (v := c) h1 h2 h3 h4 h5 h7 h8 h9 h10 f rfl (fun _ _ _ => rfl) (fun _ _ => rfl) (fun _ _ _ => rfl) (fun _ _ => rfl) ⟨a3, a5, fun k hk => a7 k (by omega)⟩ hw hk e⟩
          · unfold f_X8_mend f_X1_note
            rw [tX, if_pos rfl, canBe_eq hw, ob_s, decide_eq_true e, if_pos rfl, if_pos (inb_nI hw (by decide)), if_pos (inb_nI hn8 (by decide)), ix_nI (by omega), ix_nI (by omega), xe, if_neg e2, a3, if_pos z1, noteX_eq f a3, ob_s, letx_s]
          · unfold f_X9_mend
            rw [tM, if_pos rfl, kM, decide_eq_true e, if_pos rfl, read_eq hw hn, ob_s, if_neg e2, a5, if_neg z2, noteM_eq f a5 hw hn]
        · have f2 : md = 40 := by omega
          subst f2
          have f3 : al = 40 := by omega
          subst f3
          obtain ⟨m', g1, g2, g3⟩ := drops_loop 39 1 LF m rfl (by decide) (by decide)
          have p1 : xi (fgX x) 20 4 = nI 39 := by rw [fgX_xi, if_pos ⟨rfl, rfl⟩]; rfl
          have p2 : mi m' 80 28 = nI 39 := by rw [g3, if_pos ⟨rfl, rfl⟩, a5]; rfl
          refine ⟨mnum m w k, _, _, ?_, ?_, mend_core (j := 39) (xd := fgX x) (md := m') (a := k) (v := c) h1 h2 h3 h4 h5 h7 h8 h9 h10 (by decide) rfl (fun h k q => ?_) (fun _ _ => rfl) (fun h k q => ?_) g2 ⟨p1, p2, fun k hk => ?_⟩ hw hk e⟩
          · unfold f_X8_mend f_X1_note
            rw [tX, if_pos rfl, canBe_eq hw, ob_s, decide_eq_true e, if_pos rfl, if_pos (inb_nI hw (by decide)), if_pos (inb_nI hn8 (by decide)), ix_nI (by omega), ix_nI (by omega), xe, if_neg e2, a3, if_neg (show ¬ nI 40 < 40 by decide), forget_eq, ob_s, noteX_eq (by decide) p1, ob_s, letx_s]
          · have g1' : f_X9_drops m = some m' := g1
            unfold f_X9_mend
            rw [tM, if_pos rfl, kM, decide_eq_true e, if_pos rfl, read_eq hw hn, ob_s, if_neg e2, a5, if_pos (show nI 40 = 40 by decide), g1', ob_s, noteM_eq (by decide) p2 hw hn]
          · rw [fgX_xi, if_neg (by omega), if_neg (by omega)]
          · rw [g3, if_neg (by omega), if_neg (by omega)]
          · have r1 : ∀ h : Nat, 20 < h → h < 25 → xi (fgX x) h k = xi x h (k + 1) := by
              intro h q1 q2
              rw [fgX_xi, if_neg (by omega), if_pos (by omega)]
            have r2 : ∀ h : Nat, 94 < h → h < 99 → mi m' h k = mi m h (k + 1) := by
              intro h q1 q2
              rw [g3, if_neg (by omega), if_pos (by omega)]
            unfold EN
            rw [r1 _ (by omega) (by omega), r1 _ (by omega) (by omega), r1 _ (by omega) (by omega), r1 _ (by omega) (by omega), r2 _ (by omega) (by omega), r2 _ (by omega) (by omega), r2 _ (by omega) (by omega), r2 _ (by omega) (by omega)]
            exact a7 (k + 1) (by omega)
    · refine ⟨-1, x, m, ?_, ?_, hR⟩
      · unfold f_X8_mend
        rw [tX, if_pos rfl, canBe_eq hw, ob_s, decide_eq_false e]; rfl
      · unfold f_X9_mend
        rw [tM, if_pos rfl, kM, decide_eq_false e]; rfl
  · have tX : f_X8_isThere a b x = false := by rw [thereX h1, decide_eq_false d]
    have tM : f_X9_isNumber a b m = false := by rw [thereM h1, decide_eq_false d]
    refine ⟨-1, x, m, ?_, ?_, hR⟩
    · unfold f_X8_mend
      rw [tX]; rfl
    · unfold f_X9_mend
      rw [tM]; rfl
