def eAt (m : MM) (s i : Nat) : Int32 := Int64.toInt32 (ml m 109 (60 * s + i))
def aAt (m : MM) (s i : Nat) : Nat := (eAt m s i).toInt.toNat
def okAt (m : MM) (ns s i : Nat) : Prop := 0 ≤ (eAt m s i).toInt ∧ (eAt m s i).toInt < ns
theorem ok_nI {m : MM} {ns s i : Nat} (h : okAt m ns s i) : eAt m s i = nI (aAt m s i) ∧ aAt m s i < ns := by
  obtain ⟨h1, h2⟩ := h
  exact ⟨nI_of_toInt h1, by unfold aAt; omega⟩
theorem fromX {x0 : MX} {m0 : MM} {nl nc ns : Nat} (h1 : RCnt nl nc ns x0 m0) {s sz : Nat} (hs : s < 6) (hz : sz ≤ 60) (S1 : xi x0 (68 + 2 * s) 2 = nI sz) (S2 : ∀ k, k < 60 → xl x0 (68 + 2 * s + 1) k = ml m0 109 (60 * s + k)) : ∀ (n i fuel : Nat) (x : MX), i + n = sz → n < fuel → i ≤ 8 → SameX x0 x → (∀ k, k < i → xi x 55 k = nI (aAt m0 s k)) → (∀ k, k < i → okAt m0 ns s k ∧ (seenF (aAt m0 s) k).testBit (aAt m0 s k) = false) → pcN (seenF (aAt m0 s) i) = i → ∃ c x', f_X8_spotsFrom_7 fuel (68 + 2 * s) (nI i) (nI (seenF (aAt m0 s) i)) (nI i) x = some (nI c, x') ∧ SameX x0 x' ∧ c ≤ 8 ∧ c ≤ sz ∧ (∀ k, k < c → xi x' 55 k = nI (aAt m0 s k)) ∧ (∀ k, k < c → okAt m0 ns s k ∧ (seenF (aAt m0 s) k).testBit (aAt m0 s k) = false) ∧ (c = sz ∨ ¬ okAt m0 ns s c ∨ (seenF (aAt m0 s) c).testBit (aAt m0 s c) = true) := by
  have hns := h1.2.2.2.2
  intro n
  induction n with
  | zero =>
    intro i f x hi hf h8 sx g1 g2 g3
    obtain ⟨f, rfl⟩ : ∃ e, f = e + 1 := ⟨f - 1, by omega⟩
    have e : xi x (68 + 2 * s) 2 = nI sz := (sx.2.2 _ _ (scrX_sh hs 2)).trans S1
    refine ⟨i, x, ?_, sx, h8, by omega, g1, g2, Or.inl (by omega)⟩
    show B_X8_spotsFrom_7 _ _ _ _ _ _ = _
    unfold B_X8_spotsFrom_7
    rw [e, if_pos ((nI_lec (by omega) (by omega)).mpr (by omega))]
  | succ n ih =>
    intro i f x hi hf h8 sx g1 g2 g3
    obtain ⟨f, rfl⟩ : ∃ e, f = e + 1 := ⟨f - 1, by omega⟩
    have e : xi x (68 + 2 * s) 2 = nI sz := (sx.2.2 _ _ (scrX_sh hs 2)).trans S1
    have z : ¬ nI sz ≤ nI i := fun q => by have := (nI_lec (by omega) (by omega)).mp q; omega
    have ha : ∀ k, k < i → aAt m0 s k < 8 := fun k hk => by have := (ok_nI (g2 k hk).1).2; omega
    have hv := seen_lt i ha
    by_cases c8 : i = 8
    · refine ⟨i, x, ?_, sx, h8, by omega, g1, g2, ?_⟩
      · have p8 : (8 : Int32) ≤ nI i := (nI_lec (n := 8) (c := i) (by decide) (by omega)).mpr (by omega)
        show B_X8_spotsFrom_7 _ _ _ _ _ _ = _
        unfold B_X8_spotsFrom_7
        rw [e, if_neg z, if_pos p8]
      · right
        by_cases w : okAt m0 ns s i
        · right
          rw [pc_8 _ hv (by omega)]
          have := (ok_nI w).2
          exact tb_255 _ (by omega)
        · exact Or.inl w
    · have z8 : ¬ (8 : Int32) ≤ nI i := fun q => by have := (nI_lec (n := 8) (by decide) (by omega)).mp q; omega
      have el : Int64.toInt32 (xl x (68 + 2 * s + 1) i) = eAt m0 s i := by
        have : xl x (68 + 2 * s + 1) i = xl x0 (68 + 2 * s + 1) i := by unfold xl; rw [sx.2.1]
        rw [this, S2 i (by omega)]
        rfl
      have e0 : (0 : Int32).toInt = 0 := by decide
      have go : (¬ okAt m0 ns s i ∨ (seenF (aAt m0 s) i).testBit (aAt m0 s i) = true) → f_X8_spotsFrom_7 (f + 1) (68 + 2 * s) (nI i) (nI (seenF (aAt m0 s) i)) (nI i) x = some (nI i, x) := by
        intro h
        show B_X8_spotsFrom_7 _ _ _ _ _ _ = _
        unfold B_X8_spotsFrom_7
        rw [e, if_neg z, if_neg z8, if_pos (inb_nI (by omega) (by decide)), ix_nI (by omega), letx_s, el]
        by_cases w : okAt m0 ns s i
        · obtain ⟨w1, w2⟩ := ok_nI w
          have y1 : ¬ eAt m0 s i < 0 := by rw [i_lt, e0]; have := w.1; omega
          have y2 : ¬ nI ns ≤ eAt m0 s i := by rw [i_le, nI_int (by omega)]; have := w.2; omega
          rw [if_neg y1, (cntX h1 sx).2.2, if_neg y2, w1]
          rcases h with h | h
          · exact absurd w h
          · rw [if_neg]
            rw [bit_0 hv (by omega), h]
            decide
        · by_cases y1 : eAt m0 s i < 0
          · rw [if_pos y1]
          · rw [if_neg y1, (cntX h1 sx).2.2, if_pos]
            rw [i_le, nI_int (by omega)]
            rw [i_lt, e0] at y1
            unfold okAt at w
            omega
      by_cases w : okAt m0 ns s i
      · by_cases b : (seenF (aAt m0 s) i).testBit (aAt m0 s i) = true
        · exact ⟨i, x, go (Or.inr b), sx, h8, by omega, g1, g2, Or.inr (Or.inr b)⟩
        · obtain ⟨w1, w2⟩ := ok_nI w
          have b' : (seenF (aAt m0 s) i).testBit (aAt m0 s i) = false := by simpa using b
          have y1 : ¬ eAt m0 s i < 0 := by rw [i_lt, e0]; have := w.1; omega
          have y2 : ¬ nI ns ≤ eAt m0 s i := by rw [i_le, nI_int (by omega)]; have := w.2; omega
          have eX : f_X8_spotsFrom_7 (f + 1) (68 + 2 * s) (nI i) (nI (seenF (aAt m0 s) i)) (nI i) x = f_X8_spotsFrom_7 f (68 + 2 * s) (nI (i + 1)) (nI (seenF (aAt m0 s) (i + 1))) (nI (i + 1)) (xs x 55 i (nI (aAt m0 s i))) := by
            show B_X8_spotsFrom_7 _ _ _ _ _ _ = _
            unfold B_X8_spotsFrom_7
            rw [e, if_neg z, if_neg z8, if_pos (inb_nI (by omega) (by decide)), ix_nI (by omega), letx_s, el, if_neg y1, (cntX h1 sx).2.2, if_neg y2, w1, if_pos ((bit_0 hv (by omega)).mpr b'), letx_s, if_pos (inb_nI (by omega) (by decide)), letx_s, nI_1, bit_or _ hv _ (by omega)]
            rfl
          rw [eX]
          refine ih (i + 1) f _ (by omega) (by omega) (by omega) (sx.tr (SameX.xs rfl)) (fun k hk => ?_) (fun k hk => ?_) ?_
          · rw [xi_xs]
            by_cases d : k = i
            · rw [if_pos ⟨rfl, d⟩, d]
            · rw [if_neg (by omega)]
              exact g1 k (by omega)
          · by_cases d : k = i
            · rw [d]; exact ⟨w, b'⟩
            · exact g2 k (by omega)
          · have := pc_or _ hv (aAt m0 s i) (by omega) b'
            show pcN (seenF (aAt m0 s) i ||| 2 ^ aAt m0 s i) = i + 1
            omega
      · exact ⟨i, x, go (Or.inl w), sx, h8, by omega, g1, g2, Or.inr (Or.inl w)⟩
theorem toldM2 {x0 : MX} {m0 : MM} (hR : Rel x0 m0) {nl nc ns : Nat} (h1 : RCnt nl nc ns x0 m0) (hN : RNum nl nc ns x0 m0) (hp : 0 < ns) {v S : Nat} (hv : v < 256) (hS : S ≤ 700000) (part : Int32) : ∀ (n j fuel : Nat), j + n = ns → n < fuel → f_X9_told_160 m0 fuel part (nI v) (lI (S + rsF m0 v j)) (lI (sumN (LK m0) j)) (nI j) = some (lowV (S + rsF m0 v ns) (sumN (LK m0) ns) part) := by
  have hns := h1.2.2.2.2
  have pos : 0 < sumN (LK m0) ns := by
    obtain ⟨k, rfl⟩ : ∃ k, ns = k + 1 := ⟨ns - 1, by omega⟩
    have := LK_pos hN (s := k) (by omega)
    show 0 < sumN (LK m0) k + LK m0 k
    omega
  intro n
  induction n with
  | zero =>
    intro j f hj hf
    obtain ⟨f, rfl⟩ : ∃ e, f = e + 1 := ⟨f - 1, by omega⟩
    have e : j = ns := by omega
    subst e
    have b1 := rs_le hR v j (by omega)
    have b2 := all_le hR j (by omega)
    show B_X9_told_160 _ _ _ _ _ _ _ = _
    unfold B_X9_told_160
    rw [h1.2.1.2.2, if_pos ((nI_lec (by omega) (by omega)).mpr (Nat.le_refl _)), lowMm (by omega) (by omega) pos, ob_s]
  | succ n ih =>
    intro j f hj hf
    obtain ⟨f, rfl⟩ : ∃ e, f = e + 1 := ⟨f - 1, by omega⟩
    have z : ¬ nI ns ≤ nI j := fun q => by have := (nI_lec (by omega) (by omega)).mp q; omega
    obtain ⟨e, eb, _⟩ := LK_eq hR (s := j) (by omega)
    have r := ih (j + 1) f (by omega) (by omega)
    show B_X9_told_160 _ _ _ _ _ _ _ = _
    unfold B_X9_told_160 B_X9_told_209
    rw [h1.2.1.2.2, if_neg z, if_pos (inb_nI (by omega) (by decide)), ix_nI (by omega), e, letx_s, has_eq hv (by omega), nI_1, lI_nI (by omega), lI_add, ← r]
    have e2 : sumN (LK m0) (j + 1) = sumN (LK m0) j + LK m0 j := rfl
    have e3 : rsF m0 v (j + 1) = rsF m0 v j + (if v.testBit j = true then 0 else LK m0 j * 999) := rfl
    rw [e2, e3]
    by_cases c : v.testBit j = true
    · rw [if_pos c, if_pos c]
      rfl
    · rw [if_neg c, if_neg c, letx_s]
      have e4 : lI (S + rsF m0 v j) + 999 * lI (LK m0 j) = lI (S + (rsF m0 v j + LK m0 j * 999)) := by
        rw [← Nat.add_assoc, ← lI_add (S + rsF m0 v j) (LK m0 j * 999), Nat.mul_comm, ← lI_mul]
        rfl
      rw [e4]
theorem toldM1 {x0 : MX} {m0 : MM} (hR : Rel x0 m0) {nl nc ns : Nat} (h1 : RCnt nl nc ns x0 m0) {s sz c : Nat} (hs : s < 6) (hz : sz ≤ 60) (hp : 0 < ns) (S1 : mi m0 107 s = nI sz) (hc : c ≤ sz) (hc8 : c ≤ 8) (g2 : ∀ k, k < c → okAt m0 ns s k ∧ (seenF (aAt m0 s) k).testBit (aAt m0 s k) = false) (g3 : c = sz ∨ ¬ okAt m0 ns s c ∨ (seenF (aAt m0 s) c).testBit (aAt m0 s c) = true) (part : Int32) : ∀ (n i fuel : Nat), i + n = c → n < fuel → f_X9_told_66 m0 fuel (nI s) part (nI (seenF (aAt m0 s) i)) (nI (clkF m0 (aAt m0 s) i)) (lI (smF m0 (aAt m0 s) i)) 0 (nI i) = B_X9_told_157 part (nI (seenF (aAt m0 s) c)) (lI (smF m0 (aAt m0 s) c)) 0 m0 := by
  have hns := h1.2.2.2.2
  have ha : ∀ k, k < c → aAt m0 s k < 8 := fun k hk => by have := (ok_nI (g2 k hk).1).2; omega
  have e0 : (0 : Int32).toInt = 0 := by decide
  have e1 : nI ns - 1 = nI (ns - 1) := nI_sub (k := 1) (by omega)
  have isin : ∀ i, f_X9_isIn (eAt m0 s i) 0 (nI ns - 1) = true ↔ okAt m0 ns s i := by
    intro i
    rw [isIn_iff, e1, e0, nI_int (by omega)]
    unfold okAt
    omega
  intro n
  induction n with
  | zero =>
    intro i f hi hf
    obtain ⟨f, rfl⟩ : ∃ e, f = e + 1 := ⟨f - 1, by omega⟩
    have e : i = c := by omega
    subst e
    show B_X9_told_66 _ _ _ _ _ _ _ _ _ = _
    unfold B_X9_told_66
    rw [if_pos (inb_nI hs (by decide)), ix_nI (by omega), S1]
    by_cases w : i = sz
    · rw [if_pos ((nI_lec (by omega) (by omega)).mpr (by omega))]
    · have z : ¬ nI sz ≤ nI i := fun q => by have := (nI_lec (by omega) (by omega)).mp q; omega
      have ei : f_X9_intAt (nI s) (nI i) m0 = some (eAt m0 s i) := by
        unfold f_X9_intAt
        rw [cellix hs (by omega), if_pos (inb_nI (by omega) (by decide)), ix_nI (by omega)]
        rfl
      rw [if_neg z, ei, ob_s, h1.2.1.2.2]
      by_cases o : okAt m0 ns s i
      · rw [if_pos ((isin i).mpr o)]
        obtain ⟨w1, w2⟩ := ok_nI o
        rcases g3 with g3 | g3 | g3
        · exact absurd g3 w
        · exact absurd o g3
        · rw [w1, has_eq (seen_lt i ha) (by omega), if_pos g3]
      · rw [if_neg (fun q => o ((isin i).mp q))]
  | succ n ih =>
    intro i f hi hf
    obtain ⟨f, rfl⟩ : ∃ e, f = e + 1 := ⟨f - 1, by omega⟩
    have z : ¬ nI sz ≤ nI i := fun q => by have := (nI_lec (by omega) (by omega)).mp q; omega
    have ei : f_X9_intAt (nI s) (nI i) m0 = some (eAt m0 s i) := by
      unfold f_X9_intAt
      rw [cellix hs (by omega), if_pos (inb_nI (by omega) (by decide)), ix_nI (by omega)]
      rfl
    obtain ⟨o, o2⟩ := g2 i (by omega)
    obtain ⟨w1, w2⟩ := ok_nI o
    have hai := ha i (by omega)
    have hv := seen_lt i (fun k hk => ha k (by omega))
    have b1 := clk_le hR (a := aAt m0 s) (i + 1) (fun k hk => ha k (by omega))
    have b2 : clkF m0 (aAt m0 s) i + LO m0 (aAt m0 s i) ≤ (i + 1) * 99 := b1
    obtain ⟨y1, y2, _⟩ := LK_eq hR hai
    obtain ⟨u1, u2, _⟩ := LO_eq hR hai
    have r := ih (i + 1) f (by omega) (by omega)
    show B_X9_told_66 _ _ _ _ _ _ _ _ _ = _
    unfold B_X9_told_66
    rw [if_pos (inb_nI hs (by decide)), ix_nI (by omega), S1, if_neg z, ei, ob_s, h1.2.1.2.2, if_pos ((isin i).mpr o), w1, has_eq hv hai, if_neg (by rw [o2]; decide), letx_s, if_pos (inb_nI hai (by decide)), ix_nI (by omega), y1, u1, letx_s, nA_add, lI_nI (by omega), lI_nI (by omega), lI_mul, lI_add, nI_1, bit_or _ hv _ hai, ← r]
    rfl
theorem cmd_told {x : MX} {m : MM} (v w : Int32) (hR : Rel x m) : ∃ r x', f_X8_told v w x = some (r, x') ∧ f_X9_told v w m = some r ∧ Rel x' m := by
  obtain ⟨nl, nc, ns, nh, h1, h2, h3, h4, h5, h6, h7, h8, h9, h10⟩ := id hR
  have hns := h1.2.2.2.2
  unfold f_X8_told f_X9_told
  rw [isShelfX, isShelfM, partX]
  by_cases c : 0 ≤ v.toInt ∧ v.toInt < (6 : Nat)
  · rw [decide_eq_true c, if_pos rfl, if_pos rfl]
    obtain ⟨s, hs, rfl⟩ := nI_ex (a := v) (n := 6) c.1 c.2
    by_cases d : f_X9_isIn w 0 1 = true
    · rw [if_pos d, if_pos d, if_pos (inb_nI hs (by decide)), if_pos (inb_nI hs (by decide)), ix_nI (by omega), h1.1.2.2, h1.2.1.2.2]
      rcases h10 s hs with ⟨a1, a2⟩ | ⟨a1, a2, q, hq, a3, a4⟩ | ⟨a1, so, sz, b1, b2, b3, b4, b5, b6, b7⟩
      · have e : f_X6_holdsRowOf (68 + 2 * s) 0 x = false := by unfold f_X6_holdsRowOf; rw [a2]; rfl
        rw [e, a1]
        exact ⟨_, x, rfl, rfl, hR⟩
      · have e : f_X6_holdsRowOf (68 + 2 * s) 0 x = false := by unfold f_X6_holdsRowOf; rw [a2]; rfl
        rw [e, a1]
        exact ⟨_, x, rfl, rfl, hR⟩
      · rw [holdsOf b3 b1, a1, b4, if_pos rfl]
        by_cases g : so = 0
        · subst g
          rw [if_pos (decide_eq_true (show nI 0 = 0 from rfl)), if_pos (show nI 0 = 0 from rfl)]
          by_cases n0 : ns = 0
          · subst n0
            rw [if_pos (show nI 0 = 0 from rfl), if_pos (show nI 0 = 0 from rfl)]
            exact ⟨_, x, rfl, rfl, hR⟩
          · have d2 : ¬ nI ns = 0 := fun q => n0 ((nI_eqc (c := 0) (by omega) (by decide)).mp q)
            rw [if_neg d2, if_neg d2]
            obtain ⟨c, x', X1, X2, X3, X4, X5, X6, X7⟩ := fromX h1 hs b2 b5 (fun k hk => (b7 k hk).1) sz 0 LF x (by omega) (by unfold LF; omega) (by omega) (SameX.rf x) (fun k hk => absurd hk (by omega)) (fun k hk => absurd hk (by omega)) (by decide : pcN 0 = 0)
            have X1' : f_X8_spotsFrom (68 + 2 * s) x = some (nI c, x') := X1
            have ha : ∀ k, k < c → aAt m s k < 8 := fun k hk => by have := (ok_nI (X6 k hk).1).2; omega
            have bs := sm_le hR (a := aAt m s) c X3 ha
            have M1 := toldM1 hR h1 hs b2 (by omega) b6 X4 X3 X6 X7 w c 0 LF (by omega) (by unfold LF; omega)
            have M2 := toldM2 hR h1 h2 (by omega) (v := seenF (aAt m s) c) (S := smF m (aAt m s) c) (seen_lt c ha) (by omega) w ns 0 LF (by omega) (by unfold LF; omega)
            rw [X1', ob2_s, meanX hR h1 h2 (by omega) X2 X3 ha X5 w, ob_s]
            refine ⟨_, x', rfl, ?_, hR.same X2 (SameM.rf m)⟩
            rw [← M2]
            exact M1
        · have g2 : ¬ nI so = 0 := fun q => g ((nI_eqc (c := 0) (by omega) (by decide)).mp q)
          rw [if_neg (by rw [decide_eq_false g2]; decide), if_neg g2]
          exact ⟨_, x, rfl, rfl, hR⟩
    · rw [if_neg d, if_neg d]
      exact ⟨_, x, rfl, rfl, hR⟩
  · rw [decide_eq_false c]
    exact ⟨_, x, rfl, rfl, hR⟩
