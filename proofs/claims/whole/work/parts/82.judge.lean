def unl (f g : Nat → Int32) : Nat → Nat → Int32
  | 0, _ => -2
  | n + 1, j => if f j = g j then unl f g n (j + 1) else nI j
def ShS (x0 : MX) (m0 : MM) (s sz : Nat) : Prop := xi x0 (68 + 2 * s) 2 = nI sz ∧ mi m0 107 s = nI sz ∧ sz ≤ 60 ∧ ∀ k, k < 60 → xl x0 (68 + 2 * s + 1) k = ml m0 109 (60 * s + k) ∧ (Int64.toInt32 (ml m0 109 (60 * s + k))).toInt64 = ml m0 109 (60 * s + k)
theorem cmpE (u v : Int64) : lg_cmp u v = 0 ↔ u = v := by
  unfold lg_cmp
  by_cases c : u > v
  · rw [if_pos c]
    refine ⟨fun q => absurd q (by decide), fun q => ?_⟩
    subst q
    exact absurd c (Int64.lt_irrefl)
  · rw [if_neg c]
    by_cases d : u = v
    · rw [if_pos d]; exact ⟨fun _ => d, fun _ => rfl⟩
    · rw [if_neg d]
      exact ⟨fun q => absurd q (by decide), fun q => absurd q d⟩
theorem to3264 {e : Int64} (h : (Int64.toInt32 e).toInt64 = e) (r : Int32) : e = Int32.toInt64 r ↔ r = Int64.toInt32 e := by
  constructor
  · intro q
    rw [← Int32.toInt_inj, ← Int32.toInt_toInt64, ← q, ← Int32.toInt_toInt64, h]
  · intro q
    rw [q, h]
def rowT (m0 : MM) (T : Nat → Nat → Int32 → Int32 → Int32 → Int32) (s sz a b : Nat) (st : Int32) (g : Nat) : Int32 := unl (fun k => T a b st (mi m0 88 g) (mi m0 90 g + nI k)) (fun k => Int64.toInt32 (ml m0 109 (60 * s + k))) sz 0
theorem firstX {x0 : MX} {m0 : MM} {T : Nat → Nat → Int32 → Int32 → Int32 → Int32} (K : TK x0 m0 T) {s sz : Nat} (hs : s < 6) (S : ShS x0 m0 s sz) {a b g : Nat} (ha : a < 6) (hb : b < 6) (hg : g < 2) {st : Int32} (hst : 0 ≤ st.toInt ∧ st.toInt ≤ 99) : ∀ (n j fuel : Nat) (x : MX), SameX x0 x → j + n = sz → n < fuel → ∃ x', f_X8_firstNotSo_27 fuel (68 + 2 * s) (nI a) (nI b) st (mi m0 88 g) (mi m0 90 g) (nI j) x = some (unl (fun k => T a b st (mi m0 88 g) (mi m0 90 g + nI k)) (fun k => Int64.toInt32 (ml m0 109 (60 * s + k))) n j, x') ∧ SameX x0 x' := by
  have d := tk_dn K.1 hg
  have c := tk_sk K.1 hg
  obtain ⟨S1, S2, S3, S4⟩ := S
  intro n
  induction n with
  | zero =>
    intro j f x sx hj hf
    obtain ⟨f, rfl⟩ : ∃ e, f = e + 1 := ⟨f - 1, by omega⟩
    refine ⟨x, ?_, sx⟩
    have e : xi x (68 + 2 * s) 2 = nI sz := (sx.2.2 _ _ (scrX_sh hs 2)).trans S1
    have z : nI sz ≤ nI j := (nI_lec (by omega) (by omega)).mpr (by omega)
    show B_X8_firstNotSo_27 _ _ _ _ _ _ _ _ _ = _
    unfold B_X8_firstNotSo_27
    rw [e, if_pos z]
    rfl
  | succ n ih =>
    intro j f x sx hj hf
    obtain ⟨f, rfl⟩ : ∃ e, f = e + 1 := ⟨f - 1, by omega⟩
    have e : xi x (68 + 2 * s) 2 = nI sz := (sx.2.2 _ _ (scrX_sh hs 2)).trans S1
    have z : ¬ nI sz ≤ nI j := fun q => by have := (nI_lec (by omega) (by omega)).mp q; omega
    have hn : (mi m0 90 g + nI j).toInt = (mi m0 90 g).toInt + j := by rw [i_add (by rw [nI_int (by omega)]; omega) (by rw [nI_int (by omega)]; omega), nI_int (by omega)]
    obtain ⟨x1, E1, E2'⟩ := K.2.1 x a b st (mi m0 88 g) (mi m0 90 g + nI j) sx ha hb ⟨c.1, by omega⟩ hst ⟨by omega, by omega⟩
    have E2 := sx.tr E2'.toX
    have el : xl x (68 + 2 * s + 1) j = ml m0 109 (60 * s + j) := by
      have : xl x (68 + 2 * s + 1) j = xl x0 (68 + 2 * s + 1) j := by unfold xl; rw [sx.2.1]
      rw [this]
      exact (S4 j (by omega)).1
    have eX : f_X8_firstNotSo_27 (f + 1) (68 + 2 * s) (nI a) (nI b) st (mi m0 88 g) (mi m0 90 g) (nI j) x = if T a b st (mi m0 88 g) (mi m0 90 g + nI j) = Int64.toInt32 (ml m0 109 (60 * s + j)) then f_X8_firstNotSo_27 f (68 + 2 * s) (nI a) (nI b) st (mi m0 88 g) (mi m0 90 g) (nI (j + 1)) x1 else some (nI j, x1) := by
      show B_X8_firstNotSo_27 _ _ _ _ _ _ _ _ _ = _
      unfold B_X8_firstNotSo_27
      rw [e, if_neg z, if_pos (inb_nI (by omega) (by decide)), ix_nI (by omega), E1, ob2_s, el, nI_1]
      by_cases q : T a b st (mi m0 88 g) (mi m0 90 g + nI j) = Int64.toInt32 (ml m0 109 (60 * s + j))
      · rw [if_pos q, if_pos ((cmpE _ _).mpr ((to3264 (S4 j (by omega)).2 _).mpr q))]
      · rw [if_neg q, if_neg (fun w => q ((to3264 (S4 j (by omega)).2 _).mp ((cmpE _ _).mp w)))]
    rw [eX]
    show ∃ x', _ = some ((if T a b st (mi m0 88 g) (mi m0 90 g + nI j) = Int64.toInt32 (ml m0 109 (60 * s + j)) then _ else _), x') ∧ _
    by_cases q : T a b st (mi m0 88 g) (mi m0 90 g + nI j) = Int64.toInt32 (ml m0 109 (60 * s + j))
    · rw [if_pos q, if_pos q]
      exact ih (j + 1) f x1 E2 (by omega) (by omega)
    · rw [if_neg q, if_neg q]
      exact ⟨x1, rfl, E2⟩
theorem notSoX {x0 x : MX} {m0 : MM} {T : Nat → Nat → Int32 → Int32 → Int32 → Int32} (K : TK x0 m0 T) {s sz : Nat} (hs : s < 6) (S : ShS x0 m0 s sz) {a b g : Nat} (ha : a < 6) (hb : b < 6) (hg : g < 2) {st : Int32} (hst : 0 ≤ st.toInt ∧ st.toInt ≤ 99) (sx : SameX x0 x) : ∃ x', f_X8_firstNotSo (68 + 2 * s) (nI a) (nI b) st (nI g) x = some (rowT m0 T s sz a b st g, x') ∧ SameX x0 x' := by
  obtain ⟨x', r1, r2⟩ := firstX K hs S ha hb hg hst sz 0 LF x sx (by omega) (by have := S.2.2.1; unfold LF; omega)
  refine ⟨x', ?_, r2⟩
  have e1 : xi x 13 g = mi m0 88 g := tk_xnum K.1 sx (w := 6) (k := g) (by decide) hg
  have e2 : xi x 15 g = mi m0 90 g := tk_xnum K.1 sx (w := 8) (k := g) (by decide) hg
  unfold f_X8_firstNotSo
  rw [if_pos (inb_nI (by omega) (by decide)), ix_nI (by omega), e1, e2]
  exact r1
theorem firstM {x0 : MX} {m0 : MM} {T : Nat → Nat → Int32 → Int32 → Int32 → Int32} (K : TK x0 m0 T) {s sz : Nat} (hs : s < 6) (S : ShS x0 m0 s sz) {a b g : Nat} (ha : a < 6) (hb : b < 6) (hg : g < 2) {st : Int32} (hst : 0 ≤ st.toInt ∧ st.toInt ≤ 99) : ∀ (n j fuel : Nat) (m : MM), SameM m0 m → j + n = sz → n < fuel → ∃ m', f_X9_unlike_3 fuel (nI s) (nI a) (nI b) (nI g) st (nI j) m = some (unl (fun k => T a b st (mi m0 88 g) (mi m0 90 g + nI k)) (fun k => Int64.toInt32 (ml m0 109 (60 * s + k))) n j, m') ∧ SameM m0 m' := by
  have d := tk_dn K.1 hg
  have c := tk_sk K.1 hg
  obtain ⟨S1, S2, S3, S4⟩ := S
  intro n
  induction n with
  | zero =>
    intro j f m sm hj hf
    obtain ⟨f, rfl⟩ : ∃ e, f = e + 1 := ⟨f - 1, by omega⟩
    refine ⟨m, ?_, sm⟩
    have e : mi m 107 s = nI sz := (sm.2 _ _ rfl).trans S2
    have z : nI sz ≤ nI j := (nI_lec (by omega) (by omega)).mpr (by omega)
    show B_X9_unlike_3 _ _ _ _ _ _ _ _ = _
    unfold B_X9_unlike_3
    rw [if_pos (inb_nI hs (by decide)), ix_nI (by omega), e, if_pos z]
    rfl
  | succ n ih =>
    intro j f m sm hj hf
    obtain ⟨f, rfl⟩ : ∃ e, f = e + 1 := ⟨f - 1, by omega⟩
    have e : mi m 107 s = nI sz := (sm.2 _ _ rfl).trans S2
    have z : ¬ nI sz ≤ nI j := fun q => by have := (nI_lec (by omega) (by omega)).mp q; omega
    have hn : (mi m0 90 g + nI j).toInt = (mi m0 90 g).toInt + j := by rw [i_add (by rw [nI_int (by omega)]; omega) (by rw [nI_int (by omega)]; omega), nI_int (by omega)]
    obtain ⟨m1, E1, E2'⟩ := K.2.2.1 m a b st (mi m0 88 g) (mi m0 90 g + nI j) sm ha hb ⟨c.1, by omega⟩ hst ⟨by omega, by omega⟩
    have E2 := sm.tr E2'.toM
    have e1 : ∀ k, mi m 88 k = mi m0 88 k := fun k => sm.2 _ _ rfl
    have e2 : ∀ k, mi m 90 k = mi m0 90 k := fun k => sm.2 _ _ rfl
    have ei : f_X9_intAt (nI s) (nI j) m1 = some (Int64.toInt32 (ml m0 109 (60 * s + j))) := by
      unfold f_X9_intAt
      rw [cellix hs (by omega), if_pos (inb_nI (by omega) (by decide)), ix_nI (by omega), E2.1 109 _ (by decide)]
    have eX : f_X9_unlike_3 (f + 1) (nI s) (nI a) (nI b) (nI g) st (nI j) m = if T a b st (mi m0 88 g) (mi m0 90 g + nI j) = Int64.toInt32 (ml m0 109 (60 * s + j)) then f_X9_unlike_3 f (nI s) (nI a) (nI b) (nI g) st (nI (j + 1)) m1 else some (nI j, m1) := by
      show B_X9_unlike_3 _ _ _ _ _ _ _ _ = _
      unfold B_X9_unlike_3
      rw [if_pos (inb_nI hs (by decide)), ix_nI (by omega), e, if_neg z, if_pos (inb_nI hg (by decide)), ix_nI (by omega), e1, e2, E1, ob2_s, ei, ob_s, nI_1]
    rw [eX]
    show ∃ m', _ = some ((if T a b st (mi m0 88 g) (mi m0 90 g + nI j) = Int64.toInt32 (ml m0 109 (60 * s + j)) then _ else _), m') ∧ _
    by_cases q : T a b st (mi m0 88 g) (mi m0 90 g + nI j) = Int64.toInt32 (ml m0 109 (60 * s + j))
    · rw [if_pos q, if_pos q]
      exact ih (j + 1) f m1 E2 (by omega) (by omega)
    · rw [if_neg q, if_neg q]
      exact ⟨m1, rfl, E2⟩
theorem notSoM {x0 : MX} {m m0 : MM} {T : Nat → Nat → Int32 → Int32 → Int32 → Int32} (K : TK x0 m0 T) {s sz : Nat} (hs : s < 6) (S : ShS x0 m0 s sz) {a b g : Nat} (ha : a < 6) (hb : b < 6) (hg : g < 2) {st : Int32} (hst : 0 ≤ st.toInt ∧ st.toInt ≤ 99) (sm : SameM m0 m) : ∃ m', f_X9_unlike (nI s) (nI a) (nI b) (nI g) st m = some (rowT m0 T s sz a b st g, m') ∧ SameM m0 m' := by
  obtain ⟨m', r1, r2⟩ := firstM K hs S ha hb hg hst sz 0 LF m sm (by omega) (by have := S.2.2.1; unfold LF; omega)
  exact ⟨m', r1, r2⟩
theorem bars_case {x : MX} {m : MM} (hR : Rel x m) {s : Nat} (hs : s < 6) : (∃ v : Int32, ¬ v = 0 ∧ f_X6_refusalAs (68 + 2 * s) 1 x = v ∧ f_X9_barsOf (nI s) m = some v) ∨ (f_X6_refusalAs (68 + 2 * s) 1 x = 0 ∧ f_X9_barsOf (nI s) m = some 0 ∧ ∃ sz, ShS x m s sz) := by
  obtain ⟨nl, nc, ns, nh, h1, h2, h3, h4, h5, h6, h7, h8, h9, h10⟩ := id hR
  unfold f_X6_refusalAs f_X9_barsOf f_X6_holdsNothing
  rw [if_pos (inb_nI hs (by decide)), ix_nI (by omega)]
  rcases h10 s hs with ⟨a1, a2⟩ | ⟨a1, a2, q, hq, a3, a4⟩ | ⟨a1, so, sz, b1, b2, b3, b4, b5, b6, b7⟩
  · left
    refine ⟨-11, by decide, ?_, ?_⟩
    · rw [a2]; rfl
    · rw [a1]; rfl
  · left
    refine ⟨-12, by decide, ?_, ?_⟩
    · unfold f_X6_holdsRowOf
      rw [a2]; rfl
    · rw [a1]; rfl
  · have n2 : ¬ nI so = -2 := nI_neg (by omega) (by decide)
    rw [a1, b4, b3, if_neg n2, holdsOf b3 b1]
    by_cases c : so = 1
    · right
      subst c
      exact ⟨rfl, rfl, sz, b5, b6, b2, fun k hk => ⟨(b7 k hk).1, (b7 k hk).2 rfl⟩⟩
    · left
      have n1 : ¬ nI so = 1 := fun q => c ((nI_eqc (c := 1) (by omega) (by decide)).mp q)
      refine ⟨-12, by decide, ?_, ?_⟩
      · rw [decide_eq_false n1]; rfl
      · rw [if_neg n1]; rfl
theorem cmd_judge {x : MX} {m : MM} (v w : Int32) (hR : Rel x m) : ∃ r x' m', f_X8_judge v w x = some (r, x') ∧ f_X9_judge v w m = some (r, m') ∧ Rel x' m' := by
  obtain ⟨nl, nc, ns, nh, h1, h2, h3⟩ := id hR
  obtain ⟨T, K⟩ := tk_ex hR
  have la := h1.2.2.1
  have lb := h1.2.2.2.1
  unfold f_X8_judge f_X9_judge
  rw [isShelfX, isShelfM]
  by_cases c : 0 ≤ v.toInt ∧ v.toInt < (6 : Nat)
  · rw [decide_eq_true c, if_pos rfl, if_pos rfl]
    obtain ⟨s, hs, rfl⟩ := nI_ex (a := v) (n := 6) c.1 c.2
    rcases pair_eq h1 w with ⟨p1, p2⟩ | ⟨p1, p2, a, b, ha, hb, ea, eb⟩
    · rw [p1, p2]
      exact ⟨-1, x, m, rfl, rfl, hR⟩
    · rw [p1, p2, ob_s, ob_s, if_pos rfl, if_pos rfl, if_pos (inb_nI hs (by decide)), ix_nI (by omega), ea, eb]
      rcases bars_case hR hs with ⟨r, r0, r1, r2⟩ | ⟨r1, r2, sz, S⟩
      · rw [r1, r2, ob_s, ob_s, if_neg r0, if_neg r0]
        exact ⟨r, x, m, rfl, rfl, hR⟩
      · obtain ⟨g1, g2⟩ := gh_lt K.1 (b := b) (by omega)
        have st := tk_st K.1 (b := b) (by omega)
        have e1 : xi x 11 b = nI (gh m b) := (tk_xnum K.1 (SameX.rf x) (w := 4) (k := b) (by decide) (show b < 6 by omega)).trans g2
        have e2 : xi x 9 b = mi m 83 b := tk_xnum K.1 (SameX.rf x) (w := 2) (k := b) (by decide) (show b < 6 by omega)
        obtain ⟨x', X1, X2⟩ := notSoX K hs S (a := a) (b := b) (g := gh m b) (by omega) (by omega) g1 (st := mi m 83 b) ⟨st.1, by omega⟩ (SameX.rf x)
        obtain ⟨m', M1, M2⟩ := notSoM K hs S (a := a) (b := b) (g := gh m b) (by omega) (by omega) g1 (st := mi m 83 b) ⟨st.1, by omega⟩ (SameM.rf m)
        refine ⟨rowT m T s sz a b (mi m 83 b) (gh m b), x', m', ?_, ?_, hR.same X2 M2⟩
        · rw [r1, if_pos rfl, if_pos (inb_nI (by omega) (by decide)), ix_nI (by omega), e1, e2, X1, ob2_s]
        · rw [r2, ob_s, if_pos rfl, if_pos (inb_nI (by omega) (by decide)), ix_nI (by omega), g2, M1, ob2_s]
  · rw [decide_eq_false c]
    exact ⟨-1, x, m, rfl, rfl, hR⟩
def whF (u : Nat → Int32) : Nat → Nat → Int32 → Int32
  | 0, _, bits => bits
  | n + 1, j, bits => whF u n (j + 1) (if u j = -2 then bits ||| ((1 : Int32) <<< (nI j &&& 31)) else bits)
theorem whX {x0 : MX} {m0 : MM} {T : Nat → Nat → Int32 → Int32 → Int32 → Int32} (K : TK x0 m0 T) {nl nc ns : Nat} (h1 : RCnt nl nc ns x0 m0) {s sz : Nat} (hs : s < 6) (S : ShS x0 m0 s sz) {b : Nat} (hb : b < 6) : ∀ (n j fuel : Nat) (bits : Int32) (x : MX), SameX x0 x → j + n = nl → n < fuel → ∃ x', f_X8_which_44 fuel (nI b) (68 + 2 * s) bits (nI j) x = some (whF (fun a => rowT m0 T s sz a b (mi m0 83 b) (gh m0 b)) n j bits, x') ∧ SameX x0 x' := by
  obtain ⟨g1, g2⟩ := gh_lt K.1 hb
  have st := tk_st K.1 hb
  have la := h1.2.2.1
  intro n
  induction n with
  | zero =>
    intro j f bits x sx hj hf
    obtain ⟨f, rfl⟩ : ∃ e, f = e + 1 := ⟨f - 1, by omega⟩
    have z : nI nl ≤ nI j := (nI_lec (by omega) (by omega)).mpr (by omega)
    refine ⟨x, ?_, sx⟩
    show B_X8_which_44 _ _ _ _ _ _ = _
    unfold B_X8_which_44
    rw [(cntX h1 sx).1, if_pos z]
    rfl
  | succ n ih =>
    intro j f bits x sx hj hf
    obtain ⟨f, rfl⟩ : ∃ e, f = e + 1 := ⟨f - 1, by omega⟩
    have z : ¬ nI nl ≤ nI j := fun q => by have := (nI_lec (by omega) (by omega)).mp q; omega
    have e1 : xi x 11 b = nI (gh m0 b) := (tk_xnum K.1 sx (w := 4) (k := b) (by decide) hb).trans g2
    have e2 : xi x 9 b = mi m0 83 b := tk_xnum K.1 sx (w := 2) (k := b) (by decide) hb
    obtain ⟨x1, X1, X2⟩ := notSoX K hs S (a := j) (b := b) (g := gh m0 b) (by omega) hb g1 (st := mi m0 83 b) ⟨st.1, by omega⟩ sx
    show ∃ x', B_X8_which_44 _ _ _ _ _ _ = some (whF _ n (j + 1) (if rowT m0 T s sz j b (mi m0 83 b) (gh m0 b) = -2 then _ else _), x') ∧ _
    unfold B_X8_which_44 B_X8_which_91
    rw [(cntX h1 sx).1, if_neg z, if_pos (inb_nI (by omega) (by decide)), ix_nI (by omega), e1, e2, X1, ob2_s, nI_1]
    by_cases q : rowT m0 T s sz j b (mi m0 83 b) (gh m0 b) = -2
    · rw [if_pos q, if_pos q]
      exact ih (j + 1) f _ x1 X2 (by omega) (by omega)
    · rw [if_neg q, if_neg q]
      exact ih (j + 1) f _ x1 X2 (by omega) (by omega)
theorem whM {x0 : MX} {m0 : MM} {T : Nat → Nat → Int32 → Int32 → Int32 → Int32} (K : TK x0 m0 T) {nl nc ns : Nat} (h1 : RCnt nl nc ns x0 m0) {s sz : Nat} (hs : s < 6) (S : ShS x0 m0 s sz) {b : Nat} (hb : b < 6) : ∀ (n j fuel : Nat) (bits : Int32) (m : MM), SameM m0 m → j + n = nl → n < fuel → ∃ m', f_X9_which_37 fuel (nI s) (nI b) bits (nI j) m = some (whF (fun a => rowT m0 T s sz a b (mi m0 83 b) (gh m0 b)) n j bits, m') ∧ SameM m0 m' := by
  obtain ⟨g1, g2⟩ := gh_lt K.1 hb
  have st := tk_st K.1 hb
  have la := h1.2.2.1
  intro n
  induction n with
  | zero =>
    intro j f bits m sm hj hf
    obtain ⟨f, rfl⟩ : ∃ e, f = e + 1 := ⟨f - 1, by omega⟩
    have z : nI nl ≤ nI j := (nI_lec (by omega) (by omega)).mpr (by omega)
    refine ⟨m, ?_, sm⟩
    show B_X9_which_37 _ _ _ _ _ _ = _
    unfold B_X9_which_37
    rw [(cntM h1 sm).1, if_pos z]
    rfl
  | succ n ih =>
    intro j f bits m sm hj hf
    obtain ⟨f, rfl⟩ : ∃ e, f = e + 1 := ⟨f - 1, by omega⟩
    have z : ¬ nI nl ≤ nI j := fun q => by have := (nI_lec (by omega) (by omega)).mp q; omega
    have e1 : mi m 85 b = nI (gh m0 b) := (sm.2 _ _ rfl).trans g2
    have e2 : mi m 83 b = mi m0 83 b := sm.2 _ _ rfl
    obtain ⟨m1, X1, X2⟩ := notSoM K hs S (a := j) (b := b) (g := gh m0 b) (by omega) hb g1 (st := mi m0 83 b) ⟨st.1, by omega⟩ sm
    show ∃ m', B_X9_which_37 _ _ _ _ _ _ = some (whF _ n (j + 1) (if rowT m0 T s sz j b (mi m0 83 b) (gh m0 b) = -2 then _ else _), m') ∧ _
    unfold B_X9_which_37 B_X9_which_78
    rw [(cntM h1 sm).1, if_neg z, if_pos (inb_nI hb (by decide)), ix_nI (by omega), e1, e2, X1, ob2_s, nI_1]
    by_cases q : rowT m0 T s sz j b (mi m0 83 b) (gh m0 b) = -2
    · rw [if_pos q, if_pos q]
      exact ih (j + 1) f _ m1 X2 (by omega) (by omega)
    · rw [if_neg q, if_neg q]
      exact ih (j + 1) f _ m1 X2 (by omega) (by omega)
theorem cmd_which {x : MX} {m : MM} (v w : Int32) (hR : Rel x m) : ∃ r x' m', f_X8_which v w x = some (r, x') ∧ f_X9_which v w m = some (r, m') ∧ Rel x' m' := by
  obtain ⟨nl, nc, ns, nh, h1, h2, h3⟩ := id hR
  obtain ⟨T, K⟩ := tk_ex hR
  have la := h1.2.2.1
  have lb := h1.2.2.2.1
  unfold f_X8_which f_X9_which
  rw [isShelfX, isShelfM, cuffX h1, cuffM h1]
  by_cases c : 0 ≤ v.toInt ∧ v.toInt < (6 : Nat)
  · rw [decide_eq_true c, if_pos rfl, if_pos rfl]
    obtain ⟨s, hs, rfl⟩ := nI_ex (a := v) (n := 6) c.1 c.2
    by_cases d : 0 ≤ w.toInt ∧ w.toInt < nc
    · rw [decide_eq_true d, if_pos rfl, if_pos rfl, if_pos (inb_nI hs (by decide)), ix_nI (by omega)]
      obtain ⟨b, hb, rfl⟩ := nI_ex (a := w) d.1 d.2
      rcases bars_case hR hs with ⟨r, r0, r1, r2⟩ | ⟨r1, r2, sz, S⟩
      · rw [r1, r2, ob_s, ob_s, if_neg r0, if_neg r0]
        exact ⟨r, x, m, rfl, rfl, hR⟩
      · obtain ⟨x', X1, X2⟩ := whX K h1 hs S (b := b) (by omega) nl 0 LF 0 x (SameX.rf x) (by omega) (by unfold LF; omega)
        obtain ⟨m', M1, M2⟩ := whM K h1 hs S (b := b) (by omega) nl 0 LF 0 m (SameM.rf m) (by omega) (by unfold LF; omega)
        refine ⟨whF (fun a => rowT m T s sz a b (mi m 83 b) (gh m b)) nl 0 0, x', m', ?_, ?_, hR.same X2 M2⟩
        · rw [r1, if_pos rfl]
          exact X1
        · rw [r2, ob_s, if_pos rfl]
          exact M1
    · rw [decide_eq_false d]
      exact ⟨-1, x, m, rfl, rfl, hR⟩
  · rw [decide_eq_false c]
    exact ⟨-1, x, m, rfl, rfl, hR⟩
theorem hdX {x0 : MX} {m0 : MM} {T : Nat → Nat → Int32 → Int32 → Int32 → Int32} (K : TK x0 m0 T) {s sz : Nat} (hs : s < 6) (S : ShS x0 m0 s sz) {a b : Nat} (ha : a < 6) (hb : b < 6) : ∀ (n j fuel : Nat) (bits : Int32) (x : MX), SameX x0 x → j + n = 2 → n < fuel → ∃ x', f_X8_handsOf_6 fuel (68 + 2 * s) (nI a) (nI b) bits (nI j) x = some (whF (fun g => rowT m0 T s sz a b (mi m0 83 b) g) n j bits, x') ∧ SameX x0 x' := by
  have st := tk_st K.1 hb
  intro n
  induction n with
  | zero =>
    intro j f bits x sx hj hf
    obtain ⟨f, rfl⟩ : ∃ e, f = e + 1 := ⟨f - 1, by omega⟩
    have z : (2 : Int32) ≤ nI j := (nI_lec (n := 2) (by decide) (by omega)).mpr (by omega)
    refine ⟨x, ?_, sx⟩
    show B_X8_handsOf_6 _ _ _ _ _ _ _ = _
    unfold B_X8_handsOf_6
    rw [if_pos z]
    rfl
  | succ n ih =>
    intro j f bits x sx hj hf
    obtain ⟨f, rfl⟩ : ∃ e, f = e + 1 := ⟨f - 1, by omega⟩
    have z : ¬ (2 : Int32) ≤ nI j := fun q => by have := (nI_lec (n := 2) (by decide) (by omega)).mp q; omega
    have e2 : xi x 9 b = mi m0 83 b := tk_xnum K.1 sx (w := 2) (k := b) (by decide) hb
    obtain ⟨x1, X1, X2⟩ := notSoX K hs S (a := a) (b := b) (g := j) ha hb (by omega) (st := mi m0 83 b) ⟨st.1, by omega⟩ sx
    show ∃ x', B_X8_handsOf_6 _ _ _ _ _ _ _ = some (whF _ n (j + 1) (if rowT m0 T s sz a b (mi m0 83 b) j = -2 then _ else _), x') ∧ _
    unfold B_X8_handsOf_6 B_X8_handsOf_43
    rw [if_neg z, if_pos (inb_nI (by omega) (by decide)), ix_nI (by omega), e2, X1, ob2_s, nI_1]
    by_cases q : rowT m0 T s sz a b (mi m0 83 b) j = -2
    · rw [if_pos q, if_pos q]
      exact ih (j + 1) f _ x1 X2 (by omega) (by omega)
    · rw [if_neg q, if_neg q]
      exact ih (j + 1) f _ x1 X2 (by omega) (by omega)
theorem hdM {x0 : MX} {m0 : MM} {T : Nat → Nat → Int32 → Int32 → Int32 → Int32} (K : TK x0 m0 T) {s sz : Nat} (hs : s < 6) (S : ShS x0 m0 s sz) {a b : Nat} (ha : a < 6) (hb : b < 6) : ∀ (n j fuel : Nat) (bits : Int32) (m : MM), SameM m0 m → j + n = 2 → n < fuel → ∃ m', f_X9_how_109 fuel (nI s) (nI a) (nI b) bits (nI j) m = some (whF (fun g => rowT m0 T s sz a b (mi m0 83 b) g) n j bits, m') ∧ SameM m0 m' := by
  have st := tk_st K.1 hb
  intro n
  induction n with
  | zero =>
    intro j f bits m sm hj hf
    obtain ⟨f, rfl⟩ : ∃ e, f = e + 1 := ⟨f - 1, by omega⟩
    have z : (2 : Int32) ≤ nI j := (nI_lec (n := 2) (by decide) (by omega)).mpr (by omega)
    refine ⟨m, ?_, sm⟩
    show B_X9_how_109 _ _ _ _ _ _ _ = _
    unfold B_X9_how_109
    rw [if_pos z]
    rfl
  | succ n ih =>
    intro j f bits m sm hj hf
    obtain ⟨f, rfl⟩ : ∃ e, f = e + 1 := ⟨f - 1, by omega⟩
    have z : ¬ (2 : Int32) ≤ nI j := fun q => by have := (nI_lec (n := 2) (by decide) (by omega)).mp q; omega
    have e2 : mi m 83 b = mi m0 83 b := sm.2 _ _ rfl
    obtain ⟨m1, X1, X2⟩ := notSoM K hs S (a := a) (b := b) (g := j) ha hb (by omega) (st := mi m0 83 b) ⟨st.1, by omega⟩ sm
    show ∃ m', B_X9_how_109 _ _ _ _ _ _ _ = some (whF _ n (j + 1) (if rowT m0 T s sz a b (mi m0 83 b) j = -2 then _ else _), m') ∧ _
    unfold B_X9_how_109 B_X9_how_147
    rw [if_neg z, if_pos (inb_nI hb (by decide)), ix_nI (by omega), e2, X1, ob2_s, nI_1]
    by_cases q : rowT m0 T s sz a b (mi m0 83 b) j = -2
    · rw [if_pos q, if_pos q]
      exact ih (j + 1) f _ m1 X2 (by omega) (by omega)
    · rw [if_neg q, if_neg q]
      exact ih (j + 1) f _ m1 X2 (by omega) (by omega)
def stF (u : Nat → Int32) : Nat → Nat → Int32
  | 0, _ => -2
  | n + 1, j => if u j = -2 then nI j else stF u n (j + 1)
theorem stX {x0 : MX} {m0 : MM} {T : Nat → Nat → Int32 → Int32 → Int32 → Int32} (K : TK x0 m0 T) {s sz : Nat} (hs : s < 6) (S : ShS x0 m0 s sz) {a b : Nat} (ha : a < 6) (hb : b < 6) : ∀ (n j fuel : Nat) (x : MX), SameX x0 x → j + n = 10 → n < fuel → ∃ x', f_X8_leastStarch_7 fuel (68 + 2 * s) (nI a) (nI b) (nI j) x = some (stF (fun k => rowT m0 T s sz a b (nI k) (gh m0 b)) n j, x') ∧ SameX x0 x' := by
  obtain ⟨g1, g2⟩ := gh_lt K.1 hb
  have e9 : (SA 1).getD 2 0 = 9 := by decide
  intro n
  induction n with
  | zero =>
    intro j f x sx hj hf
    obtain ⟨f, rfl⟩ : ∃ e, f = e + 1 := ⟨f - 1, by omega⟩
    have z : (9 : Int32) < nI j := (nI_lt6 (n := 9) (by decide) (by omega)).mpr (by omega)
    refine ⟨x, ?_, sx⟩
    show B_X8_leastStarch_7 _ _ _ _ _ _ = _
    unfold B_X8_leastStarch_7
    rw [e9, if_pos z]
    rfl
  | succ n ih =>
    intro j f x sx hj hf
    obtain ⟨f, rfl⟩ : ∃ e, f = e + 1 := ⟨f - 1, by omega⟩
    have z : ¬ (9 : Int32) < nI j := fun q => by have := (nI_lt6 (n := 9) (by decide) (by omega)).mp q; omega
    have e1 : xi x 11 b = nI (gh m0 b) := (tk_xnum K.1 sx (w := 4) (k := b) (by decide) hb).trans g2
    obtain ⟨x1, X1, X2⟩ := notSoX K hs S (a := a) (b := b) (g := gh m0 b) ha hb g1 (st := nI j) ⟨by rw [nI_int (by omega)]; omega, by rw [nI_int (by omega)]; omega⟩ sx
    show ∃ x', B_X8_leastStarch_7 _ _ _ _ _ _ = some ((if rowT m0 T s sz a b (nI j) (gh m0 b) = -2 then _ else _), x') ∧ _
    unfold B_X8_leastStarch_7
    rw [e9, if_neg z, if_pos (inb_nI (by omega) (by decide)), ix_nI (by omega), e1, X1, ob2_s, nI_1]
    by_cases q : rowT m0 T s sz a b (nI j) (gh m0 b) = -2
    · rw [if_pos q, if_pos q]
      exact ⟨x1, rfl, X2⟩
    · rw [if_neg q, if_neg q]
      exact ih (j + 1) f x1 X2 (by omega) (by omega)
theorem stM {x0 : MX} {m0 : MM} {T : Nat → Nat → Int32 → Int32 → Int32 → Int32} (K : TK x0 m0 T) {s sz : Nat} (hs : s < 6) (S : ShS x0 m0 s sz) {a b : Nat} (ha : a < 6) (hb : b < 6) : ∀ (n j fuel : Nat) (m : MM), SameM m0 m → j + n = 10 → n < fuel → ∃ m', f_X9_how_64 fuel (nI s) (nI a) (nI b) (nI j) m = some (stF (fun k => rowT m0 T s sz a b (nI k) (gh m0 b)) n j, m') ∧ SameM m0 m' := by
  obtain ⟨g1, g2⟩ := gh_lt K.1 hb
  intro n
  induction n with
  | zero =>
    intro j f m sm hj hf
    obtain ⟨f, rfl⟩ : ∃ e, f = e + 1 := ⟨f - 1, by omega⟩
    have z : (10 : Int32) ≤ nI j := (nI_lec (n := 10) (by decide) (by omega)).mpr (by omega)
    refine ⟨m, ?_, sm⟩
    show B_X9_how_64 _ _ _ _ _ _ = _
    unfold B_X9_how_64
    rw [if_pos z]
    rfl
  | succ n ih =>
    intro j f m sm hj hf
    obtain ⟨f, rfl⟩ : ∃ e, f = e + 1 := ⟨f - 1, by omega⟩
    have z : ¬ (10 : Int32) ≤ nI j := fun q => by have := (nI_lec (n := 10) (by decide) (by omega)).mp q; omega
    have e1 : mi m 85 b = nI (gh m0 b) := (sm.2 _ _ rfl).trans g2
    obtain ⟨m1, X1, X2⟩ := notSoM K hs S (a := a) (b := b) (g := gh m0 b) ha hb g1 (st := nI j) ⟨by rw [nI_int (by omega)]; omega, by rw [nI_int (by omega)]; omega⟩ sm
    show ∃ m', B_X9_how_64 _ _ _ _ _ _ = some ((if rowT m0 T s sz a b (nI j) (gh m0 b) = -2 then _ else _), m') ∧ _
    unfold B_X9_how_64
    rw [if_neg z, if_pos (inb_nI hb (by decide)), ix_nI (by omega), e1, X1, ob2_s, nI_1]
    by_cases q : rowT m0 T s sz a b (nI j) (gh m0 b) = -2
    · rw [if_pos q, if_pos q]
      exact ⟨m1, rfl, X2⟩
    · rw [if_neg q, if_neg q]
      exact ih (j + 1) f m1 X2 (by omega) (by omega)
theorem cmd_how {x : MX} {m : MM} (v w z : Int32) (hR : Rel x m) : ∃ r x' m', f_X8_how v w z x = some (r, x') ∧ f_X9_how v w z m = some (r, m') ∧ Rel x' m' := by
  obtain ⟨nl, nc, ns, nh, h1, h2, h3⟩ := id hR
  obtain ⟨T, K⟩ := tk_ex hR
  have la := h1.2.2.1
  have lb := h1.2.2.2.1
  unfold f_X8_how f_X9_how
  rw [isShelfX, isShelfM, partX]
  by_cases c : 0 ≤ v.toInt ∧ v.toInt < (6 : Nat)
  · rw [decide_eq_true c, if_pos rfl, if_pos rfl]
    obtain ⟨s, hs, rfl⟩ := nI_ex (a := v) (n := 6) c.1 c.2
    rcases pair_eq h1 w with ⟨p1, p2⟩ | ⟨p1, p2, a, b, ha, hb, ea, eb⟩
    · rw [p1, p2]
      exact ⟨-1, x, m, rfl, rfl, hR⟩
    · rw [p1, p2, ob_s, ob_s, if_pos rfl, if_pos rfl, if_pos (inb_nI hs (by decide)), ix_nI (by omega), ea, eb]
      by_cases d : f_X9_isIn z 0 1 = true
      · rw [if_pos d, if_pos d]
        rcases bars_case hR hs with ⟨r, r0, r1, r2⟩ | ⟨r1, r2, sz, S⟩
        · rw [r1, r2, ob_s, ob_s, if_neg r0, if_neg r0]
          exact ⟨r, x, m, rfl, rfl, hR⟩
        · rw [r1, r2, ob_s, if_pos rfl, if_pos rfl]
          by_cases z0 : z = 0
          · rw [if_pos z0, if_pos z0]
            obtain ⟨x', X1, X2⟩ := stX K hs S (a := a) (b := b) (by omega) (by omega) 10 0 LF x (SameX.rf x) (by omega) (by unfold LF; omega)
            obtain ⟨m', M1, M2⟩ := stM K hs S (a := a) (b := b) (by omega) (by omega) 10 0 LF m (SameM.rf m) (by omega) (by unfold LF; omega)
            have e3 : (SA 0).getD 2 0 = nI 0 := by decide
            refine ⟨_, x', m', ?_, M1, hR.same X2 M2⟩
            unfold f_X8_leastStarch
            rw [e3, X1, ob2_s]
          · rw [if_neg z0, if_neg z0]
            obtain ⟨x', X1, X2⟩ := hdX K hs S (a := a) (b := b) (by omega) (by omega) 2 0 LF 0 x (SameX.rf x) (by omega) (by unfold LF; omega)
            obtain ⟨m', M1, M2⟩ := hdM K hs S (a := a) (b := b) (by omega) (by omega) 2 0 LF 0 m (SameM.rf m) (by omega) (by unfold LF; omega)
            refine ⟨_, x', m', ?_, M1, hR.same X2 M2⟩
            unfold f_X8_handsOf
            show ob2 (f_X8_handsOf_6 LF (68 + 2 * s) (nI a) (nI b) 0 (nI 0) x) _ = _
            rw [X1, ob2_s]
      · rw [if_neg d, if_neg d]
        exact ⟨-1, x, m, rfl, rfl, hR⟩
  · rw [decide_eq_false c]
    exact ⟨-1, x, m, rfl, rfl, hR⟩
