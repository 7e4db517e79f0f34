/-! what a link takes, as one pure function of both memories' telling cells -/
def TKX (x0 : MX) (T : Nat → Nat → Int32 → Int32 → Int32 → Int32) : Prop := ∀ (x : MX) (a b : Nat) (s h n : Int32), SameX x0 x → a < 6 → b < 6 → 0 ≤ h.toInt ∧ h.toInt ≤ 10 → 0 ≤ s.toInt ∧ s.toInt ≤ 99 → 0 ≤ n.toInt ∧ n.toInt ≤ 1000 → ∃ x1, f_X8_takesWith (nI a) (nI b) s h n x = some (T a b s h n, x1) ∧ SameT x x1
def TKM (m0 : MM) (T : Nat → Nat → Int32 → Int32 → Int32 → Int32) : Prop := ∀ (m : MM) (a b : Nat) (s h n : Int32), SameM m0 m → a < 6 → b < 6 → 0 ≤ h.toInt ∧ h.toInt ≤ 10 → 0 ≤ s.toInt ∧ s.toInt ≤ 99 → 0 ≤ n.toInt ∧ n.toInt ≤ 1000 → ∃ m1, f_X9_takesSo (nI a) (nI b) h n s m = some (T a b s h n, m1) ∧ SameN m m1
def TKB (T : Nat → Nat → Int32 → Int32 → Int32 → Int32) : Prop := ∀ (a b : Nat) (s h n : Int32), 1 ≤ (T a b s h n).toInt ∧ (T a b s h n).toInt ≤ 999
def TK (x0 : MX) (m0 : MM) (T : Nat → Nat → Int32 → Int32 → Int32 → Int32) : Prop := Rel x0 m0 ∧ TKX x0 T ∧ TKM m0 T ∧ TKB T
def tkv (o : Option (Int32 × MX)) : Int32 := match o with
  | some (t, _) => if 1 ≤ t.toInt ∧ t.toInt ≤ 999 then t else 1
  | none => 1
theorem tkv_in (o : Option (Int32 × MX)) : 1 ≤ (tkv o).toInt ∧ (tkv o).toInt ≤ 999 := by
  unfold tkv
  split
  · split
    · assumption
    · exact ⟨by decide, by decide⟩
  · exact ⟨by decide, by decide⟩
theorem tk_ex {x0 : MX} {m0 : MM} (hR : Rel x0 m0) : ∃ T, TK x0 m0 T := by
  refine ⟨fun a b s h n => tkv (f_X8_takesWith (nI a) (nI b) s h n x0), hR, ?_, ?_, fun a b s h n => tkv_in _⟩
  · intro x a b s h n hx ha hb hh hs hn
    have hR2 := hR.same hx (SameM.rf m0)
    obtain ⟨_, _, _, _, h1, _⟩ := id hR
    obtain ⟨_, _, _, _, h2, _⟩ := id hR2
    obtain ⟨t, x1, m1, E1, E2, E3, E4, E5⟩ := takes_eqT hR2 h2 ha hb hh hs hn
    obtain ⟨t', x1', m1', F1, F2, F3, F4, F5⟩ := takes_eqT hR h1 ha hb hh hs hn
    have e : some (t', m1') = some (t, m1) := F2.symm.trans E2
    have e2 : t' = t := by injection e with e; injection e
    subst e2
    refine ⟨x1, ?_, E3⟩
    show _ = some (tkv (f_X8_takesWith (nI a) (nI b) s h n x0), x1)
    rw [F1, E1]
    unfold tkv
    simp only [if_pos F5]
  · intro m a b s h n hm ha hb hh hs hn
    have hR2 := hR.same (SameX.rf x0) hm
    obtain ⟨_, _, _, _, h2, _⟩ := id hR2
    obtain ⟨t, x1, m1, E1, E2, E3, E4, E5⟩ := takes_eqT hR2 h2 ha hb hh hs hn
    refine ⟨m1, ?_, E4⟩
    show _ = some (tkv (f_X8_takesWith (nI a) (nI b) s h n x0), m1)
    rw [E1, E2]
    unfold tkv
    simp only [if_pos E5]
theorem tk_num {x0 : MX} {m0 : MM} (hR : Rel x0 m0) {w k : Nat} (hw : w < 13) (hk : k < nsz w) : xi x0 (7 + w) k = mnum m0 w k ∧ 0 ≤ (mnum m0 w k).toInt ∧ (mnum m0 w k).toInt ≤ hiN w := by
  obtain ⟨nl, nc, ns, nh, h1, h2, h3⟩ := id hR
  exact h2.1 w k hw hk
theorem tk_xnum {x0 x : MX} {m0 : MM} (hR : Rel x0 m0) (hx : SameX x0 x) {w k : Nat} (hw : w < 13) (hk : k < nsz w) : xi x (7 + w) k = mnum m0 w k := (hx.2.2 _ _ (scrX_num hw k)).trans (tk_num hR hw hk).1
def gh (m0 : MM) (b : Nat) : Nat := (mi m0 85 b).toInt.toNat
theorem gh_lt {x0 : MX} {m0 : MM} (hR : Rel x0 m0) {b : Nat} (hb : b < 6) : gh m0 b < 2 ∧ mi m0 85 b = nI (gh m0 b) := by
  obtain ⟨a1, a2, a3⟩ := tk_num hR (w := 4) (k := b) (by decide) hb
  have a2' : 0 ≤ (mi m0 85 b).toInt := a2
  have a3' : (mi m0 85 b).toInt ≤ 1 := a3
  exact ⟨by unfold gh; omega, nI_of_toInt a2'⟩
theorem tk_sk {x0 : MX} {m0 : MM} (hR : Rel x0 m0) {g : Nat} (hg : g < 2) : 0 ≤ (mi m0 88 g).toInt ∧ (mi m0 88 g).toInt ≤ 9 := (tk_num hR (w := 6) (k := g) (by decide) hg).2
theorem tk_dn {x0 : MX} {m0 : MM} (hR : Rel x0 m0) {g : Nat} (hg : g < 2) : 0 ≤ (mi m0 90 g).toInt ∧ (mi m0 90 g).toInt ≤ 99 := (tk_num hR (w := 8) (k := g) (by decide) hg).2
theorem tk_st {x0 : MX} {m0 : MM} (hR : Rel x0 m0) {b : Nat} (hb : b < 6) : 0 ≤ (mi m0 83 b).toInt ∧ (mi m0 83 b).toInt ≤ 9 := (tk_num hR (w := 2) (k := b) (by decide) hb).2
theorem skillXT {x0 x : MX} {m0 : MM} {T : Nat → Nat → Int32 → Int32 → Int32 → Int32} (K : TK x0 m0 T) (hx : SameX x0 x) {a b : Nat} (ha : a < 6) (hb : b < 6) {h n : Int32} (hh : 0 ≤ h.toInt ∧ h.toInt ≤ 10) (hn : 0 ≤ n.toInt ∧ n.toInt ≤ 1000) : ∃ x1, f_X8_takesBySkill (nI a) (nI b) h n x = some (T a b (mi m0 83 b) h n, x1) ∧ SameT x x1 := by
  have c := tk_st K.1 hb
  obtain ⟨x1, E1, E2⟩ := K.2.1 x a b (mi m0 83 b) h n hx ha hb hh ⟨c.1, by omega⟩ hn
  refine ⟨x1, ?_, E2⟩
  have e : xi x 9 b = mi m0 83 b := tk_xnum K.1 hx (w := 2) (k := b) (by decide) hb
  unfold f_X8_takesBySkill
  rw [if_pos (inb_nI (by omega) (by decide)), ix_nI (by omega), e, E1, ob2_s]
theorem skillX {x0 x : MX} {m0 : MM} {T : Nat → Nat → Int32 → Int32 → Int32 → Int32} (K : TK x0 m0 T) (hx : SameX x0 x) {a b : Nat} (ha : a < 6) (hb : b < 6) {h n : Int32} (hh : 0 ≤ h.toInt ∧ h.toInt ≤ 10) (hn : 0 ≤ n.toInt ∧ n.toInt ≤ 1000) : ∃ x1, f_X8_takesBySkill (nI a) (nI b) h n x = some (T a b (mi m0 83 b) h n, x1) ∧ SameX x0 x1 := by
  obtain ⟨x1, E1, E2⟩ := skillXT K hx ha hb hh hn
  exact ⟨x1, E1, hx.tr E2.toX⟩
theorem takesMN {x0 : MX} {m m0 : MM} {T : Nat → Nat → Int32 → Int32 → Int32 → Int32} (K : TK x0 m0 T) (hm : SameM m0 m) {a b : Nat} (ha : a < 6) (hb : b < 6) {h n : Int32} (hh : 0 ≤ h.toInt ∧ h.toInt ≤ 10) (hn : 0 ≤ n.toInt ∧ n.toInt ≤ 1000) : ∃ m1, f_X9_takes (nI a) (nI b) h n m = some (T a b (mi m0 83 b) h n, m1) ∧ SameN m m1 := by
  have c := tk_st K.1 hb
  obtain ⟨m1, E1, E2⟩ := K.2.2.1 m a b (mi m0 83 b) h n hm ha hb hh ⟨c.1, by omega⟩ hn
  refine ⟨m1, ?_, E2⟩
  have e : mi m 83 b = mi m0 83 b := hm.2 _ _ rfl
  unfold f_X9_takes
  rw [if_pos (inb_nI hb (by decide)), ix_nI (by omega), e, E1, ob2_s]
theorem takesM {x0 : MX} {m m0 : MM} {T : Nat → Nat → Int32 → Int32 → Int32 → Int32} (K : TK x0 m0 T) (hm : SameM m0 m) {a b : Nat} (ha : a < 6) (hb : b < 6) {h n : Int32} (hh : 0 ≤ h.toInt ∧ h.toInt ≤ 10) (hn : 0 ≤ n.toInt ∧ n.toInt ≤ 1000) : ∃ m1, f_X9_takes (nI a) (nI b) h n m = some (T a b (mi m0 83 b) h n, m1) ∧ SameM m0 m1 := by
  obtain ⟨m1, E1, E2⟩ := takesMN K hm ha hb hh hn
  exact ⟨m1, E1, hm.tr E2.toM⟩
theorem handXT {x0 x : MX} {m0 : MM} {T : Nat → Nat → Int32 → Int32 → Int32 → Int32} (K : TK x0 m0 T) (hx : SameX x0 x) {a b g : Nat} (ha : a < 6) (hb : b < 6) (hg : g < 2) {r : Int32} (hr : 0 ≤ r.toInt ∧ r.toInt ≤ 900) : ∃ x1, f_X8_takesByHand (nI a) (nI b) (nI g) r x = some (T a b (mi m0 83 b) (mi m0 88 g) (mi m0 90 g + r), x1) ∧ SameT x x1 := by
  have c := tk_st K.1 hb
  have d := tk_sk K.1 hg
  have f := tk_dn K.1 hg
  have hs : (mi m0 90 g + r).toInt = (mi m0 90 g).toInt + r.toInt := i_add (by omega) (by omega)
  obtain ⟨x1, E1, E2⟩ := K.2.1 x a b (mi m0 83 b) (mi m0 88 g) (mi m0 90 g + r) hx ha hb ⟨d.1, by omega⟩ ⟨c.1, by omega⟩ ⟨by omega, by omega⟩
  refine ⟨x1, ?_, E2⟩
  have e : xi x 9 b = mi m0 83 b := tk_xnum K.1 hx (w := 2) (k := b) (by decide) hb
  have e1 : xi x 13 g = mi m0 88 g := tk_xnum K.1 hx (w := 6) (k := g) (by decide) hg
  have e2 : xi x 15 g = mi m0 90 g := tk_xnum K.1 hx (w := 8) (k := g) (by decide) hg
  unfold f_X8_takesByHand
  rw [if_pos (inb_nI (by omega) (by decide)), if_pos (inb_nI (by omega) (by decide)), ix_nI (by omega), ix_nI (by omega), e, e1, e2, E1, ob2_s]
theorem handX {x0 x : MX} {m0 : MM} {T : Nat → Nat → Int32 → Int32 → Int32 → Int32} (K : TK x0 m0 T) (hx : SameX x0 x) {a b g : Nat} (ha : a < 6) (hb : b < 6) (hg : g < 2) {r : Int32} (hr : 0 ≤ r.toInt ∧ r.toInt ≤ 900) : ∃ x1, f_X8_takesByHand (nI a) (nI b) (nI g) r x = some (T a b (mi m0 83 b) (mi m0 88 g) (mi m0 90 g + r), x1) ∧ SameX x0 x1 := by
  obtain ⟨x1, E1, E2⟩ := handXT K hx ha hb hg hr
  exact ⟨x1, E1, hx.tr E2.toX⟩
def nowT (m0 : MM) (T : Nat → Nat → Int32 → Int32 → Int32 → Int32) (a b : Nat) : Int32 := T a b (mi m0 83 b) (mi m0 88 (gh m0 b)) (mi m0 90 (gh m0 b))
theorem nowXT {x0 x : MX} {m0 : MM} {T : Nat → Nat → Int32 → Int32 → Int32 → Int32} (K : TK x0 m0 T) (hx : SameX x0 x) {a b : Nat} (ha : a < 6) (hb : b < 6) : ∃ x1, f_X8_takesNow (nI a) (nI b) x = some (nowT m0 T a b, x1) ∧ SameT x x1 := by
  obtain ⟨g1, g2⟩ := gh_lt K.1 hb
  obtain ⟨x1, E1, E2⟩ := handXT K hx ha hb g1 (r := 0) ⟨by decide, by decide⟩
  refine ⟨x1, ?_, E2⟩
  have e : xi x 11 b = mi m0 85 b := tk_xnum K.1 hx (w := 4) (k := b) (by decide) hb
  rw [Int32.add_zero] at E1
  unfold f_X8_takesNow
  rw [if_pos (inb_nI (by omega) (by decide)), ix_nI (by omega), e, g2, E1, ob2_s]
  rfl
theorem nowX {x0 x : MX} {m0 : MM} {T : Nat → Nat → Int32 → Int32 → Int32 → Int32} (K : TK x0 m0 T) (hx : SameX x0 x) {a b : Nat} (ha : a < 6) (hb : b < 6) : ∃ x1, f_X8_takesNow (nI a) (nI b) x = some (nowT m0 T a b, x1) ∧ SameX x0 x1 := by
  obtain ⟨x1, E1, E2⟩ := nowXT K hx ha hb
  exact ⟨x1, E1, hx.tr E2.toX⟩
theorem nowMN {x0 : MX} {m m0 : MM} {T : Nat → Nat → Int32 → Int32 → Int32 → Int32} (K : TK x0 m0 T) (hm : SameM m0 m) {a b : Nat} (ha : a < 6) (hb : b < 6) : ∃ m1, f_X9_takesNow (nI a) (nI b) m = some (nowT m0 T a b, m1) ∧ SameN m m1 := by
  obtain ⟨g1, g2⟩ := gh_lt K.1 hb
  have d := tk_sk K.1 g1
  have f := tk_dn K.1 g1
  obtain ⟨m1, E1, E2⟩ := takesMN K hm ha hb (h := mi m0 88 (gh m0 b)) (n := mi m0 90 (gh m0 b)) ⟨d.1, by omega⟩ ⟨f.1, by omega⟩
  refine ⟨m1, ?_, E2⟩
  have e : mi m 85 b = mi m0 85 b := hm.2 _ _ rfl
  have e1 : ∀ k, mi m 88 k = mi m0 88 k := fun k => hm.2 _ _ rfl
  have e2 : ∀ k, mi m 90 k = mi m0 90 k := fun k => hm.2 _ _ rfl
  unfold f_X9_takesNow
  rw [if_pos (inb_nI hb (by decide)), ix_nI (by omega), e, g2, if_pos (inb_nI g1 (by decide)), ix_nI (by omega), e1, e2, E1, ob2_s]
  rfl
theorem nowM {x0 : MX} {m m0 : MM} {T : Nat → Nat → Int32 → Int32 → Int32 → Int32} (K : TK x0 m0 T) (hm : SameM m0 m) {a b : Nat} (ha : a < 6) (hb : b < 6) : ∃ m1, f_X9_takesNow (nI a) (nI b) m = some (nowT m0 T a b, m1) ∧ SameM m0 m1 := by
  obtain ⟨m1, E1, E2⟩ := nowMN K hm ha hb
  exact ⟨m1, E1, hm.tr E2.toM⟩
theorem nowT_in {x0 : MX} {m0 : MM} {T : Nat → Nat → Int32 → Int32 → Int32 → Int32} (K : TK x0 m0 T) (a b : Nat) : 1 ≤ (nowT m0 T a b).toInt ∧ (nowT m0 T a b).toInt ≤ 999 := K.2.2.2 _ _ _ _ _
theorem cntX {nl nc ns : Nat} {x0 x : MX} {m0 : MM} (h1 : RCnt nl nc ns x0 m0) (hx : SameX x0 x) : xi x 5 12 = nI nl ∧ xi x 5 13 = nI nc ∧ xi x 5 14 = nI ns := ⟨(hx.2.2 _ _ rfl).trans h1.1.1, (hx.2.2 _ _ rfl).trans h1.1.2.1, (hx.2.2 _ _ rfl).trans h1.1.2.2⟩
theorem cntM {nl nc ns : Nat} {x0 : MX} {m m0 : MM} (h1 : RCnt nl nc ns x0 m0) (hm : SameM m0 m) : mi m 80 0 = nI nl ∧ mi m 80 1 = nI nc ∧ mi m 80 2 = nI ns := ⟨(hm.2 _ _ rfl).trans h1.2.1.1, (hm.2 _ _ rfl).trans h1.2.1.2.1, (hm.2 _ _ rfl).trans h1.2.1.2.2⟩
theorem partX {a : Int32} : f_X8_isPart a = f_X9_isIn a 0 1 := by
  have e0 : (0 : Int32).toInt = 0 := by decide
  have e1 : (1 : Int32).toInt = 1 := by decide
  rw [isIn_eq]
  unfold f_X8_isPart
  by_cases h : a = 0
  · subst h; decide
  · by_cases h2 : a = 1
    · subst h2; decide
    · rw [if_neg h, if_neg h2, eq_comm, decide_eq_false_iff_not]
      rw [i_eq, e0] at h
      rw [i_eq, e1] at h2
      rw [e0, e1]
      omega
