/-! THE LAW's text: T its bytes, L how many -/
def chr (T : Nat → Int32) (L p : Nat) : Int32 := if p < L then T p else -1
def XS (T : Nat → Int32) (L h : Nat) (x : MX) (pos sz : Nat) : Prop := xi x h 6 = nI pos ∧ xi x h 4 = nI sz ∧ xi x h 8 = nI L ∧ ∀ k, k < L → xi x (h + 5) k = T k
def FrX (h sz : Nat) (x x' : MX) : Prop := x'.1 = x.1 ∧ x'.2.2 = x.2.2 ∧ ∀ a b, ¬ (a = h ∧ (b = 4 ∨ b = 6)) → ¬ ((a = h + 1 ∨ a = h + 2) ∧ sz ≤ b) → xi x' a b = xi x a b
theorem FrX.rf (h sz : Nat) (x : MX) : FrX h sz x x := ⟨rfl, rfl, fun _ _ _ _ => rfl⟩
theorem FrX.tr {h sz sz' : Nat} {x y z : MX} (a : FrX h sz x y) (b : FrX h sz' y z) (e : sz ≤ sz') : FrX h sz x z := ⟨b.1.trans a.1, b.2.1.trans a.2.1, fun p q e1 e2 => (b.2.2 p q e1 (fun w => e2 ⟨w.1, by omega⟩)).trans (a.2.2 p q e1 e2)⟩
theorem FrX.xs {T : Nat → Int32} {L h sz pos sz0 pos' sz' : Nat} {x x' : MX} (f : FrX h sz x x') (s : XS T L h x pos sz0) (h6 : xi x' h 6 = nI pos') (h4 : xi x' h 4 = nI sz') : XS T L h x' pos' sz' :=
  ⟨h6, h4, (f.2.2 _ _ (by omega) (by omega)).trans s.2.2.1, fun k hk => (f.2.2 _ _ (by omega) (by omega)).trans (s.2.2.2 k hk)⟩
def CodeAt (x : MX) (h a : Nat) (c : List (Int32 × Int32)) : Prop := ∀ i q, c[i]? = some q → xi x (h + 1) (a + i) = q.1 ∧ xi x (h + 2) (a + i) = q.2
theorem CodeAt.nil (x : MX) (h a : Nat) : CodeAt x h a [] := fun i q e => by simp at e
theorem CodeAt.app {x : MX} {h a : Nat} {c d : List (Int32 × Int32)} : CodeAt x h a (c ++ d) ↔ CodeAt x h a c ∧ CodeAt x h (a + c.length) d := by
  constructor
  · intro H
    refine ⟨fun i q e => H i q ?_, fun i q e => ?_⟩
    · have hi : i < c.length := (List.getElem?_eq_some_iff.mp e).1
      rw [List.getElem?_append_left hi, e]
    · have w := H (c.length + i) q (by rw [List.getElem?_append_right (by omega), Nat.add_sub_cancel_left, e])
      rw [← Nat.add_assoc] at w
      exact w
  · intro ⟨H1, H2⟩ i q e
    by_cases hi : i < c.length
    · rw [List.getElem?_append_left hi] at e
      exact H1 i q e
    · rw [List.getElem?_append_right (by omega)] at e
      have w := H2 (i - c.length) q e
      rw [show a + c.length + (i - c.length) = a + i by omega] at w
      exact w
theorem CodeAt.one {x : MX} {h a : Nat} {q : Int32 × Int32} : CodeAt x h a [q] ↔ xi x (h + 1) a = q.1 ∧ xi x (h + 2) a = q.2 := by
  constructor
  · intro H
    exact H 0 q rfl
  · intro H i p e
    match i with
    | 0 =>
      have : q = p := by injection e
      subst this
      exact H
    | i + 1 => simp at e
theorem CodeAt.cg {x y : MX} {h a : Nat} {c : List (Int32 × Int32)} (H : CodeAt x h a c) (e : ∀ b, a ≤ b → b < a + c.length → xi y (h + 1) b = xi x (h + 1) b ∧ xi y (h + 2) b = xi x (h + 2) b) : CodeAt y h a c := by
  intro i q hq
  have hi : i < c.length := (List.getElem?_eq_some_iff.mp hq).1
  obtain ⟨e1, e2⟩ := e (a + i) (by omega) (by omega)
  rw [e1, e2]
  exact H i q hq
theorem FrX.code {h sz a : Nat} {x x' : MX} {c : List (Int32 × Int32)} (f : FrX h sz x x') (H : CodeAt x h a c) (e : a + c.length ≤ sz) : CodeAt x' h a c :=
  H.cg (fun b _ hb => ⟨f.2.2 _ _ (by omega) (by omega), f.2.2 _ _ (by omega) (by omega)⟩)
theorem hereX {T : Nat → Int32} {L h : Nat} {x : MX} {pos sz : Nat} (s : XS T L h x pos sz) (hL : L ≤ 120) (hp : pos ≤ L) : f_X3_here h x = some (chr T L pos) := by
  obtain ⟨s1, s2, s3, s4⟩ := s
  have z0 : ¬ nI pos < 0 := fun y => by have := (nI_lt6 (c := 0) (by omega) (by decide)).mp y; omega
  unfold f_X3_here chr
  rw [s1, s3, if_neg z0]
  by_cases c : pos < L
  · have z1 : ¬ nI L ≤ nI pos := fun q => by have := (nI_lec (by omega) (by omega)).mp q; omega
    have z2 : ¬ (120 : Int32) ≤ nI pos := fun q => by have := (nI_lec (n := 120) (by decide) (by omega)).mp q; omega
    rw [if_neg z1, if_neg z2, if_pos (inb_nI (by omega) (by decide)), ix_nI (by omega), s4 pos c, if_pos c]
  · rw [if_pos ((nI_lec (by omega) (by omega)).mpr (by omega)), if_neg c]
/-- the place moves on by one -/
def goX (h pos : Nat) (x : MX) : MX := xs x h 6 (nI (pos + 1))
theorem goX_eq {T : Nat → Int32} {L h : Nat} {x : MX} {pos sz : Nat} (s : XS T L h x pos sz) : xs x h 6 (xi x h 6 + 1) = goX h pos x := by
  unfold goX
  rw [s.1, nI_1]
theorem goX_fr {h pos sz : Nat} {x : MX} : FrX h sz x (goX h pos x) := ⟨rfl, rfl, fun a b e1 e2 => by unfold goX; rw [xi_xs, if_neg (by omega)]⟩
theorem goX_xs {T : Nat → Int32} {L h : Nat} {x : MX} {pos sz : Nat} (s : XS T L h x pos sz) : XS T L h (goX h pos x) (pos + 1) sz := by
  refine goX_fr.xs (sz := 0) s ?_ ?_
  · unfold goX; rw [xi_xs, if_pos ⟨rfl, rfl⟩]
  · unfold goX; rw [xi_xs, if_neg (by omega)]; exact s.2.1
/-- a step is added -/
def adX (h sz : Nat) (a b : Int32) (x : MX) : MX := xs (xs (xs x (h + 1) sz a) (h + 2) sz b) h 4 (nI (sz + 1))
theorem adX_eq {h sz : Nat} {x : MX} (s : xi x h 4 = nI sz) (hs : sz < 121) (a b : Int32) : f_X3_add h a b x = some (adX h sz a b x) := by
  have e1 : xi (xs x (h + 1) sz a) h 4 = nI sz := by rw [xi_xs, if_neg (by omega), s]
  have e2 : xi (xs (xs x (h + 1) sz a) (h + 2) sz b) h 4 = nI sz := by rw [xi_xs, if_neg (by omega), e1]
  have lt : nI sz < 121 := (nI_lt6 (c := 121) (by omega) (by decide)).mpr hs
  unfold f_X3_add adX
  rw [s, if_pos lt, if_pos (inb_nI (by omega) (by decide)), ix_nI (by omega), letx_s, e1, if_pos (inb_nI (by omega) (by decide)), ix_nI (by omega), letx_s, e2, letx_s, nI_1]
theorem adX_fr {h sz : Nat} {a b : Int32} {x : MX} : FrX h sz x (adX h sz a b x) := by
  refine ⟨rfl, rfl, fun p q e1 e2 => ?_⟩
  unfold adX
  rw [xi_xs, if_neg (by omega), xi_xs, if_neg (by omega), xi_xs, if_neg (by omega)]
theorem adX_xs {T : Nat → Int32} {L h : Nat} {x : MX} {pos sz : Nat} (s : XS T L h x pos sz) (a b : Int32) : XS T L h (adX h sz a b x) pos (sz + 1) := by
  refine adX_fr.xs s ?_ ?_
  · unfold adX
    rw [xi_xs, if_neg (by omega), xi_xs, if_neg (by omega), xi_xs, if_neg (by omega)]
    exact s.1
  · unfold adX
    rw [xi_xs, if_pos ⟨rfl, rfl⟩]
theorem adX_code {h sz : Nat} {a b : Int32} {x : MX} : CodeAt (adX h sz a b x) h sz [(a, b)] := by
  rw [CodeAt.one]
  unfold adX
  constructor
  · rw [xi_xs, if_neg (by omega), xi_xs, if_neg (by omega), xi_xs, if_pos ⟨rfl, rfl⟩]
  · rw [xi_xs, if_neg (by omega), xi_xs, if_pos ⟨rfl, rfl⟩]
/-! the reference reads -/
def MS (T : Nat → Int32) (L : Nat) (m : MM) (pos o : Nat) : Prop := mi m 80 30 = nI pos ∧ mi m 80 31 = nI o ∧ mi m 80 32 = 1 ∧ mi m 80 5 = nI L ∧ ∀ k, k < L → mi m 93 k = T k
def FrM (m m' : MM) : Prop := (∀ h k, ml m' h k = ml m h k) ∧ ∀ h k, ¬ (h = 80 ∧ (k = 30 ∨ k = 31 ∨ k = 32)) → mi m' h k = mi m h k
theorem FrM.rf (m : MM) : FrM m m := ⟨fun _ _ => rfl, fun _ _ _ => rfl⟩
theorem FrM.tr {m m1 m2 : MM} (a : FrM m m1) (b : FrM m1 m2) : FrM m m2 := ⟨fun h k => (b.1 h k).trans (a.1 h k), fun h k e => (b.2 h k e).trans (a.2 h k e)⟩
theorem FrM.st {T : Nat → Int32} {L pos o pos' o' : Nat} {m m' : MM} (f : FrM m m') (s : MS T L m pos o) (h1 : mi m' 80 30 = nI pos') (h2 : mi m' 80 31 = nI o') (h3 : mi m' 80 32 = 1) : MS T L m' pos' o' :=
  ⟨h1, h2, h3, (f.2 _ _ (by omega)).trans s.2.2.2.1, fun k hk => (f.2 _ _ (by omega)).trans (s.2.2.2.2 k hk)⟩
theorem nextM_eq {T : Nat → Int32} {L pos o : Nat} {m : MM} (s : MS T L m pos o) (hL : L ≤ 120) (hp : pos ≤ L) : f_X9_next m = some (chr T L pos) := by
  obtain ⟨s1, s2, s3, s4, s5⟩ := s
  unfold f_X9_next chr
  rw [s1, s4]
  by_cases c : pos < L
  · have z1 : ¬ nI L ≤ nI pos := fun q => by have := (nI_lec (by omega) (by omega)).mp q; omega
    rw [if_neg z1, if_pos (inb_nI (by omega) (by decide)), ix_nI (by omega), s5 pos c, if_pos c]
  · rw [if_pos ((nI_lec (by omega) (by omega)).mpr (by omega)), if_neg c]
def goM (pos : Nat) (m : MM) : MM := ms m 80 30 (nI (pos + 1))
theorem goM_fr {pos : Nat} {m : MM} : FrM m (goM pos m) := ⟨fun _ _ => rfl, fun h k e => by unfold goM; rw [mi_ms, if_neg (by omega)]⟩
theorem goM_st {T : Nat → Int32} {L pos o : Nat} {m : MM} (s : MS T L m pos o) : MS T L (goM pos m) (pos + 1) o := by
  refine goM_fr.st s ?_ ?_ ?_
  · unfold goM; rw [mi_ms, if_pos ⟨rfl, rfl⟩]
  · unfold goM; rw [mi_ms, if_neg (by omega)]; exact s.2.1
  · unfold goM; rw [mi_ms, if_neg (by omega)]; exact s.2.2.1
theorem isNext_eq {T : Nat → Int32} {L pos o : Nat} {m : MM} (s : MS T L m pos o) (hL : L ≤ 120) (hp : pos ≤ L) (c : Int32) : f_X9_isNext c m = if chr T L pos = c then some (true, goM pos m) else some (false, m) := by
  have e : ¬ mi m 80 32 = 0 := by rw [s.2.2.1]; decide
  unfold f_X9_isNext goM
  rw [if_neg e, nextM_eq s hL hp, ob_s, letx_s, s.1, nI_1]
theorem isNext_no {m : MM} (h : mi m 80 32 = 0) (c : Int32) : f_X9_isNext c m = some (false, m) := by
  unfold f_X9_isNext
  rw [if_pos h]
/-! the reference works out -/
def NMm (m : MM) (nm : Nat → Int32) : Prop := mi m 99 104 = nm 0 ∧ mi m 99 108 = nm 1 ∧ mi m 99 111 = nm 2 ∧ mi m 99 115 = nm 3 ∧ mi m 99 110 = nm 4 ∧ mi m 99 99 = nm 5
def ES (T : Nat → Int32) (L : Nat) (m : MM) (pos : Nat) (nm : Nat → Int32) : Prop := mi m 80 30 = nI pos ∧ mi m 80 6 = nI L ∧ (∀ k, k < L → mi m 94 k = T k) ∧ NMm m nm
def FrE (m m' : MM) : Prop := (∀ h k, ml m' h k = ml m h k) ∧ ∀ h k, ¬ (h = 80 ∧ k = 30) → mi m' h k = mi m h k
theorem FrE.rf (m : MM) : FrE m m := ⟨fun _ _ => rfl, fun _ _ _ => rfl⟩
theorem FrE.tr {m m1 m2 : MM} (a : FrE m m1) (b : FrE m1 m2) : FrE m m2 := ⟨fun h k => (b.1 h k).trans (a.1 h k), fun h k e => (b.2 h k e).trans (a.2 h k e)⟩
theorem FrE.st {T : Nat → Int32} {L pos pos' : Nat} {nm : Nat → Int32} {m m' : MM} (f : FrE m m') (s : ES T L m pos nm) (h1 : mi m' 80 30 = nI pos') : ES T L m' pos' nm := by
  obtain ⟨s1, s2, s3, n1, n2, n3, n4, n5, n6⟩ := s
  refine ⟨h1, (f.2 _ _ (by omega)).trans s2, fun k hk => (f.2 _ _ (by omega)).trans (s3 k hk), ?_⟩
  exact ⟨(f.2 _ _ (by omega)).trans n1, (f.2 _ _ (by omega)).trans n2, (f.2 _ _ (by omega)).trans n3, (f.2 _ _ (by omega)).trans n4, (f.2 _ _ (by omega)).trans n5, (f.2 _ _ (by omega)).trans n6⟩
theorem seen_eq {T : Nat → Int32} {L pos : Nat} {nm : Nat → Int32} {m : MM} (s : ES T L m pos nm) (hL : L ≤ 120) (hp : pos ≤ L) : f_X9_seen m = some (chr T L pos) := by
  obtain ⟨s1, s2, s3, s4⟩ := s
  unfold f_X9_seen chr
  rw [s1, s2]
  by_cases c : pos < L
  · have z1 : ¬ nI L ≤ nI pos := fun q => by have := (nI_lec (by omega) (by omega)).mp q; omega
    rw [if_neg z1, if_pos (inb_nI (by omega) (by decide)), ix_nI (by omega), s3 pos c, if_pos c]
  · rw [if_pos ((nI_lec (by omega) (by omega)).mpr (by omega)), if_neg c]
theorem goM_fe {pos : Nat} {m : MM} : FrE m (goM pos m) := ⟨fun _ _ => rfl, fun h k e => by unfold goM; rw [mi_ms, if_neg (by omega)]⟩
theorem goM_es {T : Nat → Int32} {L pos : Nat} {nm : Nat → Int32} {m : MM} (s : ES T L m pos nm) : ES T L (goM pos m) (pos + 1) nm :=
  goM_fe.st s (by unfold goM; rw [mi_ms, if_pos ⟨rfl, rfl⟩])
theorem isSeen_eq {T : Nat → Int32} {L pos : Nat} {nm : Nat → Int32} {m : MM} (s : ES T L m pos nm) (hL : L ≤ 120) (hp : pos ≤ L) (c : Int32) : f_X9_isSeen c m = if chr T L pos = c then some (true, goM pos m) else some (false, m) := by
  unfold f_X9_isSeen goM
  rw [seen_eq s hL hp, ob_s, letx_s, s.1, nI_1]
/-! signs -/
def jn (s a b : Int32) : Int32 := (f_X3_joined s a b).getD 0
theorem jn_eq (s a b : Int32) : f_X3_joined s a b = some (jn s a b) := by
  have h : ∃ v, f_X3_joined s a b = some v := by
    unfold f_X3_joined
    by_cases z : b = 0
    · simp only [if_pos z]
      repeat' split
      all_goals exact ⟨_, rfl⟩
    · simp only [if_neg z, if_pos z]
      repeat' split
      all_goals exact ⟨_, rfl⟩
  obtain ⟨v, hv⟩ := h
  unfold jn
  rw [hv]
  rfl
theorem lev_4 (c : Int32) : f_X3_levelOf c = 4 ↔ c = 42 ∨ c = 47 ∨ c = 37 := by
  unfold f_X3_levelOf
  by_cases h1 : c = 37
  · subst h1; decide
  by_cases h2 : c = 38
  · subst h2; decide
  by_cases h3 : c = 42
  · subst h3; decide
  by_cases h4 : c = 43
  · subst h4; decide
  by_cases h5 : c = 45
  · subst h5; decide
  by_cases h6 : c = 47
  · subst h6; decide
  by_cases h7 : c = 60
  · subst h7; decide
  by_cases h8 : c = 61
  · subst h8; decide
  by_cases h9 : c = 62
  · subst h9; decide
  by_cases h10 : c = 124
  · subst h10; decide
  rw [if_neg h1, if_neg h2, if_neg h3, if_neg h4, if_neg h5, if_neg h6, if_neg h7, if_neg h8, if_neg h9, if_neg h10]
  simp [h1, h3, h6]
theorem lev_3 (c : Int32) : f_X3_levelOf c = 3 ↔ c = 43 ∨ c = 45 := by
  unfold f_X3_levelOf
  by_cases h1 : c = 37
  · subst h1; decide
  by_cases h2 : c = 38
  · subst h2; decide
  by_cases h3 : c = 42
  · subst h3; decide
  by_cases h4 : c = 43
  · subst h4; decide
  by_cases h5 : c = 45
  · subst h5; decide
  by_cases h6 : c = 47
  · subst h6; decide
  by_cases h7 : c = 60
  · subst h7; decide
  by_cases h8 : c = 61
  · subst h8; decide
  by_cases h9 : c = 62
  · subst h9; decide
  by_cases h10 : c = 124
  · subst h10; decide
  rw [if_neg h1, if_neg h2, if_neg h3, if_neg h4, if_neg h5, if_neg h6, if_neg h7, if_neg h8, if_neg h9, if_neg h10]
  simp [h4, h5]
theorem lev_2 (c : Int32) : f_X3_levelOf c = 2 ↔ c = 60 ∨ c = 61 ∨ c = 62 := by
  unfold f_X3_levelOf
  by_cases h1 : c = 37
  · subst h1; decide
  by_cases h2 : c = 38
  · subst h2; decide
  by_cases h3 : c = 42
  · subst h3; decide
  by_cases h4 : c = 43
  · subst h4; decide
  by_cases h5 : c = 45
  · subst h5; decide
  by_cases h6 : c = 47
  · subst h6; decide
  by_cases h7 : c = 60
  · subst h7; decide
  by_cases h8 : c = 61
  · subst h8; decide
  by_cases h9 : c = 62
  · subst h9; decide
  by_cases h10 : c = 124
  · subst h10; decide
  rw [if_neg h1, if_neg h2, if_neg h3, if_neg h4, if_neg h5, if_neg h6, if_neg h7, if_neg h8, if_neg h9, if_neg h10]
  simp [h7, h8, h9]
theorem lev_1 (c : Int32) : f_X3_levelOf c = 1 ↔ c = 38 := by
  unfold f_X3_levelOf
  by_cases h1 : c = 37
  · subst h1; decide
  by_cases h2 : c = 38
  · subst h2; decide
  by_cases h3 : c = 42
  · subst h3; decide
  by_cases h4 : c = 43
  · subst h4; decide
  by_cases h5 : c = 45
  · subst h5; decide
  by_cases h6 : c = 47
  · subst h6; decide
  by_cases h7 : c = 60
  · subst h7; decide
  by_cases h8 : c = 61
  · subst h8; decide
  by_cases h9 : c = 62
  · subst h9; decide
  by_cases h10 : c = 124
  · subst h10; decide
  rw [if_neg h1, if_neg h2, if_neg h3, if_neg h4, if_neg h5, if_neg h6, if_neg h7, if_neg h8, if_neg h9, if_neg h10]
  simp [h2]
theorem lev_0 (c : Int32) : f_X3_levelOf c = 0 ↔ c = 124 := by
  unfold f_X3_levelOf
  by_cases h1 : c = 37
  · subst h1; decide
  by_cases h2 : c = 38
  · subst h2; decide
  by_cases h3 : c = 42
  · subst h3; decide
  by_cases h4 : c = 43
  · subst h4; decide
  by_cases h5 : c = 45
  · subst h5; decide
  by_cases h6 : c = 47
  · subst h6; decide
  by_cases h7 : c = 60
  · subst h7; decide
  by_cases h8 : c = 61
  · subst h8; decide
  by_cases h9 : c = 62
  · subst h9; decide
  by_cases h10 : c = 124
  · subst h10; decide
  rw [if_neg h1, if_neg h2, if_neg h3, if_neg h4, if_neg h5, if_neg h6, if_neg h7, if_neg h8, if_neg h9, if_neg h10]
  simp [h10]
theorem chr_lt {T : Nat → Int32} {L p : Nat} (h : ¬ chr T L p = -1) : p < L := by
  by_cases c : p < L
  · exact c
  · exact absurd (if_neg c) h
theorem lev_lt {T : Nat → Int32} {L p l : Nat} (hl : l < 5) (h : f_X3_levelOf (chr T L p) = nI l) : p < L := by
  refine chr_lt (T := T) (fun e => ?_)
  rw [e] at h
  match l, hl with
  | 0, _ | 1, _ | 2, _ | 3, _ | 4, _ => revert h; decide
