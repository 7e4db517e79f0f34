def dgN (T : Nat → Int32) (L : Nat) : Nat → Nat → Nat
  | 0, _ => 0
  | k + 1, p => if f_X3_isDigit (chr T L p) = true then dgN T L k (p + 1) + 1 else 0
def nvN (T : Nat → Int32) (L : Nat) : Nat → Nat → Int32 → Int32
  | 0, _, v => v
  | k + 1, p, v => if f_X3_isDigit (chr T L p) = true then nvN T L k (p + 1) (((10 * v) + chr T L p) - 48) else v
theorem dg_lt {T : Nat → Int32} {L p : Nat} (h : f_X3_isDigit (chr T L p) = true) : p < L := by
  refine chr_lt (T := T) (fun e => ?_)
  rw [e] at h
  revert h
  decide
theorem dgN_le {T : Nat → Int32} {L : Nat} : ∀ (k p : Nat), p ≤ L → p + dgN T L k p ≤ L := by
  intro k
  induction k with
  | zero => intro p hp; exact hp
  | succ k ih =>
    intro p hp
    show p + (if f_X3_isDigit (chr T L p) = true then dgN T L k (p + 1) + 1 else 0) ≤ L
    by_cases c : f_X3_isDigit (chr T L p) = true
    · rw [if_pos c]
      have := ih (p + 1) (by have := dg_lt c; omega)
      omega
    · rw [if_neg c]; omega
theorem numX {T : Nat → Int32} {L h sz : Nat} (hL : L ≤ 120) : ∀ (k p f : Nat) (v : Int32) (x : MX), k ≤ 4 → p ≤ L → k < f → XS T L h x p sz → ∃ x', f_X3_readsNumber_4 f h v (nI (4 - k)) x = B_X3_readsNumber_48 h (nvN T L k p v) x' ∧ FrX h sz x x' ∧ XS T L h x' (p + dgN T L k p) sz := by
  intro k
  induction k with
  | zero =>
    intro p f v x hk hp hf s
    obtain ⟨f, rfl⟩ : ∃ e, f = e + 1 := ⟨f - 1, by omega⟩
    refine ⟨x, ?_, FrX.rf _ _ _, s⟩
    show B_X3_readsNumber_4 _ _ _ _ _ = _
    unfold B_X3_readsNumber_4
    rw [if_pos (show (4 : Int32) ≤ nI (4 - 0) by decide)]
    rfl
  | succ k ih =>
    intro p f v x hk hp hf s
    obtain ⟨f, rfl⟩ : ∃ e, f = e + 1 := ⟨f - 1, by omega⟩
    have z : ¬ (4 : Int32) ≤ nI (4 - (k + 1)) := fun q => by have := (nI_lec (n := 4) (by decide) (by omega)).mp q; omega
    show ∃ x', B_X3_readsNumber_4 _ _ _ _ _ = B_X3_readsNumber_48 h (if f_X3_isDigit (chr T L p) = true then nvN T L k (p + 1) (((10 * v) + chr T L p) - 48) else v) x' ∧ FrX h sz x x' ∧ XS T L h x' (p + (if f_X3_isDigit (chr T L p) = true then dgN T L k (p + 1) + 1 else 0)) sz
    unfold B_X3_readsNumber_4
    rw [if_neg z, hereX s hL hp, ob_s]
    by_cases c : f_X3_isDigit (chr T L p) = true
    · have hpL := dg_lt c
      obtain ⟨x', r1, r2, r3⟩ := ih (p + 1) f (((10 * v) + chr T L p) - 48) (goX h p x) (by omega) (by omega) (by omega) (goX_xs s)
      rw [if_pos c, if_pos c, if_pos c, ob_s, goX_eq s, letx_s, nI_1]
      refine ⟨x', ?_, (goX_fr (sz := sz)).tr r2 (Nat.le_refl _), ?_⟩
      · rw [← r1]
        congr 2
        omega
      · rw [show p + (dgN T L k (p + 1) + 1) = p + 1 + dgN T L k (p + 1) by omega]
        exact r3
    · rw [if_neg c, if_neg c, if_neg c]
      exact ⟨x, rfl, FrX.rf _ _ _, s⟩
theorem isDig_eq (c : Int32) : f_X9_isDigit c = f_X3_isDigit c := rfl
theorem numM {T : Nat → Int32} {L o : Nat} (hL : L ≤ 120) {s1 s2 s3 s4 s5 s6 : MM → Option MM} : ∀ (k p f : Nat) (m : MM), k ≤ 4 → p ≤ L → k < f → MS T L m p o → ∃ m', f_X9_readsO_23 s1 s2 s3 s4 s5 s6 f (nI (4 - k)) m = some m' ∧ FrM m m' ∧ MS T L m' (p + dgN T L k p) o := by
  intro k
  induction k with
  | zero =>
    intro p f m hk hp hf s
    obtain ⟨f, rfl⟩ : ∃ e, f = e + 1 := ⟨f - 1, by omega⟩
    refine ⟨m, ?_, FrM.rf _, s⟩
    show B_X9_readsO_23 s1 s2 s3 s4 s5 s6 _ _ _ = _
    unfold B_X9_readsO_23
    rw [if_pos (show (4 : Int32) ≤ nI (4 - 0) by decide)]
  | succ k ih =>
    intro p f m hk hp hf s
    obtain ⟨f, rfl⟩ : ∃ e, f = e + 1 := ⟨f - 1, by omega⟩
    have z : ¬ (4 : Int32) ≤ nI (4 - (k + 1)) := fun q => by have := (nI_lec (n := 4) (by decide) (by omega)).mp q; omega
    show ∃ m', B_X9_readsO_23 s1 s2 s3 s4 s5 s6 _ _ _ = some m' ∧ FrM m m' ∧ MS T L m' (p + (if f_X3_isDigit (chr T L p) = true then dgN T L k (p + 1) + 1 else 0)) o
    unfold B_X9_readsO_23
    rw [if_neg z, nextM_eq s hL hp, ob_s, isDig_eq]
    by_cases c : f_X3_isDigit (chr T L p) = true
    · have hpL := dg_lt c
      obtain ⟨m', r1, r2, r3⟩ := ih (p + 1) f (goM p m) (by omega) (by omega) (by omega) (goM_st s)
      have eg : ms m 80 30 (mi m 80 30 + 1) = goM p m := by unfold goM; rw [s.1, nI_1]
      rw [if_pos c, if_pos c, eg, letx_s, nI_1]
      refine ⟨m', ?_, goM_fr.tr r2, ?_⟩
      · rw [← r1]
        congr 2
        omega
      · rw [show p + (dgN T L k (p + 1) + 1) = p + 1 + dgN T L k (p + 1) by omega]
        exact r3
    · rw [if_neg c, if_neg c]
      exact ⟨m, rfl, FrM.rf _, s⟩
theorem numE {T : Nat → Int32} {L : Nat} {nm : Nat → Int32} (hL : L ≤ 120) {s1 s2 s3 s4 s5 s6 : MM → Option (Int32 × MM)} : ∀ (k p f : Nat) (v : Int32) (m : MM), p ≤ L → k < f → ES T L m p nm → f_X3_isDigit (chr T L (p + dgN T L k p)) = false → ∃ m', f_X9_takesO_20 s1 s2 s3 s4 s5 s6 f v m = some (nvN T L k p v, m') ∧ FrE m m' ∧ mi m' 80 30 = nI (p + dgN T L k p) := by
  intro k
  induction k with
  | zero =>
    intro p f v m hp hf s hd
    obtain ⟨f, rfl⟩ : ∃ e, f = e + 1 := ⟨f - 1, by omega⟩
    refine ⟨m, ?_, FrE.rf _, s.1⟩
    show B_X9_takesO_20 s1 s2 s3 s4 s5 s6 _ _ _ = _
    unfold B_X9_takesO_20
    have hd' : f_X3_isDigit (chr T L p) = false := hd
    rw [seen_eq s hL hp, ob_s, isDig_eq, hd']
    rfl
  | succ k ih =>
    intro p f v m hp hf s hd
    obtain ⟨f, rfl⟩ : ∃ e, f = e + 1 := ⟨f - 1, by omega⟩
    have hd2 : f_X3_isDigit (chr T L (p + (if f_X3_isDigit (chr T L p) = true then dgN T L k (p + 1) + 1 else 0))) = false := hd
    show ∃ m', B_X9_takesO_20 s1 s2 s3 s4 s5 s6 _ _ _ = some ((if f_X3_isDigit (chr T L p) = true then nvN T L k (p + 1) (((10 * v) + chr T L p) - 48) else v), m') ∧ FrE m m' ∧ mi m' 80 30 = nI (p + (if f_X3_isDigit (chr T L p) = true then dgN T L k (p + 1) + 1 else 0))
    unfold B_X9_takesO_20
    rw [seen_eq s hL hp, ob_s, isDig_eq]
    by_cases c : f_X3_isDigit (chr T L p) = true
    · have hpL := dg_lt c
      rw [if_pos c, show p + (dgN T L k (p + 1) + 1) = p + 1 + dgN T L k (p + 1) by omega] at hd2
      obtain ⟨m', r1, r2, r3⟩ := ih (p + 1) f (((10 * v) + chr T L p) - 48) (goM p m) (by omega) (by omega) (goM_es s) hd2
      have eg : ms m 80 30 (mi m 80 30 + 1) = goM p m := by unfold goM; rw [s.1, nI_1]
      have ec : mi m 94 p = chr T L p := by unfold chr; rw [if_pos hpL, s.2.2.1 p hpL]
      rw [if_pos c, if_pos c, if_pos c, eg, s.1, if_pos (inb_nI (by omega) (by decide)), ix_nI (by omega), ec, letx_s, letx_s]
      refine ⟨m', r1, goM_fe.tr r2, ?_⟩
      rw [show p + (dgN T L k (p + 1) + 1) = p + 1 + dgN T L k (p + 1) by omega]
      exact r3
    · rw [if_neg c, if_neg c, if_neg c]
      exact ⟨m, rfl, FrE.rf _, s.1⟩
/-! operands -/
def SXo (T : Nat → Int32) (L o pos : Nat) (ok : Bool) (pos' : Nat) (c : List (Int32 × Int32)) : Prop := ∀ (n h : Nat) (x : MX) (sz : Nat), need 6 o ≤ n → XS T L h x pos sz → sz ≤ pos → ∃ x', (G_X3_readsPart n).2 h (nI o) x = some (ok, x') ∧ FrX h sz x x' ∧ xi x' h 6 = nI pos' ∧ (ok = true → xi x' h 4 = nI (sz + c.length) ∧ CodeAt x' h sz c)
def PO5 (T : Nat → Int32) (L o pos : Nat) : Prop := ∃ ok pos' c v, SXo T L o pos ok pos' c ∧ SM T L 5 o pos ok pos' ∧ pos ≤ pos' ∧ pos' ≤ L ∧ (ok = true → pos + c.length ≤ pos' ∧ pos < pos' ∧ SE T L 5 o pos pos' v ∧ SW c v (dep 5 o))
theorem PA_5 {T : Nat → Int32} {L o pos : Nat} (h : PO5 T L o pos) : PA T L 5 o pos := by
  obtain ⟨ok, pos', c, v, h1, h2, h3, h4, h5⟩ := h
  have nd : need 5 o = need 6 o + 1 := need_s (by omega)
  refine ⟨ok, pos', c, v, fun n h x sz hn sx hs => ?_, h2, h3, h4, h5⟩
  obtain ⟨n, rfl⟩ : ∃ e, n = e + 1 := ⟨n - 1, by omega⟩
  obtain ⟨x', r1, r2⟩ := h1 n h x sz (by omega) sx hs
  refine ⟨x', ?_, r2⟩
  show R_X3_readsPart (G_X3_readsPart n).1 (G_X3_readsPart n).2 h (nI 5) (nI o) x = _
  unfold R_X3_readsPart
  rw [if_neg (show ¬ nI 5 < 5 by decide), r1, ob2_s]
theorem name_case (c : Int32) : (f_X9_isName c = false ∧ f_X3_nameOf c < 0) ∨ ∃ j, j < 6 ∧ f_X3_nameOf c = nI j ∧ f_X9_isName c = true ∧ f_X3_isDigit c = false ∧ ¬ c = 33 ∧ ¬ c = 45 ∧ ¬ c = 40 ∧ ∀ (m : MM) (nm : Nat → Int32), NMm m nm → inb c 128 = true ∧ mi m 99 (ix c) = nm j := by
  by_cases h1 : c = 104
  · subst h1; exact Or.inr ⟨0, by decide, by decide, by decide, by decide, by decide, by decide, by decide, fun m nm h => ⟨by decide, h.1⟩⟩
  by_cases h2 : c = 108
  · subst h2; exact Or.inr ⟨1, by decide, by decide, by decide, by decide, by decide, by decide, by decide, fun m nm h => ⟨by decide, h.2.1⟩⟩
  by_cases h3 : c = 111
  · subst h3; exact Or.inr ⟨2, by decide, by decide, by decide, by decide, by decide, by decide, by decide, fun m nm h => ⟨by decide, h.2.2.1⟩⟩
  by_cases h4 : c = 115
  · subst h4; exact Or.inr ⟨3, by decide, by decide, by decide, by decide, by decide, by decide, by decide, fun m nm h => ⟨by decide, h.2.2.2.1⟩⟩
  by_cases h5 : c = 110
  · subst h5; exact Or.inr ⟨4, by decide, by decide, by decide, by decide, by decide, by decide, by decide, fun m nm h => ⟨by decide, h.2.2.2.2.1⟩⟩
  by_cases h6 : c = 99
  · subst h6; exact Or.inr ⟨5, by decide, by decide, by decide, by decide, by decide, by decide, by decide, fun m nm h => ⟨by decide, h.2.2.2.2.2⟩⟩
  · left
    constructor
    · unfold f_X9_isName
      rw [if_neg h1, if_neg h2, if_neg h3, if_neg h4, if_neg h5, if_neg h6]
    · unfold f_X3_nameOf
      rw [if_neg h6, if_neg h1, if_neg h2, if_neg h5, if_neg h3, if_neg h4]
      decide
theorem rO_s (n : Nat) (m : MM) : selM 5 (G_X9_readsO (n + 1)) m = R_X9_readsO (G_X9_readsO n).1 (G_X9_readsO n).2.1 (G_X9_readsO n).2.2.1 (G_X9_readsO n).2.2.2.1 (G_X9_readsO n).2.2.2.2.1 (G_X9_readsO n).2.2.2.2.2 m := rfl
theorem tO_s (n : Nat) (m : MM) : selE 5 (G_X9_takesO (n + 1)) m = R_X9_takesO (G_X9_takesO n).1 (G_X9_takesO n).2.1 (G_X9_takesO n).2.2.1 (G_X9_takesO n).2.2.2.1 (G_X9_takesO n).2.2.2.2.1 (G_X9_takesO n).2.2.2.2.2 m := rfl
theorem opX_s (n h : Nat) (a : Int32) (x : MX) : (G_X3_readsPart (n + 1)).2 h a x = R_X3_readsOperand (G_X3_readsPart n).1 (G_X3_readsPart n).2 h a x := rfl
theorem PO_num {T : Nat → Int32} {L o pos : Nat} (hL : L ≤ 120) (hp : pos ≤ L) (hc : f_X3_isDigit (chr T L pos) = true) : PO5 T L o pos := by
  have hpL := dg_lt hc
  have hle := dgN_le (T := T) 4 pos hp
  have hpos : 0 < dgN T L 4 pos := by
    show 0 < (if f_X3_isDigit (chr T L pos) = true then dgN T L 3 (pos + 1) + 1 else 0)
    rw [if_pos hc]; omega
  refine ⟨true, pos + dgN T L 4 pos, [(48, nvN T L 4 pos 0)], fun _ => nvN T L 4 pos 0, fun n h x sz hn sx hs => ?_, fun n m hn sm => ?_, by omega, hle, fun _ => ⟨by show pos + 1 ≤ _; omega, by omega, fun n m nm hn se hd => ?_, (SW_num _).mono (by unfold dep; omega)⟩⟩
  · obtain ⟨n, rfl⟩ : ∃ e, n = e + 1 := ⟨n - 1, by unfold need at hn; omega⟩
    obtain ⟨x1, r1, r2, r3⟩ := numX (h := h) (sz := sz) hL 4 pos LF 0 x (Nat.le_refl _) hp (by decide) sx
    have r1' : f_X3_readsNumber h x = _ := r1
    have s4 := adX_xs r3 48 (nvN T L 4 pos 0)
    refine ⟨adX h sz 48 (nvN T L 4 pos 0) x1, ?_, r2.tr adX_fr (Nat.le_refl _), s4.1, fun _ => ⟨s4.2.1, adX_code⟩⟩
    rw [opX_s]
    unfold R_X3_readsOperand
    rw [hereX sx hL hp, ob_s, if_pos hc, r1']
    unfold B_X3_readsNumber_48
    rw [adX_eq r3.2.1 (by omega), ob_s, ob2_s]
  · obtain ⟨n, rfl⟩ : ∃ e, n = e + 1 := ⟨n - 1, by unfold need at hn; omega⟩
    obtain ⟨m1, r1, r2, r3⟩ := numM (o := o) hL (s1 := (G_X9_readsO n).1) (s2 := (G_X9_readsO n).2.1) (s3 := (G_X9_readsO n).2.2.1) (s4 := (G_X9_readsO n).2.2.2.1) (s5 := (G_X9_readsO n).2.2.2.2.1) (s6 := (G_X9_readsO n).2.2.2.2.2) 4 pos LF m (Nat.le_refl _) hp (by decide) sm
    refine ⟨m1, ?_, r2, r3.1, r3.2.1, r3.2.2.1⟩
    have e32 : ¬ mi m 80 32 = 0 := by rw [sm.2.2.1]; decide
    rw [rO_s]
    unfold R_X9_readsO
    rw [if_neg e32, nextM_eq sm hL hp, ob_s, isDig_eq, if_pos hc]
    exact r1
  · obtain ⟨n, rfl⟩ : ∃ e, n = e + 1 := ⟨n - 1, by unfold need at hn; omega⟩
    obtain ⟨m1, r1, r2, r3⟩ := numE hL (s1 := (G_X9_takesO n).1) (s2 := (G_X9_takesO n).2.1) (s3 := (G_X9_takesO n).2.2.1) (s4 := (G_X9_takesO n).2.2.2.1) (s5 := (G_X9_takesO n).2.2.2.2.1) (s6 := (G_X9_takesO n).2.2.2.2.2) 4 pos LF 0 m hp (by decide) se hd
    refine ⟨m1, ?_, r2, r3⟩
    have ec : mi m 94 pos = chr T L pos := by unfold chr; rw [if_pos hpL, se.2.2.1 pos hpL]
    rw [tO_s]
    unfold R_X9_takesO
    rw [se.1, if_pos (inb_nI (by omega) (by decide)), ix_nI (by omega), ec, letx_s, isDig_eq, if_pos hc]
    exact r1
theorem PO_name {T : Nat → Int32} {L o pos j : Nat} (hL : L ≤ 120) (hp : pos ≤ L) (hj : j < 6) (h1 : f_X3_nameOf (chr T L pos) = nI j) (h2 : f_X9_isName (chr T L pos) = true) (h3 : f_X3_isDigit (chr T L pos) = false) (h4 : ¬ chr T L pos = 33 ∧ ¬ chr T L pos = 45 ∧ ¬ chr T L pos = 40) (h5 : ∀ (m : MM) (nm : Nat → Int32), NMm m nm → inb (chr T L pos) 128 = true ∧ mi m 99 (ix (chr T L pos)) = nm j) : PO5 T L o pos := by
  have hpL : pos < L := by
    refine chr_lt (T := T) (fun e => ?_)
    rw [e] at h2
    revert h2
    decide
  have z0 : ¬ nI j < 0 := fun y => by have := (nI_lt6 (c := 0) (by omega) (by decide)).mp y; omega
  have z3 : ¬ f_X3_isDigit (chr T L pos) = true := by rw [h3]; decide
  refine ⟨true, pos + 1, [(97, nI j)], fun nm => nm j, fun n h x sz hn sx hs => ?_, fun n m hn sm => ?_, by omega, hpL, fun _ => ⟨Nat.le_refl _, by omega, fun n m nm hn se hd => ?_, (SW_name hj).mono (by unfold dep; omega)⟩⟩
  · obtain ⟨n, rfl⟩ : ∃ e, n = e + 1 := ⟨n - 1, by unfold need at hn; omega⟩
    have s1 := goX_xs sx
    have s4 := adX_xs s1 97 (nI j)
    refine ⟨adX h sz 97 (nI j) (goX h pos x), ?_, (goX_fr (sz := sz)).tr adX_fr (Nat.le_refl _), s4.1, fun _ => ⟨s4.2.1, adX_code⟩⟩
    rw [opX_s]
    unfold R_X3_readsOperand
    rw [hereX sx hL hp, ob_s, if_neg z3, h1, if_neg z0, goX_eq sx, letx_s, adX_eq s1.2.1 (by omega), ob_s]
  · obtain ⟨n, rfl⟩ : ∃ e, n = e + 1 := ⟨n - 1, by unfold need at hn; omega⟩
    have s1 := goM_st sm
    refine ⟨goM pos m, ?_, goM_fr, s1.1, s1.2.1, s1.2.2.1⟩
    have e32 : ¬ mi m 80 32 = 0 := by rw [sm.2.2.1]; decide
    have eg : ms m 80 30 (mi m 80 30 + 1) = goM pos m := by unfold goM; rw [sm.1, nI_1]
    rw [rO_s]
    unfold R_X9_readsO
    rw [if_neg e32, nextM_eq sm hL hp, ob_s, isDig_eq, if_neg z3, if_pos h2, eg, letx_s]
  · obtain ⟨n, rfl⟩ : ∃ e, n = e + 1 := ⟨n - 1, by unfold need at hn; omega⟩
    have s1 := goM_es se
    refine ⟨goM pos m, ?_, goM_fe, s1.1⟩
    have ec : mi m 94 pos = chr T L pos := by unfold chr; rw [if_pos hpL, se.2.2.1 pos hpL]
    have eg : ms m 80 30 (mi m 80 30 + 1) = goM pos m := by unfold goM; rw [se.1, nI_1]
    obtain ⟨q1, q2⟩ := h5 (goM pos m) nm s1.2.2.2
    rw [tO_s]
    unfold R_X9_takesO
    rw [eg, se.1, if_pos (inb_nI (by omega) (by decide)), ix_nI (by omega), ec, letx_s, isDig_eq, if_neg z3, letx_s, if_neg h4.1, if_neg h4.2.1, if_neg h4.2.2, if_pos q1, q2]
theorem PO_no {T : Nat → Int32} {L o pos : Nat} (hL : L ≤ 120) (hp : pos ≤ L) (ho : o ≤ 6) (h1 : f_X9_isName (chr T L pos) = false) (h2 : f_X3_nameOf (chr T L pos) < 0) (h3 : f_X3_isDigit (chr T L pos) = false) (h4 : o = 6 ∨ (¬ chr T L pos = 33 ∧ ¬ chr T L pos = 45 ∧ ¬ chr T L pos = 40)) : PO5 T L o pos := by
  have z3 : ¬ f_X3_isDigit (chr T L pos) = true := by rw [h3]; decide
  have z1 : ¬ f_X9_isName (chr T L pos) = true := by rw [h1]; decide
  refine ⟨false, pos, [], fun _ => 0, fun n h x sz hn sx hs => ?_, fun n m hn sm => ?_, Nat.le_refl _, hp, fun q => by cases q⟩
  · obtain ⟨n, rfl⟩ : ∃ e, n = e + 1 := ⟨n - 1, by unfold need at hn; omega⟩
    refine ⟨x, ?_, FrX.rf _ _ _, sx.1, fun q => by cases q⟩
    rw [opX_s]
    unfold R_X3_readsOperand B_X3_readsOperand_63
    rw [hereX sx hL hp, ob_s, if_neg z3, if_pos h2]
    rcases h4 with e | ⟨e1, e2, e3⟩
    · subst e
      rw [if_neg (show ¬ nI 6 < 6 by decide)]
      repeat' split
      all_goals rfl
    · rw [if_neg e3, if_neg e1, if_neg e2]
  · obtain ⟨n, rfl⟩ : ∃ e, n = e + 1 := ⟨n - 1, by unfold need at hn; omega⟩
    refine ⟨ms m 80 32 0, ?_, ⟨fun _ _ => rfl, fun h k e => by rw [mi_ms, if_neg (by omega)]⟩, ?_, ?_, ?_⟩
    · have e32 : ¬ mi m 80 32 = 0 := by rw [sm.2.2.1]; decide
      rw [rO_s]
      unfold R_X9_readsO B_X9_readsO_93
      rw [if_neg e32, nextM_eq sm hL hp, ob_s, isDig_eq, if_neg z3, if_neg z1, sm.2.1]
      rcases h4 with e | ⟨e1, e2, e3⟩
      · subst e
        rw [if_pos (show nI 6 = 6 by decide)]
        repeat' split
        all_goals rfl
      · rw [if_neg e1, if_neg e2, if_neg e3]
        rfl
    · rw [mi_ms, if_neg (by omega)]; exact sm.1
    · rw [mi_ms, if_neg (by omega)]; exact sm.2.1
    · rw [mi_ms, if_pos ⟨rfl, rfl⟩]; rfl
/-- open goes up for what lies inside -/
def opM (o pos : Nat) (m : MM) : MM := ms (goM pos m) 80 31 (nI (o + 1))
theorem opM_st {T : Nat → Int32} {L pos o : Nat} {m : MM} (s : MS T L m pos o) : MS T L (opM o pos m) (pos + 1) (o + 1) := by
  have s1 := goM_st s
  unfold opM
  refine ⟨?_, ?_, ?_, ?_, fun k hk => ?_⟩
  · rw [mi_ms, if_neg (by omega)]; exact s1.1
  · rw [mi_ms, if_pos ⟨rfl, rfl⟩]
  · rw [mi_ms, if_neg (by omega)]; exact s1.2.2.1
  · rw [mi_ms, if_neg (by omega)]; exact s1.2.2.2.1
  · rw [mi_ms, if_neg (by omega)]; exact s1.2.2.2.2 k hk
theorem opM_fr {o pos : Nat} {m : MM} : FrM m (opM o pos m) := ⟨fun _ _ => rfl, fun h k e => by unfold opM; rw [mi_ms, if_neg (by omega)]; exact goM_fr.2 h k e⟩
theorem opM_eq {T : Nat → Int32} {L pos o : Nat} {m : MM} (s : MS T L m pos o) {α : Type} (K : MM → Option α) : letx (ms m 80 30 (mi m 80 30 + 1)) (fun m8 => letx (ms m8 80 31 (mi m8 80 31 + 1)) K) = K (opM o pos m) := by
  have eg : ms m 80 30 (mi m 80 30 + 1) = goM pos m := by unfold goM; rw [s.1, nI_1]
  rw [letx_s, eg, letx_s, (goM_st s).2.1, nI_1]
  rfl
/-- and down behind it -/
def clM (o : Nat) (m : MM) : MM := ms m 80 31 (nI o)
theorem clM_fr {o : Nat} {m : MM} : FrM m (clM o m) := ⟨fun _ _ => rfl, fun h k e => by unfold clM; rw [mi_ms, if_neg (by omega)]⟩
theorem clM_eq {o : Nat} {m : MM} (h : mi m 80 31 = nI (o + 1)) (ho : o ≤ 6) : letx (ms m 80 31 (mi m 80 31 - 1)) (fun m13 => some m13) = some (clM o m) := by
  rw [letx_s, h, nI_s1 (by omega)]
  rfl
theorem PO_un {T : Nat → Int32} {L o pos : Nat} (hL : L ≤ 120) (hp : pos ≤ L) (ho : o < 6) (hc : chr T L pos = 33 ∨ chr T L pos = 45) (hP : PO5 T L (o + 1) (pos + 1)) : PO5 T L o pos := by
  have hpL : pos < L := by
    refine chr_lt (T := T) (fun e => ?_)
    rw [e] at hc
    revert hc
    decide
  have h1 : f_X9_isName (chr T L pos) = false := by rcases hc with e | e <;> rw [e] <;> decide
  have h2 : f_X3_nameOf (chr T L pos) < 0 := by rcases hc with e | e <;> rw [e] <;> decide
  have h3 : f_X3_isDigit (chr T L pos) = false := by rcases hc with e | e <;> rw [e] <;> decide
  have h4 : ¬ chr T L pos = 40 := by rcases hc with e | e <;> rw [e] <;> decide
  have z3 : ¬ f_X3_isDigit (chr T L pos) = true := by rw [h3]; decide
  have z1 : ¬ f_X9_isName (chr T L pos) = true := by rw [h1]; decide
  have zo : nI o < 6 := (nI_lt6 (c := 6) (by omega) (by decide)).mpr ho
  have ne6 : ¬ nI o = 6 := fun q => by have := (nI_eqc (c := 6) (by omega) (by decide)).mp q; omega
  obtain ⟨ok1, pos1, c1, v1, P1, P2, P3, P4, P5⟩ := hP
  have nd : need 6 (o + 1) + 1 ≤ need 6 o := by unfold need; omega
  have nd5 : need 5 (o + 1) + 1 ≤ need 5 o := by unfold need; omega
  have xop : ∀ (n h : Nat) (x : MX) (sz : Nat), XS T L h x pos sz → (G_X3_readsPart (n + 1)).2 h (nI o) x = ob2 ((G_X3_readsPart n).2 h (nI (o + 1)) (goX h pos x)) (fun r9 x10 => if r9 = true then if chr T L pos = 33 then B_X3_readsOperand_137 (G_X3_readsPart n).1 (G_X3_readsPart n).2 33 h x10 else B_X3_readsOperand_137 (G_X3_readsPart n).1 (G_X3_readsPart n).2 126 h x10 else some (false, x10)) := by
    intro n h x sz sx
    rw [opX_s]
    unfold R_X3_readsOperand B_X3_readsOperand_63
    rw [hereX sx hL hp, ob_s, if_neg z3, if_pos h2, if_neg h4, if_pos zo, goX_eq sx, letx_s, nI_1, if_neg h4]
    rcases hc with e | e
    · rw [if_pos e]
    · rw [if_neg (by rw [e]; decide), if_pos e]
  have mop : ∀ (n : Nat) (m : MM), MS T L m pos o → selM 5 (G_X9_readsO (n + 1)) m = ob (selM 5 (G_X9_readsO n) (opM o pos m)) (fun m11 => letx (ms m11 80 31 (mi m11 80 31 - 1)) (fun m13 => some m13)) := by
    intro n m sm
    have e32 : ¬ mi m 80 32 = 0 := by rw [sm.2.2.1]; decide
    rw [rO_s]
    unfold R_X9_readsO B_X9_readsO_93 B_X9_readsO_166
    rw [if_neg e32, nextM_eq sm hL hp, ob_s, isDig_eq, if_neg z3, if_neg z1, sm.2.1, if_neg ne6, opM_eq sm, if_neg h4]
    rcases hc with e | e
    · rw [if_pos e]; rfl
    · rw [if_neg (by rw [e]; decide), if_pos e]; rfl
  cases ok1 with
  | false =>
    refine ⟨false, pos1, [], v1, fun n h x sz hn sx hs => ?_, fun n m hn sm => ?_, by omega, P4, fun q => by cases q⟩
    · obtain ⟨n, rfl⟩ : ∃ e, n = e + 1 := ⟨n - 1, by omega⟩
      obtain ⟨x1, X1, X2, X3, X4⟩ := P1 n h (goX h pos x) sz (by omega) (goX_xs sx) (by omega)
      refine ⟨x1, ?_, (goX_fr (sz := sz)).tr X2 (Nat.le_refl _), X3, fun q => by cases q⟩
      rw [xop n h x sz sx, X1, ob2_s]
      rfl
    · obtain ⟨n, rfl⟩ : ∃ e, n = e + 1 := ⟨n - 1, by omega⟩
      obtain ⟨m1, M1, M2, M3, M4, M5⟩ := P2 n (opM o pos m) (by omega) (opM_st sm)
      refine ⟨clM o m1, ?_, (opM_fr.tr M2).tr clM_fr, ?_, ?_, ?_⟩
      · rw [mop n m sm, M1, ob_s, clM_eq M4 (by omega)]
      · unfold clM; rw [mi_ms, if_neg (by omega)]; exact M3
      · unfold clM; rw [mi_ms, if_pos ⟨rfl, rfl⟩]
      · unfold clM; rw [mi_ms, if_neg (by omega)]; exact M5
  | true =>
    obtain ⟨Q1, Q2, Q3, Q4⟩ := P5 rfl
    have mpart : SM T L 5 o pos true pos1 := by
      intro n m hn sm
      obtain ⟨n, rfl⟩ : ∃ e, n = e + 1 := ⟨n - 1, by omega⟩
      obtain ⟨m1, M1, M2, M3, M4, M5⟩ := P2 n (opM o pos m) (by omega) (opM_st sm)
      refine ⟨clM o m1, ?_, (opM_fr.tr M2).tr clM_fr, ?_, ?_, ?_⟩
      · rw [mop n m sm, M1, ob_s, clM_eq M4 (by omega)]
      · unfold clM; rw [mi_ms, if_neg (by omega)]; exact M3
      · unfold clM; rw [mi_ms, if_pos ⟨rfl, rfl⟩]
      · unfold clM; rw [mi_ms, if_neg (by omega)]; exact M5
    have xpart : ∀ b : Int32, (if chr T L pos = 33 then b = 33 else b = 126) → SXo T L o pos true pos1 (c1 ++ [(b, 0)]) := by
      intro b hb n h x sz hn sx hs
      obtain ⟨n, rfl⟩ : ∃ e, n = e + 1 := ⟨n - 1, by omega⟩
      obtain ⟨x1, X1, X2, X3, X4⟩ := P1 n h (goX h pos x) sz (by omega) (goX_xs sx) (by omega)
      obtain ⟨X5, X6⟩ := X4 rfl
      have s1 := X2.xs (goX_xs sx) X3 X5
      have ad := adX_eq X5 (show sz + c1.length < 121 by omega) b 0
      have s2 := adX_xs s1 b 0
      refine ⟨adX h (sz + c1.length) b 0 x1, ?_, ((goX_fr (sz := sz)).tr X2 (Nat.le_refl _)).tr adX_fr (by omega), s2.1, fun _ => ⟨?_, ?_⟩⟩
      · rw [xop n h x sz sx, X1, ob2_s, if_pos rfl]
        unfold B_X3_readsOperand_137
        by_cases e : chr T L pos = 33
        · rw [if_pos e] at hb ⊢
          rw [hb] at ad ⊢
          rw [ad, ob_s]
        · rw [if_neg e] at hb ⊢
          rw [hb] at ad ⊢
          rw [ad, ob_s]
      · rw [s2.2.1, List.length_append, ← Nat.add_assoc]; rfl
      · rw [CodeAt.app]
        exact ⟨(adX_fr (sz := sz + c1.length)).code X6 (Nat.le_refl _), adX_code⟩
    have dd : dep 5 (o + 1) ≤ dep 5 o := by unfold dep; omega
    have ec : ∀ (m : MM) (nm : Nat → Int32), ES T L m pos nm → mi m 94 pos = chr T L pos := fun m nm se => by unfold chr; rw [if_pos hpL, se.2.2.1 pos hpL]
    by_cases e : chr T L pos = 33
    · refine ⟨true, pos1, c1 ++ [(33, 0)], fun nm => if v1 nm = 0 then 1 else 0, xpart 33 (by rw [if_pos e]), mpart, by omega, P4, fun _ => ⟨by rw [List.length_append]; show pos + (c1.length + 1) ≤ _; omega, by omega, fun n m nm hn se hd => ?_, SW_not Q4 dd⟩⟩
      obtain ⟨n, rfl⟩ : ∃ e, n = e + 1 := ⟨n - 1, by omega⟩
      obtain ⟨m1, M1, M2, M3⟩ := Q3 n (goM pos m) nm (by omega) (goM_es se) hd
      refine ⟨m1, ?_, goM_fe.tr M2, M3⟩
      have eg : ms m 80 30 (mi m 80 30 + 1) = goM pos m := by unfold goM; rw [se.1, nI_1]
      have M1' : (G_X9_takesO n).1 (goM pos m) = some (v1 nm, m1) := M1
      rw [tO_s]
      unfold R_X9_takesO B_X9_takesO_93
      rw [eg, se.1, if_pos (inb_nI (by omega) (by decide)), ix_nI (by omega), ec m nm se, letx_s, isDig_eq, if_neg z3, letx_s, if_pos e, M1', ob2_s]
      by_cases z : v1 nm = 0
      · rw [if_pos z]; show some (f_X9_one 1, m1) = some (if v1 nm = 0 then 1 else 0, m1); rw [if_pos z]; rfl
      · rw [if_neg z]; show some (f_X9_one 0, m1) = some (if v1 nm = 0 then 1 else 0, m1); rw [if_neg z]; rfl
    · have e2 : chr T L pos = 45 := by rcases hc with w | w <;> first | exact absurd w e | exact w
      refine ⟨true, pos1, c1 ++ [(126, 0)], fun nm => -(v1 nm), xpart 126 (by rw [if_neg e]), mpart, by omega, P4, fun _ => ⟨by rw [List.length_append]; show pos + (c1.length + 1) ≤ _; omega, by omega, fun n m nm hn se hd => ?_, SW_neg Q4 dd⟩⟩
      obtain ⟨n, rfl⟩ : ∃ e, n = e + 1 := ⟨n - 1, by omega⟩
      obtain ⟨m1, M1, M2, M3⟩ := Q3 n (goM pos m) nm (by omega) (goM_es se) hd
      refine ⟨m1, ?_, goM_fe.tr M2, M3⟩
      have eg : ms m 80 30 (mi m 80 30 + 1) = goM pos m := by unfold goM; rw [se.1, nI_1]
      have M1' : (G_X9_takesO n).1 (goM pos m) = some (v1 nm, m1) := M1
      rw [tO_s]
      unfold R_X9_takesO
      rw [eg, se.1, if_pos (inb_nI (by omega) (by decide)), ix_nI (by omega), ec m nm se, letx_s, isDig_eq, if_neg z3, letx_s, if_neg e, if_pos e2, M1', ob2_s]
