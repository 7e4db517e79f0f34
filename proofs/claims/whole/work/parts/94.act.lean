def ow (k a : Nat) : Nat := match k, a with
  | 0, _ => 0
  | 1, 0 => 1
  | 1, _ => 0
  | 2, 1 => 2
  | 2, _ => 0
  | 3, 0 => 0
  | 3, 1 => 3
  | 3, 2 => 3
  | 3, _ => 0
  | 4, 0 => 1
  | 4, 2 => 4
  | 4, _ => 0
  | 5, 0 => 0
  | 5, 1 => 3
  | 5, 2 => 3
  | 5, _ => 5
  | 6, 0 => 6
  | 6, _ => 0
  | _, 0 => 1
  | _, 1 => 7
  | _, 2 => 4
  | _, _ => 7
theorem runsX {s1 : Int32 → Int32 → Int32 → MX → Option (Int32 × MX)} {s2 : Int32 → Int32 → Int32 → Int32 → MX → Option (Int32 × MX)} {s3 : Int32 → Int32 → Int32 → MX → Option (Int32 × MX)} {s4 : Int32 → Int32 → Int32 → Int32 → MX → Option (Int32 × MX)} (v dp : Int32) (x : MX) : ∀ k a, k < 8 → a < 4 → f_X2_runs_6 s1 s2 s3 s4 LF (nI a) v dp (nI k) 0 x = B_X2_runs_50 s1 s2 s3 s4 (nI a) v dp (nI (ow k a)) x := by
  intro k a hk ha
  match k, hk, a, ha with
  | 0, _, 0, _ | 0, _, 1, _ | 0, _, 2, _ | 0, _, 3, _ | 1, _, 0, _ | 1, _, 1, _ | 1, _, 2, _ | 1, _, 3, _ | 2, _, 0, _ | 2, _, 1, _ | 2, _, 2, _ | 2, _, 3, _ | 3, _, 0, _ | 3, _, 1, _ | 3, _, 2, _ | 3, _, 3, _ | 4, _, 0, _ | 4, _, 1, _ | 4, _, 2, _ | 4, _, 3, _ | 5, _, 0, _ | 5, _, 1, _ | 5, _, 2, _ | 5, _, 3, _ | 6, _, 0, _ | 6, _, 1, _ | 6, _, 2, _ | 6, _, 3, _ | 7, _, 0, _ | 7, _, 1, _ | 7, _, 2, _ | 7, _, 3, _ => rfl
/-- what stays while an act runs -/
def InA (x0 : MX) (m0 : MM) (x : MX) (m : MM) (r : Nat) : Prop := x.1 = x0.1 ∧ x.2.2 = x0.2.2 ∧ (∀ h k, ¬ (h = 51 ∧ k = 3) → ¬ h = 53 → xi x h k = xi x0 h k) ∧ (∀ h k, ml m h k = ml m0 h k) ∧ (∀ h k, ¬ (h = 80 ∧ k = 7) → ¬ h = 104 → mi m h k = mi m0 h k) ∧ xi x 51 3 = nI r ∧ mi m 80 7 = nI r ∧ ∀ k, k < 24 → k < r → xi x 53 k = mi m 104 k
theorem noteA {x0 : MX} {m0 : MM} {x : MX} {m : MM} {r : Nat} (h : InA x0 m0 x m r) (hr : r ≤ 2000) (b : Int32) : ∃ x' m', f_X2_note b x = some x' ∧ f_X9_runs b m = some m' ∧ InA x0 m0 x' m' (r + 1) := by
  obtain ⟨a1, a2, a3, a4, a5, a6, a7, a8⟩ := h
  unfold f_X2_note f_X9_runs B_X2_note_19 B_X9_runs_19
  rw [a6, a7]
  by_cases c : 24 ≤ r
  · have c1 : (24 : Int32) ≤ nI r := (nI_lec (n := 24) (by decide) (by omega)).mpr c
    rw [if_pos c1, if_pos c1, letx_s, letx_s, nI_1]
    refine ⟨_, _, rfl, rfl, a1, a2, fun h k e1 e2 => ?_, a4, fun h k e1 e2 => ?_, ?_, ?_, fun k k1 k2 => ?_⟩
    · rw [xi_xs, if_neg (by omega)]; exact a3 h k e1 e2
    · rw [mi_ms, if_neg (by omega)]; exact a5 h k e1 e2
    · rw [xi_xs, if_pos ⟨rfl, rfl⟩]
    · rw [mi_ms, if_pos ⟨rfl, rfl⟩]
    · rw [xi_xs, if_neg (by omega), mi_ms, if_neg (by omega)]; exact a8 k k1 (by omega)
  · have c1 : ¬ (24 : Int32) ≤ nI r := fun q => by have := (nI_lec (n := 24) (by decide) (by omega)).mp q; omega
    have e1 : xi (xs x 53 r b) 51 3 = nI r := by rw [xi_xs, if_neg (by omega), a6]
    have e2 : mi (ms m 104 r b) 80 7 = nI r := by rw [mi_ms, if_neg (by omega), a7]
    rw [if_neg c1, if_neg c1, if_pos (inb_nI (by omega) (by decide)), if_pos (inb_nI (by omega) (by decide)), ix_nI (by omega), letx_s, letx_s, letx_s, letx_s, e1, e2, nI_1]
    refine ⟨_, _, rfl, rfl, a1, a2, fun h k e1 e2 => ?_, a4, fun h k e1 e2 => ?_, ?_, ?_, fun k k1 k2 => ?_⟩
    · rw [xi_xs, if_neg (by omega), xi_xs, if_neg (by omega)]; exact a3 h k e1 e2
    · rw [mi_ms, if_neg (by omega), mi_ms, if_neg (by omega)]; exact a5 h k e1 e2
    · rw [xi_xs, if_pos ⟨rfl, rfl⟩]
    · rw [mi_ms, if_pos ⟨rfl, rfl⟩]
    · by_cases e : k = r
      · rw [xi_xs, if_neg (by omega), xi_xs, if_pos ⟨rfl, e⟩, mi_ms, if_neg (by omega), mi_ms, if_pos ⟨rfl, e⟩]
      · rw [xi_xs, if_neg (by omega), xi_xs, if_neg (by omega), mi_ms, if_neg (by omega), mi_ms, if_neg (by omega)]
        exact a8 k k1 (by omega)
/-- both do the same, noting c bodies at most -/
def PrA (x0 : MX) (m0 : MM) (c : Nat) (fx : MX → Option (Int32 × MX)) (fm : MM → Option (Int32 × MM)) : Prop := ∀ (x : MX) (m : MM) (r : Nat), InA x0 m0 x m r → r + c ≤ 1000 → ∃ v x' m' r', fx x = some (v, x') ∧ fm m = some (v, m') ∧ InA x0 m0 x' m' r' ∧ r' ≤ r + c
theorem ob2_id {α : Type} (o : Option (Int32 × α)) : ob2 o (fun r x => some (r, x)) = o := by
  cases o with
  | none => rfl
  | some p => rfl
/-- an own body: the note, then the rest -/
theorem PrA.body {x0 : MX} {m0 : MM} {c b : Nat} {fx gx : MX → Option (Int32 × MX)} {fm gm : MM → Option (Int32 × MM)} (h : PrA x0 m0 c gx gm) (hx : ∀ x, fx x = ob (f_X2_note (nI b) x) gx) (hm : ∀ m, fm m = ob (f_X9_runs (nI b) m) gm) : PrA x0 m0 (c + 1) fx fm := by
  intro x m r hi hr
  obtain ⟨x1, m1, e1, e2, e3⟩ := noteA hi (by omega) (nI b)
  obtain ⟨v, x', m', r', g1, g2, g3, g4⟩ := h x1 m1 (r + 1) e3 (by omega)
  exact ⟨v, x', m', r', by rw [hx, e1, ob_s, g1], by rw [hm, e2, ob_s, g2], g3, by omega⟩
theorem PrA.map {x0 : MX} {m0 : MM} {c : Nat} {gx : MX → Option (Int32 × MX)} {gm : MM → Option (Int32 × MM)} (h : PrA x0 m0 c gx gm) (f : Int32 → Int32) : PrA x0 m0 c (fun x => ob2 (gx x) (fun r y => some (f r, y))) (fun m => ob2 (gm m) (fun r y => some (f r, y))) := by
  intro x m r hi hr
  obtain ⟨v, x', m', r', g1, g2, g3, g4⟩ := h x m r hi hr
  refine ⟨f v, x', m', r', ?_, ?_, g3, g4⟩
  · show ob2 (gx x) _ = _
    rw [g1, ob2_s]
  · show ob2 (gm m) _ = _
    rw [g2, ob2_s]
theorem PrA.two {x0 : MX} {m0 : MM} {c d : Nat} {gx hx : MX → Option (Int32 × MX)} {gm hm : MM → Option (Int32 × MM)} (h : PrA x0 m0 c gx gm) (k : PrA x0 m0 d hx hm) (f : Int32 → Int32 → Int32) : PrA x0 m0 (c + d) (fun x => ob2 (gx x) (fun r y => ob2 (hx y) (fun s z => some (f r s, z)))) (fun m => ob2 (gm m) (fun r y => ob2 (hm y) (fun s z => some (f r s, z)))) := by
  intro x m r hi hr
  obtain ⟨v, x', m', r', g1, g2, g3, g4⟩ := h x m r hi (by omega)
  obtain ⟨w, x2, m2, r2, k1, k2, k3, k4⟩ := k x' m' r' g3 (by omega)
  refine ⟨f v w, x2, m2, r2, ?_, ?_, k3, by omega⟩
  · show ob2 (gx x) _ = _
    rw [g1, ob2_s, k1, ob2_s]
  · show ob2 (gm m) _ = _
    rw [g2, ob2_s, k2, ob2_s]
theorem PrA.cg {x0 : MX} {m0 : MM} {c : Nat} {fx gx : MX → Option (Int32 × MX)} {fm gm : MM → Option (Int32 × MM)} (h : PrA x0 m0 c gx gm) (hx : ∀ x m r, InA x0 m0 x m r → fx x = gx x) (hm : ∀ x m r, InA x0 m0 x m r → fm m = gm m) : PrA x0 m0 c fx fm := by
  intro x m r hi hr
  obtain ⟨v, x', m', r', g1, g2, g3, g4⟩ := h x m r hi hr
  exact ⟨v, x', m', r', by rw [hx x m r hi, g1], by rw [hm x m r hi, g2], g3, g4⟩
theorem PrA.mono {x0 : MX} {m0 : MM} {c d : Nat} {gx : MX → Option (Int32 × MX)} {gm : MM → Option (Int32 × MM)} (h : PrA x0 m0 c gx gm) (e : c ≤ d) : PrA x0 m0 d gx gm := by
  intro x m r hi hr
  obtain ⟨v, x', m', r', g1, g2, g3, g4⟩ := h x m r hi (by omega)
  exact ⟨v, x', m', r', g1, g2, g3, by omega⟩
/-- the hole that acts: its number and its kind -/
def AcA (x0 : MX) (m0 : MM) (n k : Nat) : Prop := n < 50 ∧ k < 8 ∧ xi x0 51 4 = nI n ∧ xi x0 52 n = nI k ∧ mi m0 103 n = nI k
def XR (f k a : Nat) (v dp : Int32) (x : MX) : Option (Int32 × MX) := (G_X2_own f).2.1 (nI k) (nI a) v dp x
theorem XR_s (f a : Nat) (v dp : Int32) (x : MX) {k : Nat} (hk : k < 8) (ha : a < 4) : XR (f + 1) k a v dp x = B_X2_runs_50 (G_X2_own f).1 (G_X2_own f).2.1 (G_X2_own f).2.2.1 (G_X2_own f).2.2.2 (nI a) v dp (nI (ow k a)) x := runsX v dp x k a hk ha
theorem XR_ow {f a : Nat} {v dp : Int32} {x : MX} {k k' : Nat} (hk : k < 8) (hk' : k' < 8) (ha : a < 4) (e : ow k a = ow k' a) : XR (f + 1) k a v dp x = XR (f + 1) k' a v dp x := by
  rw [XR_s _ _ _ _ _ hk ha, XR_s _ _ _ _ _ hk' ha, e]
theorem dp_le {d : Nat} (hd : d ≤ 40) : nI d ≤ 40 := (nI_lec (c := 40) (by omega) (by decide)).mpr hd
/-- HOLE's own bodies -/
theorem XR_0 {f a b : Nat} {v : Int32} {d : Nat} (hd : d ≤ 40) (ha : a < 4) (hb : (SA 3).getD a 0 = nI b) (x : MX) : XR (f + 2) 0 a v (nI d) x = ob (f_X2_note (nI b) x) (fun y => R_X2_ofHole (G_X2_own f).1 (G_X2_own f).2.1 (G_X2_own f).2.2.1 (G_X2_own f).2.2.2 (nI b) v (nI (d + 1)) y) := by
  have e : (4 : Int32) * nI 0 + nI a = nI a := by
    match a, ha with
    | 0, _ | 1, _ | 2, _ | 3, _ => rfl
  rw [XR_s _ _ _ _ _ (by decide) ha]
  show B_X2_runs_50 _ _ _ _ _ _ _ (nI 0) x = _
  unfold B_X2_runs_50
  rw [if_pos (show f_X2_isKind (nI 0) = true by decide), if_pos (dp_le hd), e, if_pos (inb_nI (by omega) (by decide)), ix_nI (by omega), hb, letx_s, nI_1]
  congr 1
  funext y
  rw [if_pos (show nI 0 = 0 from rfl), ob2_id]
  rfl
theorem XR_k {f a b o ab : Nat} {v : Int32} {d : Nat} (hd : d ≤ 40) (ha : a < 4) (ho : o < 8) (ho0 : 0 < o) (how : ow o a = o) (hb : (SA 3).getD (4 * o + a) 0 = nI b) (hab : (SA 2).getD o 0 = nI ab) (x : MX) : XR (f + 2) o a v (nI d) x = ob (f_X2_note (nI b) x) (fun y => R_X2_ofUnder (G_X2_own f).1 (G_X2_own f).2.1 (G_X2_own f).2.2.1 (G_X2_own f).2.2.2 (nI b) (nI ab) v (nI (d + 1)) y) := by
  have e : (4 : Int32) * nI o + nI a = nI (4 * o + a) := by rw [← nA_add, ← nI_mul]; rfl
  have e1 : f_X2_isKind (nI o) = true := by rw [kindX, decide_eq_true]; rw [nI_int (by omega)]; omega
  have e2 : ¬ nI o = 0 := fun q => by have := (nI_eqc (c := 0) (by omega) (by decide)).mp q; omega
  rw [XR_s _ _ _ _ _ ho ha, how]
  unfold B_X2_runs_50
  rw [if_pos e1, if_pos (dp_le hd), e, if_pos (inb_nI (by omega) (by decide)), ix_nI (by omega), hb, letx_s, nI_1]
  congr 1
  funext y
  rw [if_neg e2, if_pos (inb_nI ho (by decide)), ix_nI (by omega), hab, ob2_id]
  rfl
theorem XO {x0 : MX} {m0 : MM} {n k : Nat} (A : AcA x0 m0 n k) {x : MX} {m : MM} {r : Nat} (hi : InA x0 m0 x m r) (f : Nat) (a v dp : Int32) : (G_X2_own (f + 1)).1 a v dp x = (G_X2_own f).2.1 (nI k) a v dp x := by
  show R_X2_own (G_X2_own f).1 (G_X2_own f).2.1 (G_X2_own f).2.2.1 (G_X2_own f).2.2.2 a v dp x = _
  unfold R_X2_own
  rw [hi.2.2.1 51 4 (by omega) (by omega), A.2.2.1, if_pos (inb_nI A.1 (by decide)), ix_nI (by have := A.1; omega), hi.2.2.1 52 n (by omega) (by omega), A.2.2.2.1, ob2_id]
/-! holds -/
theorem ringsUp {n : Int32} {v : Int32} (f : Nat) (m : MM) : ∀ k, k < 8 → ∃ s, s ≤ 3 ∧ G_X9_rings (f + 3) n (nI k) v m = G_X9_rings (f + s) n (nI (ow k 0)) v m := by
  have up : ∀ (g k k' : Nat), ¬ nI k = 1 → ¬ nI k = 6 → ¬ nI k ≤ 0 → f_X9_above (nI k) = nI k' → G_X9_rings (g + 1) n (nI k) v m = G_X9_rings g n (nI k') v m := by
    intro g k k' h1 h2 h3 h4
    show R_X9_rings _ _ _ _ _ = _
    unfold R_X9_rings
    rw [if_neg h1, if_neg h2, if_neg h3, h4, ob2_id]
  intro k hk
  match k, hk with
  | 0, _ => exact ⟨3, by decide, rfl⟩
  | 1, _ => exact ⟨3, by decide, rfl⟩
  | 2, _ => exact ⟨2, by decide, up _ 2 0 (by decide) (by decide) (by decide) (by decide)⟩
  | 3, _ => exact ⟨1, by decide, (up _ 3 2 (by decide) (by decide) (by decide) (by decide)).trans (up _ 2 0 (by decide) (by decide) (by decide) (by decide))⟩
  | 4, _ => exact ⟨2, by decide, up _ 4 1 (by decide) (by decide) (by decide) (by decide)⟩
  | 5, _ => exact ⟨0, by decide, ((up _ 5 3 (by decide) (by decide) (by decide) (by decide)).trans (up _ 3 2 (by decide) (by decide) (by decide) (by decide))).trans (up _ 2 0 (by decide) (by decide) (by decide) (by decide))⟩
  | 6, _ => exact ⟨3, by decide, rfl⟩
  | 7, _ => exact ⟨1, by decide, (up _ 7 4 (by decide) (by decide) (by decide) (by decide)).trans (up _ 4 1 (by decide) (by decide) (by decide) (by decide))⟩
theorem doingUp {n : Int32} {v : Int32} (f : Nat) (m : MM) : ∀ k, k < 8 → ∃ s, s ≤ 3 ∧ G_X9_doing (f + 3) n (nI k) v m = G_X9_doing (f + s) n (nI (ow k 2)) v m := by
  have up : ∀ (g k k' : Nat), ¬ nI k = 3 → ¬ nI k = 4 → ¬ nI k ≤ 0 → f_X9_above (nI k) = nI k' → G_X9_doing (g + 1) n (nI k) v m = G_X9_doing g n (nI k') v m := by
    intro g k k' h1 h2 h3 h4
    show R_X9_doing _ _ _ _ _ = _
    unfold R_X9_doing
    rw [if_neg h1, if_neg h2, if_neg h3, h4, ob2_id]
  intro k hk
  match k, hk with
  | 0, _ => exact ⟨3, by decide, rfl⟩
  | 1, _ => exact ⟨2, by decide, up _ 1 0 (by decide) (by decide) (by decide) (by decide)⟩
  | 2, _ => exact ⟨2, by decide, up _ 2 0 (by decide) (by decide) (by decide) (by decide)⟩
  | 3, _ => exact ⟨3, by decide, rfl⟩
  | 4, _ => exact ⟨3, by decide, rfl⟩
  | 5, _ => exact ⟨2, by decide, up _ 5 3 (by decide) (by decide) (by decide) (by decide)⟩
  | 6, _ => exact ⟨2, by decide, up _ 6 0 (by decide) (by decide) (by decide) (by decide)⟩
  | 7, _ => exact ⟨2, by decide, up _ 7 4 (by decide) (by decide) (by decide) (by decide)⟩
theorem hearsUp {n : Int32} {v : Int32} (f : Nat) (m : MM) : ∀ k, k < 8 → ∃ s, s ≤ 3 ∧ G_X9_hears (f + 3) n (nI k) v m = G_X9_hears (f + s) n (nI (ow k 1)) v m := by
  have up : ∀ (g k k' : Nat), ¬ nI k = 2 → ¬ nI k = 3 → ¬ nI k = 7 → ¬ nI k ≤ 0 → f_X9_above (nI k) = nI k' → G_X9_hears (g + 1) n (nI k) v m = G_X9_hears g n (nI k') v m := by
    intro g k k' h1 h2 h0 h3 h4
    show R_X9_hears _ _ _ _ _ = _
    unfold R_X9_hears
    rw [if_neg h1, if_neg h2, if_neg h0, if_neg h3, h4, ob2_id]
  intro k hk
  match k, hk with
  | 0, _ => exact ⟨3, by decide, rfl⟩
  | 1, _ => exact ⟨2, by decide, up _ 1 0 (by decide) (by decide) (by decide) (by decide) (by decide)⟩
  | 2, _ => exact ⟨3, by decide, rfl⟩
  | 3, _ => exact ⟨3, by decide, rfl⟩
  | 4, _ => exact ⟨1, by decide, (up _ 4 1 (by decide) (by decide) (by decide) (by decide) (by decide)).trans (up _ 1 0 (by decide) (by decide) (by decide) (by decide) (by decide))⟩
  | 5, _ => exact ⟨2, by decide, up _ 5 3 (by decide) (by decide) (by decide) (by decide) (by decide)⟩
  | 6, _ => exact ⟨2, by decide, up _ 6 0 (by decide) (by decide) (by decide) (by decide) (by decide)⟩
  | 7, _ => exact ⟨3, by decide, rfl⟩
theorem tellsUp {n : Int32} {v : Int32} (f : Nat) (m : MM) : ∀ k, k < 8 → ∃ s, s ≤ 3 ∧ G_X9_tells (f + 3) n (nI k) v m = G_X9_tells (f + s) n (nI (ow k 3)) v m := by
  have up : ∀ (g k k' : Nat), ¬ nI k = 5 → ¬ nI k = 7 → ¬ nI k ≤ 0 → f_X9_above (nI k) = nI k' → G_X9_tells (g + 1) n (nI k) v m = G_X9_tells g n (nI k') v m := by
    intro g k k' h1 h2 h3 h4
    show R_X9_tells _ _ _ _ _ = _
    unfold R_X9_tells
    rw [if_neg h1, if_neg h2, if_neg h3, h4, ob2_id]
  intro k hk
  match k, hk with
  | 0, _ => exact ⟨3, by decide, rfl⟩
  | 1, _ => exact ⟨2, by decide, up _ 1 0 (by decide) (by decide) (by decide) (by decide)⟩
  | 2, _ => exact ⟨2, by decide, up _ 2 0 (by decide) (by decide) (by decide) (by decide)⟩
  | 3, _ => exact ⟨1, by decide, (up _ 3 2 (by decide) (by decide) (by decide) (by decide)).trans (up _ 2 0 (by decide) (by decide) (by decide) (by decide))⟩
  | 4, _ => exact ⟨1, by decide, (up _ 4 1 (by decide) (by decide) (by decide) (by decide)).trans (up _ 1 0 (by decide) (by decide) (by decide) (by decide))⟩
  | 5, _ => exact ⟨3, by decide, rfl⟩
  | 6, _ => exact ⟨2, by decide, up _ 6 0 (by decide) (by decide) (by decide) (by decide)⟩
  | 7, _ => exact ⟨3, by decide, rfl⟩
