/-! what a call may leave behind without telling -/
def scrX (h k : Nat) : Bool := (decide (32 ≤ h) && decide (h ≤ 50)) || h == 55 || h == 59 || h == 60 || h == 65 || h == 66 || ((h == 56 || h == 62) && k == 5)
def scrM (h k : Nat) : Bool := (h == 80 && (k == 30 || k == 31 || k == 32 || k == 36)) || h == 99 || h == 100 || h == 101
def SameX (x x' : MX) : Prop := x'.1 = x.1 ∧ x'.2.2 = x.2.2 ∧ ∀ h k, scrX h k = false → xi x' h k = xi x h k
def SameM (m m' : MM) : Prop := (∀ h k, h ≠ 110 → ml m' h k = ml m h k) ∧ ∀ h k, scrM h k = false → mi m' h k = mi m h k
theorem SameX.rf (x : MX) : SameX x x := ⟨rfl, rfl, fun _ _ _ => rfl⟩
theorem SameM.rf (m : MM) : SameM m m := ⟨fun _ _ _ => rfl, fun _ _ _ => rfl⟩
theorem SameX.tr {x y z : MX} (h : SameX x y) (g : SameX y z) : SameX x z := ⟨g.1.trans h.1, g.2.1.trans h.2.1, fun a b e => (g.2.2 a b e).trans (h.2.2 a b e)⟩
theorem SameM.tr {x y z : MM} (h : SameM x y) (g : SameM y z) : SameM x z := ⟨fun a b e => (g.1 a b e).trans (h.1 a b e), fun a b e => (g.2 a b e).trans (h.2 a b e)⟩
theorem SameX.xs {x : MX} {h k : Nat} {v : Int32} (e : scrX h k = true) : SameX x (xs x h k v) := by
  refine ⟨rfl, rfl, fun a b q => ?_⟩
  rw [xi_xs]
  split
  · rename_i z; obtain ⟨rfl, rfl⟩ := z; rw [e] at q; cases q
  · rfl
theorem SameM.ms {m : MM} {h k : Nat} {v : Int32} (e : scrM h k = true) : SameM m (ms m h k v) := by
  refine ⟨fun _ _ _ => rfl, fun a b q => ?_⟩
  rw [mi_ms]
  split
  · rename_i z; obtain ⟨rfl, rfl⟩ := z; rw [e] at q; cases q
  · rfl
/-! what a link's taking may leave behind: the law's stack, top and names; the reference's place and names -/
def tscX (h k : Nat) : Bool := h == 59 || h == 60 || h == 65 || h == 66 || ((h == 56 || h == 62) && k == 5)
def tscM (h k : Nat) : Bool := (h == 80 && k == 30) || h == 99
def SameT (x x' : MX) : Prop := x'.1 = x.1 ∧ x'.2.2 = x.2.2 ∧ ∀ h k, tscX h k = false → xi x' h k = xi x h k
def SameN (m m' : MM) : Prop := (∀ h k, ml m' h k = ml m h k) ∧ ∀ h k, tscM h k = false → mi m' h k = mi m h k
theorem SameT.rf (x : MX) : SameT x x := ⟨rfl, rfl, fun _ _ _ => rfl⟩
theorem SameN.rf (m : MM) : SameN m m := ⟨fun _ _ => rfl, fun _ _ _ => rfl⟩
theorem SameT.tr {x y z : MX} (h : SameT x y) (g : SameT y z) : SameT x z := ⟨g.1.trans h.1, g.2.1.trans h.2.1, fun a b e => (g.2.2 a b e).trans (h.2.2 a b e)⟩
theorem SameN.tr {x y z : MM} (h : SameN x y) (g : SameN y z) : SameN x z := ⟨fun a b => (g.1 a b).trans (h.1 a b), fun a b e => (g.2 a b e).trans (h.2 a b e)⟩
theorem tsc_scr {h k : Nat} (q : scrX h k = false) : tscX h k = false := by
  unfold scrX at q
  unfold tscX
  simp only [Bool.or_eq_false_iff] at q ⊢
  exact ⟨⟨⟨⟨q.1.1.1.1.2, q.1.1.1.2⟩, q.1.1.2⟩, q.1.2⟩, q.2⟩
theorem tsc_scrM {h k : Nat} (q : scrM h k = false) : tscM h k = false := by
  unfold scrM at q
  unfold tscM
  simp only [Bool.or_eq_false_iff, Bool.and_eq_false_iff] at q ⊢
  refine ⟨?_, q.1.1.2⟩
  rcases q.1.1.1 with e | e
  · exact Or.inl e
  · exact Or.inr e.1.1.1
theorem SameT.toX {x x' : MX} (h : SameT x x') : SameX x x' := ⟨h.1, h.2.1, fun a b e => h.2.2 a b (tsc_scr e)⟩
theorem SameN.toM {m m' : MM} (h : SameN m m') : SameM m m' := ⟨fun a b _ => h.1 a b, fun a b e => h.2 a b (tsc_scrM e)⟩
/-! the law, as a black box: what it gives by six numbers -/
def lawX (x x' : MX) : Prop := x'.1.1 = x.1.1 ∧ xi x' x.1.1 4 = xi x x.1.1 4 ∧ ∀ k, xi x' (x.1.1 + 1) k = xi x (x.1.1 + 1) k ∧ xi x' (x.1.1 + 2) k = xi x (x.1.1 + 2) k
def lawM (m m' : MM) : Prop := mi m' 80 6 = mi m 80 6 ∧ ∀ k, mi m' 94 k = mi m 94 k
def nmM (m : MM) (h l o s n c : Int32) : MM := ms (ms (ms (ms (ms (ms m 99 104 h) 99 108 l) 99 111 o) 99 115 s) 99 110 n) 99 99 c
def LawSem (x : MX) (m : MM) : Prop := ∃ F : Int32 → Int32 → Int32 → Int32 → Int32 → Int32 → Int32,
  (∀ x' h l o s n c, lawX x x' → ∃ x1 x2, f_X3_name x.1.1 h l o s n c x' = some x1 ∧ f_X3_workedOut x.1.1 x1 = some (F h l o s n c, x2) ∧ SameT x' x1 ∧ SameT x1 x2) ∧
  (∀ m' h l o s n c, lawM m m' → ∃ m1, f_X9_given (nmM m' h l o s n c) = some (F h l o s n c, m1) ∧ SameN m' m1)
/-! the relation of the two memories -/
def mnum (m : MM) (w k : Nat) : Int32 := match w with
  | 0 => mi m 81 k
  | 1 => mi m 82 k
  | 2 => mi m 83 k
  | 3 => mi m 84 k
  | 4 => mi m 85 k
  | 5 => mi m 86 k
  | 6 => mi m 88 k
  | 7 => mi m 89 k
  | 8 => mi m 90 k
  | 9 => mi m 80 3
  | 10 => mi m 80 4
  | 11 => mi m 91 k
  | _ => mi m 92 k
def nsz (w : Nat) : Nat := if w ≤ 5 then 6 else if w ≤ 8 then 2 else if w ≤ 10 then 1 else 8
def hol (nl nc ns w : Nat) : Nat := if w ≤ 1 then nl else if w ≤ 5 then nc else if w ≤ 8 then 2 else if w ≤ 10 then 1 else ns
def RCnt (nl nc ns : Nat) (x : MX) (m : MM) : Prop := (xi x 5 12 = nI nl ∧ xi x 5 13 = nI nc ∧ xi x 5 14 = nI ns) ∧ (mi m 80 0 = nI nl ∧ mi m 80 1 = nI nc ∧ mi m 80 2 = nI ns) ∧ nl ≤ 6 ∧ nc ≤ 6 ∧ ns ≤ 8
def RNum (nl nc ns : Nat) (x : MX) (m : MM) : Prop := (∀ w k, w < 13 → k < nsz w → xi x (7 + w) k = mnum m w k ∧ 0 ≤ (mnum m w k).toInt ∧ (mnum m w k).toInt ≤ hiN w) ∧ (∀ w k, w < 13 → k < hol nl nc ns w → loN w ≤ (mnum m w k).toInt)
def RIn (nc : Nat) (x : MX) (m : MM) : Prop := (∀ k, k < nc → xi x 26 k = mi m 87 k ∧ -2 ≤ (mi m 87 k).toInt ∧ (mi m 87 k).toInt ≤ 5) ∧ ∀ k, nc ≤ k → k < 6 → xi x 26 k = -2
def RLed (x : MX) (m : MM) : Prop := xi x 27 0 = mi m 80 37 ∧ xi x 27 1 = mi m 80 38 ∧ xi x 27 2 = mi m 80 39 ∧ xi x 27 3 = mi m 80 40
def RKept (nc : Nat) (x : MX) (m : MM) : Prop := (mi m 80 42 = -1 ∧ xi x 5 15 = 0) ∨ ∃ kc, kc ≤ nc ∧ mi m 80 42 = nI kc ∧ xi x 5 15 = 1 ∧ (∀ k, k < kc → xi x 29 k = mi m 102 k ∧ -2 ≤ (mi m 102 k).toInt ∧ (mi m 102 k).toInt ≤ 5) ∧ (∀ k, kc ≤ k → k < 6 → xi x 29 k = -2) ∧ (∀ j, j < 4 → xi x 30 j = mi m 102 (8 + j)) ∧ ∀ j, j < 2 → xi x 31 j = mi m 102 (6 + j) ∧ 0 ≤ (mi m 102 (6 + j)).toInt ∧ (mi m 102 (6 + j)).toInt ≤ 99
def RHist (nl nc ns : Nat) (x : MX) (m : MM) : Prop := ∃ md al : Nat, md ≤ al ∧ al ≤ 40 ∧ xi x 20 4 = nI md ∧ xi x 20 5 = nI (al - md) ∧ mi m 80 28 = nI md ∧ mi m 80 29 = nI al ∧ ∀ k, k < al → ∃ n w : Nat, w < 13 ∧ n < hol nl nc ns w ∧ xi x 21 k = nI n ∧ xi x 22 k = nI w ∧ mi m 95 k = nI n ∧ mi m 96 k = nI w ∧ xi x 23 k = mi m 97 k ∧ xi x 24 k = mi m 98 k ∧ loN w ≤ (mi m 97 k).toInt ∧ (mi m 97 k).toInt ≤ hiN w ∧ loN w ≤ (mi m 98 k).toInt ∧ (mi m 98 k).toInt ≤ hiN w
def RTape (x : MX) (m : MM) : Prop := isLaw x.1.1 ∧ isLaw x.1.2 ∧ x.1.1 ≠ x.1.2 ∧ xi x x.1.1 8 = 0 ∧ ∃ sz : Nat, sz ≤ 120 ∧ xi x x.1.2 8 = nI sz ∧ mi m 80 5 = nI sz ∧ ∀ k, k < sz → xi x (x.1.2 + 5) k = mi m 93 k ∧ 0 ≤ (mi m 93 k).toInt ∧ (mi m 93 k).toInt ≤ 255
def RLaw (x : MX) (m : MM) : Prop := (mi m 80 9 = 0 ∧ xi x x.1.1 4 = 0) ∨ (mi m 80 9 = 1 ∧ 0 < (xi x x.1.1 4).toInt ∧ LawSem x m)
def RHole (nh : Nat) (x : MX) (m : MM) : Prop := nh ≤ 50 ∧ xi x 51 2 = nI nh ∧ mi m 80 8 = nI nh ∧ (∀ k, k < nh → xi x 52 k = mi m 103 k ∧ 0 ≤ (mi m 103 k).toInt ∧ (mi m 103 k).toInt ≤ 7) ∧ xi x 51 3 = mi m 80 7 ∧ ∀ k : Nat, k < 24 → (k : Int) < (mi m 80 7).toInt → xi x 53 k = mi m 104 k
def RShelf1 (nh : Nat) (x : MX) (m : MM) (s : Nat) : Prop := (mi m 105 s = 0 ∧ xi x (68 + 2 * s) 1 = -2) ∨ (mi m 105 s = 1 ∧ xi x (68 + 2 * s) 1 = -1 ∧ ∃ q, q < nh ∧ mi m 108 s = nI q ∧ xi x (68 + 2 * s) 3 = nI q) ∨ (mi m 105 s = 2 ∧ ∃ so sz : Nat, so < 5 ∧ sz ≤ 60 ∧ xi x (68 + 2 * s) 1 = nI so ∧ mi m 106 s = nI so ∧ xi x (68 + 2 * s) 2 = nI sz ∧ mi m 107 s = nI sz ∧ ∀ k, k < 60 → xl x (68 + 2 * s + 1) k = ml m 109 (60 * s + k) ∧ (so = 1 → (Int64.toInt32 (ml m 109 (60 * s + k))).toInt64 = ml m 109 (60 * s + k)))
def RShelf (nh : Nat) (x : MX) (m : MM) : Prop := ∀ s, s < 6 → RShelf1 nh x m s
def Rel (x : MX) (m : MM) : Prop := ∃ nl nc ns nh : Nat, RCnt nl nc ns x m ∧ RNum nl nc ns x m ∧ RIn nc x m ∧ RLed x m ∧ RKept nc x m ∧ RHist nl nc ns x m ∧ RTape x m ∧ RLaw x m ∧ RHole nh x m ∧ RShelf nh x m
