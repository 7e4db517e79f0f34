def need (lvl o : Nat) : Nat := (6 - lvl) + 7 * (6 - o) + 1
def dep (lvl o : Nat) : Nat := (5 - lvl) + 5 * (6 - o) + 1
def FrW (h d : Nat) (x x' : MX) : Prop := x'.1 = x.1 ∧ x'.2.2 = x.2.2 ∧ ∀ p q, ¬ (p = h ∧ q = 5) → ¬ (p = h + 3 ∧ d ≤ q) → xi x' p q = xi x p q
theorem FrW.rf (h d : Nat) (x : MX) : FrW h d x x := ⟨rfl, rfl, fun _ _ _ _ => rfl⟩
theorem FrW.tr {h d d' : Nat} {x y z : MX} (a : FrW h d x y) (b : FrW h d' y z) (e : d ≤ d') : FrW h d x z := ⟨b.1.trans a.1, b.2.1.trans a.2.1, fun p q e1 e2 => (b.2.2 p q e1 (fun w => e2 ⟨w.1, by omega⟩)).trans (a.2.2 p q e1 e2)⟩
def NMx (h : Nat) (x : MX) (nm : Nat → Int32) : Prop := ∀ k, k < 6 → xi x (h + 4) k = nm k
def SW (c : List (Int32 × Int32)) (v : (Nat → Int32) → Int32) (D : Nat) : Prop := 1 ≤ D ∧ ∀ (h : Nat) (x : MX) (a i d f S : Nat) (nm : Nat → Int32), CodeAt x h a c → a + c.length ≤ S → S ≤ 121 → i ≤ a → xi x h 4 = nI S → xi x h 5 = nI d → d + D ≤ 40 → NMx h x nm → ∃ x', f_X3_workedOut_9 (f + c.length) h (nI a) (nI i) x = f_X3_workedOut_9 f h (nI (a + c.length)) (nI (i + c.length)) x' ∧ FrW h d x x' ∧ xi x' h 5 = nI (d + 1) ∧ xi x' (h + 3) d = v nm
theorem pushX {h d : Nat} {x : MX} (s : xi x h 5 = nI d) (hd : d < 40) (v : Int32) : f_X3_push h v x = some (xs (xs x (h + 3) d v) h 5 (nI (d + 1))) := by
  have z0 : ¬ nI d < 0 := fun y => by have := (nI_lt6 (c := 0) (by omega) (by decide)).mp y; omega
  have z1 : nI d < 40 := (nI_lt6 (c := 40) (by omega) (by decide)).mpr hd
  have e : xi (xs x (h + 3) d v) h 5 = nI d := by rw [xi_xs, if_neg (by omega), s]
  unfold f_X3_push
  rw [s, if_neg z0, if_pos z1, if_pos (inb_nI (by omega) (by decide)), ix_nI (by omega), letx_s, e, letx_s, nI_1]
theorem popX {h d : Nat} {x : MX} (s : xi x h 5 = nI (d + 1)) (hd : d < 40) : f_X3_pop h x = some (xi x (h + 3) d, xs x h 5 (nI d)) := by
  have z0 : ¬ nI (d + 1) ≤ 0 := fun y => by have := (nI_lec (c := 0) (by omega) (by decide)).mp y; omega
  have z1 : nI (d + 1) ≤ 40 := (nI_lec (c := 40) (by omega) (by decide)).mpr (by omega)
  have e : xi (xs x h 5 (nI d)) h 5 = nI d := by rw [xi_xs, if_pos ⟨rfl, rfl⟩]
  have e2 : xi (xs x h 5 (nI d)) (h + 3) d = xi x (h + 3) d := by rw [xi_xs, if_neg (by omega)]
  unfold f_X3_pop
  rw [s, if_neg z0, if_pos z1, nI_s1 (by omega), letx_s, e, if_pos (inb_nI (by omega) (by decide)), ix_nI (by omega), e2]
/-- one step: what the loop asks first -/
theorem wo1 {h a i S f : Nat} {x : MX} (h4 : xi x h 4 = nI S) (ha : a < S) (hS : S ≤ 121) (hi : i ≤ a) : f_X3_workedOut_9 (f + 1) h (nI a) (nI i) x = (if (xi x (h + 1) a) = 33 then
  ob2 (f_X3_pop h x) (fun r7 x8 =>
  if r7 = 0 then
  B_X3_workedOut_197 (f_X3_workedOut_9 f) h (nI a + 1) (nI i) 1 h x8
  else
  B_X3_workedOut_197 (f_X3_workedOut_9 f) h (nI a + 1) (nI i) 0 h x8)
  else
  if (xi x (h + 1) a) = 48 then
  ob (f_X3_push h (xi x (h + 2) a) x) (fun x14 =>
  B_X3_workedOut_223 (f_X3_workedOut_9 f) h (nI a + 1) (nI i) x14)
  else
  if (xi x (h + 1) a) = 59 then
  ob2 (f_X3_pop h x) (fun r17 x18 =>
  some (r17, x18))
  else
  if (xi x (h + 1) a) = 63 then
  ob2 (f_X3_pop h x) (fun r21 x22 =>
  if r21 = 0 then
  B_X3_workedOut_126 (f_X3_workedOut_9 f) h (nI i) (xi x (h + 2) a) x22
  else
  B_X3_workedOut_126 (f_X3_workedOut_9 f) h (nI i) (nI a + 1) x22)
  else
  if (xi x (h + 1) a) = 97 then
  if (xi x (h + 2) a) < 0 then
  B_X3_workedOut_165 (f_X3_workedOut_9 f) h (nI a + 1) (nI i) h x
  else
  if 6 ≤ (xi x (h + 2) a) then
  B_X3_workedOut_165 (f_X3_workedOut_9 f) h (nI a + 1) (nI i) h x
  else
  if inb (xi x (h + 2) a) 6 = true then
  B_X3_workedOut_166 (f_X3_workedOut_9 f) h (nI a + 1) (nI i) (xi x (h + 4) (ix (xi x (h + 2) a))) h x
  else none
  else
  if (xi x (h + 1) a) = 126 then
  ob2 (f_X3_pop h x) (fun r32 x33 =>
  ob (f_X3_push h (-r32) x33) (fun x35 =>
  B_X3_workedOut_223 (f_X3_workedOut_9 f) h (nI a + 1) (nI i) x35))
  else
  ob2 (f_X3_pop h x) (fun r37 x38 =>
  ob2 (f_X3_pop h x38) (fun r40 x41 =>
  ob (f_X3_joined (xi x (h + 1) a) r40 r37) (fun r43 =>
  ob (f_X3_push h r43 x41) (fun x45 =>
  B_X3_workedOut_223 (f_X3_workedOut_9 f) h (nI a + 1) (nI i) x45))))) := by
  have z0 : ¬ nI S ≤ nI i := fun q => by have := (nI_lec (by omega) (by omega)).mp q; omega
  have z1 : ¬ nI a < 0 := fun y => by have := (nI_lt6 (c := 0) (by omega) (by decide)).mp y; omega
  have z2 : ¬ nI S ≤ nI a := fun q => by have := (nI_lec (by omega) (by omega)).mp q; omega
  show B_X3_workedOut_9 _ _ _ _ _ = _
  unfold B_X3_workedOut_9
  rw [h4, if_neg z0, if_neg z1, if_neg z2, if_pos (inb_nI (by omega) (by decide)), ix_nI (by omega)]
theorem SW_num (k : Int32) : SW [(48, k)] (fun _ => k) 1 := by
  refine ⟨by decide, fun h x a i d f S nm hc hS hS2 hi h4 h5 hd hn => ?_⟩
  rw [CodeAt.one] at hc
  have c1 : xi x (h + 1) a = 48 := hc.1
  have c2 : xi x (h + 2) a = k := hc.2
  refine ⟨xs (xs x (h + 3) d k) h 5 (nI (d + 1)), ?_, ⟨rfl, rfl, fun p q e1 e2 => ?_⟩, ?_, ?_⟩
  · show f_X3_workedOut_9 (f + 1) h (nI a) (nI i) x = f_X3_workedOut_9 f h (nI (a + 1)) (nI (i + 1)) _
    rw [wo1 h4 (show a < S from hS) hS2 hi, c1, if_neg (by decide), if_pos rfl, c2, pushX h5 (by omega), ob_s]
    unfold B_X3_workedOut_223
    rw [nI_1, nI_1]
  · rw [xi_xs, if_neg (by omega), xi_xs, if_neg (by omega)]
  · rw [xi_xs, if_pos ⟨rfl, rfl⟩]
  · rw [xi_xs, if_neg (by omega), xi_xs, if_pos ⟨rfl, rfl⟩]
theorem SW_name {j : Nat} (hj : j < 6) : SW [(97, nI j)] (fun nm => nm j) 1 := by
  refine ⟨by decide, fun h x a i d f S nm hc hS hS2 hi h4 h5 hd hn => ?_⟩
  rw [CodeAt.one] at hc
  have c1 : xi x (h + 1) a = 97 := hc.1
  have c2 : xi x (h + 2) a = nI j := hc.2
  have z0 : ¬ nI j < 0 := fun y => by have := (nI_lt6 (c := 0) (by omega) (by decide)).mp y; omega
  have z1 : ¬ (6 : Int32) ≤ nI j := fun q => by have := (nI_lec (n := 6) (by decide) (by omega)).mp q; omega
  refine ⟨xs (xs x (h + 3) d (nm j)) h 5 (nI (d + 1)), ?_, ⟨rfl, rfl, fun p q e1 e2 => ?_⟩, ?_, ?_⟩
  · show f_X3_workedOut_9 (f + 1) h (nI a) (nI i) x = f_X3_workedOut_9 f h (nI (a + 1)) (nI (i + 1)) _
    rw [wo1 h4 (show a < S from hS) hS2 hi, c1, if_neg (by decide), if_neg (by decide), if_neg (by decide), if_neg (by decide), if_pos rfl, c2, if_neg z0, if_neg z1, if_pos (inb_nI hj (by decide)), ix_nI (by omega), hn j hj]
    unfold B_X3_workedOut_166 B_X3_workedOut_223
    rw [pushX h5 (by omega), ob_s, nI_1, nI_1]
  · rw [xi_xs, if_neg (by omega), xi_xs, if_neg (by omega)]
  · rw [xi_xs, if_pos ⟨rfl, rfl⟩]
  · rw [xi_xs, if_neg (by omega), xi_xs, if_pos ⟨rfl, rfl⟩]
theorem NMx.fr {h d : Nat} {x x' : MX} {nm : Nat → Int32} (hn : NMx h x nm) (f : FrW h d x x') : NMx h x' nm := fun k hk => (f.2.2 _ _ (by omega) (by omega)).trans (hn k hk)
theorem FrW.codeC {h d a : Nat} {x x' : MX} {c : List (Int32 × Int32)} (f : FrW h d x x') (H : CodeAt x h a c) : CodeAt x' h a c :=
  H.cg (fun b _ _ => ⟨f.2.2 _ _ (by omega) (by omega), f.2.2 _ _ (by omega) (by omega)⟩)
theorem SW_not {c : List (Int32 × Int32)} {v : (Nat → Int32) → Int32} {D D' : Nat} (H : SW c v D) (e : D ≤ D') : SW (c ++ [(33, 0)]) (fun nm => if v nm = 0 then 1 else 0) D' := by
  obtain ⟨H1, H2⟩ := H
  refine ⟨by omega, fun h x a i d f S nm hc hS hS2 hi h4 h5 hd hn => ?_⟩
  rw [CodeAt.app, CodeAt.one] at hc
  obtain ⟨c0, c1, c2⟩ := hc
  rw [List.length_append] at hS ⊢
  have hS' : a + (c.length + 1) ≤ S := hS
  obtain ⟨x1, r1, r2, r3, r4⟩ := H2 h x a i d (f + 1) S nm c0 (by omega) hS2 hi h4 h5 (by omega) hn
  have f1 : xi x1 (h + 1) (a + c.length) = 33 := (r2.2.2 _ _ (by omega) (by omega)).trans c1
  have f4 : xi x1 h 4 = nI S := (r2.2.2 _ _ (by omega) (by omega)).trans h4
  have f5 : xi (xs x1 h 5 (nI d)) h 5 = nI d := by rw [xi_xs, if_pos ⟨rfl, rfl⟩]
  refine ⟨xs (xs (xs x1 h 5 (nI d)) (h + 3) d (if v nm = 0 then 1 else 0)) h 5 (nI (d + 1)), ?_, r2.tr (d' := d) ⟨rfl, rfl, fun p q e1 e2 => ?_⟩ (Nat.le_refl _), ?_, ?_⟩
  · show f_X3_workedOut_9 (f + (c.length + 1)) h (nI a) (nI i) x = f_X3_workedOut_9 f h (nI (a + (c.length + 1))) (nI (i + (c.length + 1))) _
    rw [show f + (c.length + 1) = f + 1 + c.length by omega, r1, wo1 f4 (by omega) hS2 (by omega), f1, if_pos rfl, popX r3 (by omega), ob2_s, r4]
    unfold B_X3_workedOut_197 B_X3_workedOut_223
    by_cases z : v nm = 0
    · rw [if_pos z, if_pos z, pushX f5 (by omega), ob_s, nI_1, nI_1]
      rfl
    · rw [if_neg z, if_neg z, pushX f5 (by omega), ob_s, nI_1, nI_1]
      rfl
  · rw [xi_xs, if_neg (by omega), xi_xs, if_neg (by omega), xi_xs, if_neg (by omega)]
  · rw [xi_xs, if_pos ⟨rfl, rfl⟩]
  · rw [xi_xs, if_neg (by omega), xi_xs, if_pos ⟨rfl, rfl⟩]
theorem SW_neg {c : List (Int32 × Int32)} {v : (Nat → Int32) → Int32} {D D' : Nat} (H : SW c v D) (e : D ≤ D') : SW (c ++ [(126, 0)]) (fun nm => -(v nm)) D' := by
  obtain ⟨H1, H2⟩ := H
  refine ⟨by omega, fun h x a i d f S nm hc hS hS2 hi h4 h5 hd hn => ?_⟩
  rw [CodeAt.app, CodeAt.one] at hc
  obtain ⟨c0, c1, c2⟩ := hc
  rw [List.length_append] at hS ⊢
  have hS' : a + (c.length + 1) ≤ S := hS
  obtain ⟨x1, r1, r2, r3, r4⟩ := H2 h x a i d (f + 1) S nm c0 (by omega) hS2 hi h4 h5 (by omega) hn
  have f1 : xi x1 (h + 1) (a + c.length) = 126 := (r2.2.2 _ _ (by omega) (by omega)).trans c1
  have f4 : xi x1 h 4 = nI S := (r2.2.2 _ _ (by omega) (by omega)).trans h4
  have f5 : xi (xs x1 h 5 (nI d)) h 5 = nI d := by rw [xi_xs, if_pos ⟨rfl, rfl⟩]
  refine ⟨xs (xs (xs x1 h 5 (nI d)) (h + 3) d (-(v nm))) h 5 (nI (d + 1)), ?_, r2.tr (d' := d) ⟨rfl, rfl, fun p q e1 e2 => ?_⟩ (Nat.le_refl _), ?_, ?_⟩
  · show f_X3_workedOut_9 (f + (c.length + 1)) h (nI a) (nI i) x = f_X3_workedOut_9 f h (nI (a + (c.length + 1))) (nI (i + (c.length + 1))) _
    rw [show f + (c.length + 1) = f + 1 + c.length by omega, r1, wo1 f4 (by omega) hS2 (by omega), f1, if_neg (by decide), if_neg (by decide), if_neg (by decide), if_neg (by decide), if_neg (by decide), if_pos rfl, popX r3 (by omega), ob2_s, r4]
    unfold B_X3_workedOut_223
    rw [pushX f5 (by omega), ob_s, nI_1, nI_1]
    rfl
  · rw [xi_xs, if_neg (by omega), xi_xs, if_neg (by omega), xi_xs, if_neg (by omega)]
  · rw [xi_xs, if_pos ⟨rfl, rfl⟩]
  · rw [xi_xs, if_neg (by omega), xi_xs, if_pos ⟨rfl, rfl⟩]
def isSg (s : Int32) : Prop := ¬ s = 33 ∧ ¬ s = 48 ∧ ¬ s = 59 ∧ ¬ s = 63 ∧ ¬ s = 97 ∧ ¬ s = 126
theorem SW_bin {c c2 : List (Int32 × Int32)} {v w : (Nat → Int32) → Int32} {D1 D2 D : Nat} {s : Int32} (H : SW c v D1) (H' : SW c2 w D2) (e1 : D1 ≤ D) (e2 : D2 + 1 ≤ D) (hs : isSg s) : SW (c ++ (c2 ++ [(s, 0)])) (fun nm => jn s (v nm) (w nm)) D := by
  obtain ⟨s1, s2, s3, s4, s5, s6⟩ := hs
  obtain ⟨H1, H2⟩ := H
  obtain ⟨K1, K2⟩ := H'
  refine ⟨by omega, fun h x a i d f S nm hc hS hS2 hi h4 h5 hd hn => ?_⟩
  rw [CodeAt.app, CodeAt.app, CodeAt.one] at hc
  obtain ⟨c0, c1, c2', c3⟩ := hc
  rw [List.length_append, List.length_append] at hS ⊢
  have hS' : a + (c.length + (c2.length + 1)) ≤ S := hS
  obtain ⟨x1, r1, r2, r3, r4⟩ := H2 h x a i d (f + 1 + c2.length) S nm c0 (by omega) hS2 hi h4 h5 (by omega) hn
  have g4 : xi x1 h 4 = nI S := (r2.2.2 _ _ (by omega) (by omega)).trans h4
  obtain ⟨x2, q1, q2, q3, q4⟩ := K2 h x1 (a + c.length) (i + c.length) (d + 1) (f + 1) S nm (r2.codeC c1) (by omega) hS2 (by omega) g4 r3 (by omega) (hn.fr r2)
  have f1 : xi x2 (h + 1) (a + c.length + c2.length) = s := ((q2.2.2 _ _ (by omega) (by omega)).trans (r2.2.2 _ _ (by omega) (by omega))).trans c2'
  have f4 : xi x2 h 4 = nI S := (q2.2.2 _ _ (by omega) (by omega)).trans g4
  have f5 : xi (xs x2 h 5 (nI (d + 1))) h 5 = nI (d + 1) := by rw [xi_xs, if_pos ⟨rfl, rfl⟩]
  have f6 : xi (xs x2 h 5 (nI (d + 1))) (h + 3) d = v nm := by rw [xi_xs, if_neg (by omega), q2.2.2 _ _ (by omega) (by omega), r4]
  have f7 : xi (xs (xs x2 h 5 (nI (d + 1))) h 5 (nI d)) h 5 = nI d := by rw [xi_xs, if_pos ⟨rfl, rfl⟩]
  refine ⟨xs (xs (xs (xs x2 h 5 (nI (d + 1))) h 5 (nI d)) (h + 3) d (jn s (v nm) (w nm))) h 5 (nI (d + 1)), ?_, (r2.tr q2 (by omega)).tr (d' := d) ⟨rfl, rfl, fun p q e1 e2 => ?_⟩ (Nat.le_refl _), ?_, ?_⟩
  · show f_X3_workedOut_9 (f + (c.length + (c2.length + 1))) h (nI a) (nI i) x = f_X3_workedOut_9 f h (nI (a + (c.length + (c2.length + 1)))) (nI (i + (c.length + (c2.length + 1)))) _
    rw [show f + (c.length + (c2.length + 1)) = f + 1 + c2.length + c.length by omega, r1, q1, wo1 f4 (by omega) hS2 (by omega), f1, if_neg s1, if_neg s2, if_neg s3, if_neg s4, if_neg s5, if_neg s6, popX q3 (by omega), ob2_s, popX f5 (by omega), ob2_s, f6, q4, jn_eq, ob_s]
    unfold B_X3_workedOut_223
    rw [pushX f7 (by omega), ob_s, nI_1, nI_1, show a + c.length + c2.length + 1 = a + (c.length + (c2.length + 1)) by omega, show i + c.length + c2.length + 1 = i + (c.length + (c2.length + 1)) by omega]
  · rw [xi_xs, if_neg (by omega), xi_xs, if_neg (by omega), xi_xs, if_neg (by omega), xi_xs, if_neg (by omega)]
  · rw [xi_xs, if_pos ⟨rfl, rfl⟩]
  · rw [xi_xs, if_neg (by omega), xi_xs, if_pos ⟨rfl, rfl⟩]
theorem SW.mono {c : List (Int32 × Int32)} {v : (Nat → Int32) → Int32} {D D' : Nat} (H : SW c v D) (e : D ≤ D') : SW c v D' :=
  ⟨by have := H.1; omega, fun h x a i d f S nm hc hS hS2 hi h4 h5 hd hn => H.2 h x a i d f S nm hc hS hS2 hi h4 h5 (by omega) hn⟩
theorem sg_lev {c : Int32} {l : Nat} (hl : l < 5) (h : f_X3_levelOf c = nI l) : isSg c ∧ f_X3_isDigit c = false := by
  have key : c = 37 ∨ c = 38 ∨ c = 42 ∨ c = 43 ∨ c = 45 ∨ c = 47 ∨ c = 60 ∨ c = 61 ∨ c = 62 ∨ c = 124 := by
    match l, hl with
    | 0, _ => simp [(lev_0 c).mp h]
    | 1, _ => simp [(lev_1 c).mp h]
    | 2, _ => rcases (lev_2 c).mp h with e | e | e <;> simp [e]
    | 3, _ => rcases (lev_3 c).mp h with e | e <;> simp [e]
    | 4, _ => rcases (lev_4 c).mp h with e | e | e <;> simp [e]
  rcases key with e | e | e | e | e | e | e | e | e | e <;> (subst e; unfold isSg; decide)
