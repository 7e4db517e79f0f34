theorem RCnt.cg {nl nc ns : Nat} {x x' : MX} {m m' : MM} (h : RCnt nl nc ns x m) (a : xi x' 5 12 = xi x 5 12) (b : xi x' 5 13 = xi x 5 13) (c : xi x' 5 14 = xi x 5 14) (d : mi m' 80 0 = mi m 80 0) (e : mi m' 80 1 = mi m 80 1) (f : mi m' 80 2 = mi m 80 2) : RCnt nl nc ns x' m' := by
  unfold RCnt at *
  rw [a, b, c, d, e, f]
  exact h
theorem RNum.cg {nl nc ns : Nat} {x x' : MX} {m m' : MM} (h : RNum nl nc ns x m) (a : ∀ w k, w < 13 → k < nsz w → xi x' (7 + w) k = xi x (7 + w) k) (b : ∀ w k, w < 13 → mnum m' w k = mnum m w k) : RNum nl nc ns x' m' := by
  refine ⟨fun w k hw hk => ?_, fun w k hw hk => ?_⟩
  · rw [a w k hw hk, b w k hw]
    exact h.1 w k hw hk
  · rw [b w k hw]
    exact h.2 w k hw hk
theorem RIn.cg {nc : Nat} {x x' : MX} {m m' : MM} (h : RIn nc x m) (a : ∀ k, xi x' 26 k = xi x 26 k) (b : ∀ k, mi m' 87 k = mi m 87 k) : RIn nc x' m' := by
  refine ⟨fun k hk => ?_, fun k h1 h2 => ?_⟩
  · rw [a, b]; exact h.1 k hk
  · rw [a]; exact h.2 k h1 h2
theorem RLed.cg {x x' : MX} {m m' : MM} (h : RLed x m) (a : ∀ k, xi x' 27 k = xi x 27 k) (b : mi m' 80 37 = mi m 80 37) (c : mi m' 80 38 = mi m 80 38) (d : mi m' 80 39 = mi m 80 39) (e : mi m' 80 40 = mi m 80 40) : RLed x' m' := by
  unfold RLed at *
  rw [a, a, a, a, b, c, d, e]
  exact h
theorem RKept.cg {nc : Nat} {x x' : MX} {m m' : MM} (h : RKept nc x m) (a : mi m' 80 42 = mi m 80 42) (b : xi x' 5 15 = xi x 5 15) (c : ∀ k, xi x' 29 k = xi x 29 k) (d : ∀ k, xi x' 30 k = xi x 30 k) (e : ∀ k, xi x' 31 k = xi x 31 k) (f : ∀ k, mi m' 102 k = mi m 102 k) : RKept nc x' m' := by
  unfold RKept at *
  simp only [a, b, c, d, e, f]
  exact h
theorem RKept.mono {nc nc' : Nat} {x : MX} {m : MM} (h : RKept nc x m) (e : nc ≤ nc') : RKept nc' x m := by
  rcases h with h | ⟨kc, h1, h2⟩
  · exact Or.inl h
  · exact Or.inr ⟨kc, by omega, h2⟩
theorem RHist.cg {nl nc ns : Nat} {x x' : MX} {m m' : MM} (h : RHist nl nc ns x m) (a : xi x' 20 4 = xi x 20 4) (b : xi x' 20 5 = xi x 20 5) (c : mi m' 80 28 = mi m 80 28) (d : mi m' 80 29 = mi m 80 29) (e : ∀ k, xi x' 21 k = xi x 21 k) (f : ∀ k, xi x' 22 k = xi x 22 k) (g : ∀ k, xi x' 23 k = xi x 23 k) (i : ∀ k, xi x' 24 k = xi x 24 k) (j : ∀ k, mi m' 95 k = mi m 95 k) (l : ∀ k, mi m' 96 k = mi m 96 k) (o : ∀ k, mi m' 97 k = mi m 97 k) (p : ∀ k, mi m' 98 k = mi m 98 k) : RHist nl nc ns x' m' := by
  unfold RHist at *
  simp only [a, b, c, d, e, f, g, i, j, l, o, p]
  exact h
theorem hol_mono {a b c a' b' c' w : Nat} (h1 : a ≤ a') (h2 : b ≤ b') (h3 : c ≤ c') : hol a b c w ≤ hol a' b' c' w := by
  unfold hol
  split
  · exact h1
  · split
    · exact h2
    · split
      · exact Nat.le_refl _
      · split
        · exact Nat.le_refl _
        · exact h3
theorem RHist.mono {a b c a' b' c' : Nat} {x : MX} {m : MM} (h : RHist a b c x m) (h1 : a ≤ a') (h2 : b ≤ b') (h3 : c ≤ c') : RHist a' b' c' x m := by
  obtain ⟨md, al, e1, e2, e3, e4, e5, e6, e7⟩ := h
  refine ⟨md, al, e1, e2, e3, e4, e5, e6, fun k hk => ?_⟩
  obtain ⟨n, w, f1, f2, f3⟩ := e7 k hk
  exact ⟨n, w, f1, Nat.lt_of_lt_of_le f2 (hol_mono h1 h2 h3), f3⟩
theorem RTape.cg {x x' : MX} {m m' : MM} (h : RTape x m) (a : x'.1 = x.1) (b : xi x' x.1.2 8 = xi x x.1.2 8) (b2 : xi x' x.1.1 8 = xi x x.1.1 8) (c : ∀ k, xi x' (x.1.2 + 5) k = xi x (x.1.2 + 5) k) (d : mi m' 80 5 = mi m 80 5) (e : ∀ k, mi m' 93 k = mi m 93 k) : RTape x' m' := by
  unfold RTape at *
  rw [a]
  simp only [b, b2, c, d, e]
  exact h
theorem LawSem.cg {x x' : MX} {m m' : MM} (h : LawSem x m) (hx : lawX x x') (hm : lawM m m') : LawSem x' m' := by
  obtain ⟨F, h1, h2⟩ := h
  obtain ⟨x1, x2, x3⟩ := hx
  refine ⟨F, fun y h l o s n c hy => ?_, fun y h l o s n c hy => ?_⟩
  · obtain ⟨y1, y2, y3⟩ := hy
    rw [x1] at y1 y2 y3 ⊢
    exact h1 y h l o s n c ⟨y1, y2.trans x2, fun k => ⟨(y3 k).1.trans (x3 k).1, (y3 k).2.trans (x3 k).2⟩⟩
  · exact h2 y h l o s n c ⟨hy.1.trans hm.1, fun k => (hy.2 k).trans (hm.2 k)⟩
theorem RLaw.cg {x x' : MX} {m m' : MM} (h : RLaw x m) (hx : lawX x x') (hm : lawM m m') (a : mi m' 80 9 = mi m 80 9) : RLaw x' m' := by
  rcases h with ⟨h1, h2⟩ | ⟨h1, h2, h3⟩
  · refine Or.inl ⟨a.trans h1, ?_⟩
    rw [hx.1, hx.2.1]; exact h2
  · refine Or.inr ⟨a.trans h1, ?_, h3.cg hx hm⟩
    rw [hx.1, hx.2.1]; exact h2
theorem RHole.cg {nh : Nat} {x x' : MX} {m m' : MM} (h : RHole nh x m) (a : ∀ k, 2 ≤ k → k ≤ 3 → xi x' 51 k = xi x 51 k) (b : ∀ k, xi x' 52 k = xi x 52 k) (c : ∀ k, xi x' 53 k = xi x 53 k) (d : mi m' 80 8 = mi m 80 8) (e : mi m' 80 7 = mi m 80 7) (f : ∀ k, mi m' 103 k = mi m 103 k) (g : ∀ k, mi m' 104 k = mi m 104 k) : RHole nh x' m' := by
  unfold RHole at *
  simp only [a 2 (by omega) (by omega), a 3 (by omega) (by omega), b, c, d, e, f, g]
  exact h
theorem RShelf1.cg {nh s : Nat} {x x' : MX} {m m' : MM} (h : RShelf1 nh x m s) (a : ∀ k, xi x' (68 + 2 * s) k = xi x (68 + 2 * s) k) (b : ∀ k, xl x' (68 + 2 * s + 1) k = xl x (68 + 2 * s + 1) k) (c : mi m' 105 s = mi m 105 s) (d : mi m' 106 s = mi m 106 s) (e : mi m' 107 s = mi m 107 s) (f : mi m' 108 s = mi m 108 s) (g : ∀ k, k < 60 → ml m' 109 (60 * s + k) = ml m 109 (60 * s + k)) : RShelf1 nh x' m' s := by
  unfold RShelf1 at *
  simp only [a, b, c, d, e, f]
  rcases h with h | h | ⟨h1, so, sz, h2, h3, h4, h5, h6, h7, h8⟩
  · exact Or.inl h
  · exact Or.inr (Or.inl h)
  · refine Or.inr (Or.inr ⟨h1, so, sz, h2, h3, h4, h5, h6, h7, fun k hk => ?_⟩)
    rw [g k hk]
    exact h8 k hk
theorem RShelf1.mono {nh nh' s : Nat} {x : MX} {m : MM} (h : RShelf1 nh x m s) (e : nh ≤ nh') : RShelf1 nh' x m s := by
  rcases h with h | ⟨h1, h2, q, h3, h4⟩ | h
  · exact Or.inl h
  · exact Or.inr (Or.inl ⟨h1, h2, q, by omega, h4⟩)
  · exact Or.inr (Or.inr h)
theorem RShelf.cg {nh : Nat} {x x' : MX} {m m' : MM} (h : RShelf nh x m) (a : ∀ s k, s < 6 → xi x' (68 + 2 * s) k = xi x (68 + 2 * s) k) (b : ∀ s k, s < 6 → xl x' (68 + 2 * s + 1) k = xl x (68 + 2 * s + 1) k) (c : ∀ s, mi m' 105 s = mi m 105 s) (d : ∀ s, mi m' 106 s = mi m 106 s) (e : ∀ s, mi m' 107 s = mi m 107 s) (f : ∀ s, mi m' 108 s = mi m 108 s) (g : ∀ k, ml m' 109 k = ml m 109 k) : RShelf nh x' m' :=
  fun s hs => (h s hs).cg (fun k => a s k hs) (fun k => b s k hs) (c s) (d s) (e s) (f s) (fun _ _ => g _)
theorem scrX_num {w : Nat} (h : w < 13) (k : Nat) : scrX (7 + w) k = false := by
  match w, h with
  | 0, _ | 1, _ | 2, _ | 3, _ | 4, _ | 5, _ | 6, _ | 7, _ | 8, _ | 9, _ | 10, _ | 11, _ | 12, _ => rfl
theorem scrX_sh {s : Nat} (h : s < 6) (k : Nat) : scrX (68 + 2 * s) k = false := by
  match s, h with
  | 0, _ | 1, _ | 2, _ | 3, _ | 4, _ | 5, _ => rfl
theorem SameM.mnum {m m' : MM} (h : SameM m m') (w k : Nat) : mnum m' w k = mnum m w k := by
  match w with
  | 0 | 1 | 2 | 3 | 4 | 5 | 6 | 7 | 8 | 9 | 10 | 11 => exact h.2 _ _ rfl
  | _ + 12 => exact h.2 _ _ rfl
theorem SameX.law {x x' : MX} (h : SameX x x') (hl : isLaw x.1.1) : lawX x x' := by
  refine ⟨by rw [h.1], ?_, fun k => ?_⟩
  · rcases hl with e | e <;> rw [e] <;> exact h.2.2 _ _ rfl
  · rcases hl with e | e <;> rw [e] <;> exact ⟨h.2.2 _ _ rfl, h.2.2 _ _ rfl⟩
theorem SameM.law {m m' : MM} (h : SameM m m') : lawM m m' := ⟨h.2 _ _ rfl, fun _ => h.2 _ _ rfl⟩
theorem Rel.same {x x' : MX} {m m' : MM} (h : Rel x m) (hx : SameX x x') (hm : SameM m m') : Rel x' m' := by
  obtain ⟨nl, nc, ns, nh, h1, h2, h3, h4, h5, h6, h7, h8, h9, h10⟩ := h
  have X : ∀ h k, scrX h k = false → xi x' h k = xi x h k := hx.2.2
  have M : ∀ h k, scrM h k = false → mi m' h k = mi m h k := hm.2
  refine ⟨nl, nc, ns, nh, ?_, ?_, ?_, ?_, ?_, ?_, ?_, ?_, ?_, ?_⟩
  · exact h1.cg (X _ _ rfl) (X _ _ rfl) (X _ _ rfl) (M _ _ rfl) (M _ _ rfl) (M _ _ rfl)
  · exact h2.cg (fun w k hw _ => X _ _ (scrX_num hw k)) (fun w k _ => hm.mnum w k)
  · exact h3.cg (fun k => X _ _ rfl) (fun k => M _ _ rfl)
  · exact h4.cg (fun k => X _ _ rfl) (M _ _ rfl) (M _ _ rfl) (M _ _ rfl) (M _ _ rfl)
  · exact h5.cg (M _ _ rfl) (X _ _ rfl) (fun k => X _ _ rfl) (fun k => X _ _ rfl) (fun k => X _ _ rfl) (fun k => M _ _ rfl)
  · exact h6.cg (X _ _ rfl) (X _ _ rfl) (M _ _ rfl) (M _ _ rfl) (fun k => X _ _ rfl) (fun k => X _ _ rfl) (fun k => X _ _ rfl) (fun k => X _ _ rfl) (fun k => M _ _ rfl) (fun k => M _ _ rfl) (fun k => M _ _ rfl) (fun k => M _ _ rfl)
  · refine h7.cg hx.1 ?_ ?_ (fun k => ?_) (M _ _ rfl) (fun k => M _ _ rfl)
    · rcases h7.2.1 with e | e <;> rw [e] <;> exact X _ _ rfl
    · rcases h7.1 with e | e <;> rw [e] <;> exact X _ _ rfl
    · rcases h7.2.1 with e | e <;> rw [e] <;> exact X _ _ rfl
  · exact h8.cg (hx.law h7.1) hm.law (M _ _ rfl)
  · exact h9.cg (fun k _ _ => X _ _ rfl) (fun k => X _ _ rfl) (fun k => X _ _ rfl) (M _ _ rfl) (M _ _ rfl) (fun k => M _ _ rfl) (fun k => M _ _ rfl)
  · refine h10.cg (fun s k hs => X _ _ (scrX_sh hs k)) (fun s k _ => ?_) (fun k => M _ _ rfl) (fun k => M _ _ rfl) (fun k => M _ _ rfl) (fun k => M _ _ rfl) (fun k => hm.1 _ _ (by decide))
    unfold xl
    rw [hx.2.1]
