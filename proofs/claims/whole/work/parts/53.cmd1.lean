theorem ob_s {α β : Type} (a : α) (f : α → Option β) : ob (some a) f = f a := rfl
theorem ob2_s {α β γ : Type} (a : α) (b : β) (f : α → β → Option γ) : ob2 (some (a, b)) f = f a b := rfl
theorem letx_s {α β : Type} (a : α) (f : α → β) : letx a f = f a := rfl
theorem isIn_eq {v a b : Int32} : f_X9_isIn v a b = decide (a.toInt ≤ v.toInt ∧ v.toInt ≤ b.toInt) := by
  rw [Bool.eq_iff_iff, isIn_iff, decide_eq_true_iff]
def mrow (w : Nat) : Nat := match w with
  | 0 => 81 | 1 => 82 | 2 => 83 | 3 => 84 | 4 => 85 | 5 => 86 | 6 => 88 | 7 => 89 | 8 => 90 | 11 => 91 | _ => 92
theorem mnum_up {w0 : Nat} (hw0 : w0 < 13) (h9 : w0 ≠ 9) (h10 : w0 ≠ 10) {w k k0 : Nat} {v : Int32} {m : MM} (hw : w < 13) : mnum (ms m (mrow w0) k0 v) w k = if w = w0 ∧ k = k0 then v else mnum m w k := by
  match w0, hw0, h9, h10 with
  | 0, _, _, _ | 1, _, _, _ | 2, _, _, _ | 3, _, _, _ | 4, _, _, _ | 5, _, _, _ | 6, _, _, _ | 7, _, _, _ | 8, _, _, _ | 11, _, _, _ | 12, _, _, _ =>
    match w, hw with
    | 0, _ | 1, _ | 2, _ | 3, _ | 4, _ | 5, _ | 6, _ | 7, _ | 8, _ | 9, _ | 10, _ | 11, _ | 12, _ => simp [mnum, mrow, mi_ms]
  | 9, _, h, _ => exact absurd rfl h
  | 10, _, _, h => exact absurd rfl h
theorem mnum_ne {h k0 : Nat} {v : Int32} {m : MM} {w k : Nat} (hw : w < 13) (hh : h = 80 ∧ k0 ≠ 3 ∧ k0 ≠ 4 ∨ h = 87 ∨ 93 ≤ h) : mnum (ms m h k0 v) w k = mnum m w k := by
  match w, hw with
  | 0, _ | 1, _ | 2, _ | 3, _ | 4, _ | 5, _ | 6, _ | 7, _ | 8, _ | 9, _ | 10, _ | 11, _ | 12, _ =>
    simp only [mnum, mi_ms]
    rw [if_neg (by omega)]
theorem xnum_up {w0 w k k0 : Nat} {v : Int32} {x : MX} : xi (xs x (7 + w0) k0 v) (7 + w) k = if w = w0 ∧ k = k0 then v else xi x (7 + w) k := by
  rw [xi_xs]
  by_cases e : w = w0
  · subst e; simp
  · rw [if_neg (by omega), if_neg (by omega)]
theorem RNum.up {nl nc ns w0 k0 : Nat} {v : Int32} {x x' : MX} {m m' : MM} (h : RNum nl nc ns x m) (hw0 : w0 < 13) (hx : ∀ w k, w < 13 → k < nsz w → xi x' (7 + w) k = if w = w0 ∧ k = k0 then v else xi x (7 + w) k) (hm : ∀ w k, w < 13 → k < nsz w → mnum m' w k = if w = w0 ∧ k = k0 then v else mnum m w k) (h0 : 0 ≤ v.toInt) (h1 : v.toInt ≤ hiN w0) (hlo : loN w0 ≤ v.toInt) (hs : ∀ w k, w < 13 → k < hol nl nc ns w → k < nsz w) : RNum nl nc ns x' m' := by
  refine ⟨fun w k hw hk => ?_, fun w k hw hk => ?_⟩
  · rw [hx w k hw hk, hm w k hw hk]
    split
    · rename_i e; obtain ⟨rfl, rfl⟩ := e; exact ⟨rfl, h0, h1⟩
    · exact h.1 w k hw hk
  · rw [hm w k hw (hs w k hw hk)]
    split
    · rename_i e; obtain ⟨rfl, rfl⟩ := e; exact hlo
    · exact h.2 w k hw hk
theorem hol_sz {nl nc ns w k : Nat} (h1 : nl ≤ 6) (h2 : nc ≤ 6) (h3 : ns ≤ 8) (h : k < hol nl nc ns w) : k < nsz w := by
  unfold hol at h
  unfold nsz
  split at h
  · rw [if_pos (by omega)]; omega
  · split at h
    · rw [if_pos (by omega)]; omega
    · rw [if_neg (by omega)]
      split at h
      · rw [if_pos (by omega)]; omega
      · rw [if_neg (by omega)]
        split at h
        · rw [if_pos (by omega)]; omega
        · rw [if_neg (by omega)]; omega
theorem RNum.grow {nl nc ns nl' nc' ns' : Nat} {x : MX} {m : MM} (h : RNum nl nc ns x m) (hg : ∀ w k, w < 13 → hol nl nc ns w ≤ k → k < hol nl' nc' ns' w → loN w ≤ (mnum m w k).toInt) : RNum nl' nc' ns' x m := by
  refine ⟨h.1, fun w k hw hk => ?_⟩
  by_cases e : k < hol nl nc ns w
  · exact h.2 w k hw e
  · exact hg w k hw (by omega) hk
/-- both memories change one cell each, of no account to numbers -/
theorem RNum.xs {nl nc ns h k0 : Nat} {v : Int32} {x : MX} {m : MM} (H : RNum nl nc ns x m) (hh : h < 7 ∨ 19 < h) : RNum nl nc ns (xs x h k0 v) m := by
  refine H.cg (fun w k hw _ => ?_) (fun _ _ _ => rfl)
  rw [xi_xs, if_neg (by omega)]
theorem RNum.ms {nl nc ns h k0 : Nat} {v : Int32} {x : MX} {m : MM} (H : RNum nl nc ns x m) (hh : h = 80 ∧ k0 ≠ 3 ∧ k0 ≠ 4 ∨ h = 87 ∨ 93 ≤ h) : RNum nl nc ns x (ms m h k0 v) :=
  H.cg (fun _ _ _ _ => rfl) (fun w k hw => mnum_ne hw hh)
theorem nI_lt6 {n c : Nat} (hn : n < 2147483648) (hc : c < 2147483648) : nI n < nI c ↔ n < c := by
  rw [i_lt, nI_int hn, nI_int hc]; omega
theorem nI_eqc {n c : Nat} (hn : n < 2147483648) (hc : c < 2147483648) : nI n = nI c ↔ n = c := by
  rw [i_eq, nI_int hn, nI_int hc]; omega
theorem nI_lec {n c : Nat} (hn : n < 2147483648) (hc : c < 2147483648) : nI n ≤ nI c ↔ n ≤ c := by
  rw [i_le, nI_int hn, nI_int hc]; omega
theorem law_xs {x : MX} {h k : Nat} {v : Int32} (hl : isLaw x.1.1) (hh : h < 56 ∨ 67 < h) : lawX x (xs x h k v) := by
  refine ⟨rfl, ?_, fun i => ?_⟩
  · rcases hl with e | e <;> rw [e, xi_xs, if_neg (by omega)]
  · rcases hl with e | e <;> rw [e, xi_xs, xi_xs, if_neg (by omega), if_neg (by omega)] <;> exact ⟨rfl, rfl⟩
theorem lawX.tr {x y z : MX} (h : lawX x y) (g : lawX y z) : lawX x z := by
  obtain ⟨h1, h2, h3⟩ := h
  obtain ⟨g1, g2, g3⟩ := g
  rw [h1] at g1 g2 g3
  exact ⟨g1, g2.trans h2, fun k => ⟨(g3 k).1.trans (h3 k).1, (g3 k).2.trans (h3 k).2⟩⟩
theorem law_ms {m : MM} {h k : Nat} {v : Int32} (hh : h ≠ 94) (h6 : h = 80 → k ≠ 6) : lawM m (ms m h k v) := by
  refine ⟨?_, fun i => ?_⟩
  · rw [mi_ms, if_neg (by intro q; exact h6 q.1.symm q.2.symm)]
  · rw [mi_ms, if_neg (by omega)]
theorem lawM.tr {x y z : MM} (h : lawM x y) (g : lawM y z) : lawM x z := ⟨g.1.trans h.1, fun k => (g.2 k).trans (h.2 k)⟩
theorem cmd_link {x : MX} {m : MM} (a b : Int32) (h : Rel x m) : ∃ r x' m', f_X8_link a b x = some (r, x') ∧ f_X9_link a b m = some (r, m') ∧ Rel x' m' := by
  have hR := h
  obtain ⟨nl, nc, ns, nh, h1, h2, h3, h4, h5, h6, h7, h8, h9, h10⟩ := h
  obtain ⟨⟨a1, a2, a3⟩, ⟨b1, b2, b3⟩, l1, l2, l3⟩ := id h1
  have e0 : f_X8_canBe 0 a = some (decide (1 ≤ a.toInt ∧ a.toInt ≤ 9)) := canBe_eq (w := 0) (by decide)
  have e1 : f_X8_canBe 1 b = some (decide (0 ≤ b.toInt ∧ b.toInt ≤ 9)) := canBe_eq (w := 1) (by decide)
  have k0 : f_X9_isIn a 1 9 = decide (1 ≤ a.toInt ∧ a.toInt ≤ 9) := by rw [isIn_eq]; rfl
  have k1 : f_X9_isIn b 0 9 = decide (0 ≤ b.toInt ∧ b.toInt ≤ 9) := by rw [isIn_eq]; rfl
  by_cases c1 : 1 ≤ a.toInt ∧ a.toInt ≤ 9
  · by_cases c2 : 0 ≤ b.toInt ∧ b.toInt ≤ 9
    · by_cases c3 : nl < 6
      · have q1 : nI nl < 6 := (nI_lt6 (c := 6) (by omega) (by decide)).mpr c3
        have q2 : ¬ nI nl = 6 := fun q => by have := (nI_eqc (c := 6) (by omega) (by decide)).mp q; omega
        have i8 : inb (nI nl) 8 = true := inb_nI (by omega) (by decide)
        have i6 : inb (nI nl) 6 = true := inb_nI (by omega) (by decide)
        have j0 : ix (nI nl) = nl := ix_nI (by omega)
        have E1 : f_X8_link a b x = some (nI nl, xs (xs (xs x 7 nl a) 8 nl b) 5 12 (nI (nl + 1))) := by
          simp [f_X8_link, e0, e1, c1, c2, ob_s, letx_s, a1, q1, i8, j0, xi_xs, nI_1]
        have E2 : f_X9_link a b m = some (nI nl, ms (ms (ms m 81 nl a) 82 nl b) 80 0 (nI (nl + 1))) := by
          simp [f_X9_link, k0, k1, c1, c2, letx_s, b1, q2, i6, j0, mi_ms, nI_1]
        refine ⟨_, _, _, E1, E2, nl + 1, nc, ns, nh, ?_, ?_, ?_, ?_, ?_, ?_, ?_, ?_, ?_, ?_⟩
        · exact ⟨⟨by simp [xi_xs], by simp [xi_xs, a2], by simp [xi_xs, a3]⟩, ⟨by simp [mi_ms], by simp [mi_ms, b2], by simp [mi_ms, b3]⟩, by omega, l2, l3⟩
        · have g1 : RNum nl nc ns (xs x 7 nl a) (ms m 81 nl a) := h2.up (w0 := 0) (k0 := nl) (v := a) (by decide) (fun w k _ _ => xnum_up (w0 := 0)) (fun w k hw _ => mnum_up (w0 := 0) (by decide) (by decide) (by decide) hw) (by omega) (by show _ ≤ (9 : Int); omega) (by show (1 : Int) ≤ _; omega) (fun w k _ q => hol_sz l1 l2 l3 q)
          have g2 : RNum nl nc ns (xs (xs x 7 nl a) 8 nl b) (ms (ms m 81 nl a) 82 nl b) := g1.up (w0 := 1) (k0 := nl) (v := b) (by decide) (fun w k _ _ => xnum_up (w0 := 1)) (fun w k hw _ => mnum_up (w0 := 1) (by decide) (by decide) (by decide) hw) (by omega) (by show _ ≤ (9 : Int); omega) (by show (0 : Int) ≤ _; omega) (fun w k _ q => hol_sz l1 l2 l3 q)
          refine ((g2.grow (fun w k hw q1 q2 => ?_)).xs (Or.inl (by decide))).ms (Or.inl ⟨rfl, by decide, by decide⟩)
          have hw2 : w ≤ 1 := by
            unfold hol at q1 q2
            by_cases z : w ≤ 1
            · exact z
            · rw [if_neg z] at q1 q2
              omega
          have hk : k = nl := by
            unfold hol at q1 q2
            rw [if_pos hw2] at q1 q2
            omega
          subst hk
          match w, hw2 with
          | 0, _ => show (1 : Int) ≤ (mi _ 81 k).toInt; simp [mi_ms]; omega
          | 1, _ => show (0 : Int) ≤ (mi _ 82 k).toInt; simp [mi_ms]; omega
        · exact h3.cg (fun k => by simp [xi_xs]) (fun k => by simp [mi_ms])
        · exact h4.cg (fun k => by simp [xi_xs]) (by simp [mi_ms]) (by simp [mi_ms]) (by simp [mi_ms]) (by simp [mi_ms])
        · exact h5.cg (by simp [mi_ms]) (by simp [xi_xs]) (fun k => by simp [xi_xs]) (fun k => by simp [xi_xs]) (fun k => by simp [xi_xs]) (fun k => by simp [mi_ms])
        · exact (h6.mono (by omega : nl ≤ nl + 1) (Nat.le_refl _) (Nat.le_refl _)).cg (by simp [xi_xs]) (by simp [xi_xs]) (by simp [mi_ms]) (by simp [mi_ms]) (fun k => by simp [xi_xs]) (fun k => by simp [xi_xs]) (fun k => by simp [xi_xs]) (fun k => by simp [xi_xs]) (fun k => by simp [mi_ms]) (fun k => by simp [mi_ms]) (fun k => by simp [mi_ms]) (fun k => by simp [mi_ms])
        · refine h7.cg rfl ?_ ?_ (fun k => ?_) (by simp [mi_ms]) (fun k => by simp [mi_ms])
          · rcases h7.2.1 with e | e <;> rw [e] <;> simp [xi_xs]
          · rcases h7.1 with e | e <;> rw [e] <;> simp [xi_xs]
          · rcases h7.2.1 with e | e <;> rw [e] <;> simp [xi_xs]
        · exact h8.cg (((law_xs h7.1 (by decide)).tr (law_xs h7.1 (by decide))).tr (law_xs h7.1 (by decide))) (((law_ms (by decide) (by omega)).tr (law_ms (by decide) (by omega))).tr (law_ms (by decide) (by omega))) (by simp [mi_ms])
        · exact h9.cg (fun k _ _ => by simp [xi_xs]) (fun k => by simp [xi_xs]) (fun k => by simp [xi_xs]) (by simp [mi_ms]) (by simp [mi_ms]) (fun k => by simp [mi_ms]) (fun k => by simp [mi_ms])
        · exact h10.cg (fun s k hs => by rw [xi_xs, if_neg (by omega), xi_xs, if_neg (by omega), xi_xs, if_neg (by omega)]) (fun s k _ => rfl) (fun k => by simp [mi_ms]) (fun k => by simp [mi_ms]) (fun k => by simp [mi_ms]) (fun k => by simp [mi_ms]) (fun k => rfl)
      · have q1 : ¬ nI nl < 6 := fun q => c3 ((nI_lt6 (c := 6) (by omega) (by decide)).mp q)
        have q2 : nI nl = 6 := (nI_eqc (c := 6) (by omega) (by decide)).mpr (by omega)
        exact ⟨-3, x, m, by simp [f_X8_link, e0, e1, c1, c2, ob_s, a1, q1], by simp [f_X9_link, k0, k1, c1, c2, b1, q2], hR⟩
    · exact ⟨-1, x, m, by simp only [f_X8_link, e0, e1, ob_s, decide_eq_true c1, decide_eq_false c2]; rfl, by simp only [f_X9_link, k0, k1, decide_eq_true c1, decide_eq_false c2]; rfl, hR⟩
  · exact ⟨-1, x, m, by simp only [f_X8_link, e0, ob_s, decide_eq_false c1]; rfl, by simp only [f_X9_link, k0, decide_eq_false c1]; rfl, hR⟩
theorem cmd_spot {x : MX} {m : MM} (a b : Int32) (h : Rel x m) : ∃ r x' m', f_X8_spot a b x = some (r, x') ∧ f_X9_spot a b m = some (r, m') ∧ Rel x' m' := by
  have hR := h
  obtain ⟨nl, nc, ns, nh, h1, h2, h3, h4, h5, h6, h7, h8, h9, h10⟩ := h
  obtain ⟨⟨a1, a2, a3⟩, ⟨b1, b2, b3⟩, l1, l2, l3⟩ := id h1
  have e0 : f_X8_canBe 11 a = some (decide (1 ≤ a.toInt ∧ a.toInt ≤ 99)) := canBe_eq (w := 11) (by decide)
  have e1 : f_X8_canBe 12 b = some (decide (1 ≤ b.toInt ∧ b.toInt ≤ 99)) := canBe_eq (w := 12) (by decide)
  have k0 : f_X9_isIn a 1 99 = decide (1 ≤ a.toInt ∧ a.toInt ≤ 99) := by rw [isIn_eq]; rfl
  have k1 : f_X9_isIn b 1 99 = decide (1 ≤ b.toInt ∧ b.toInt ≤ 99) := by rw [isIn_eq]; rfl
  by_cases c1 : 1 ≤ a.toInt ∧ a.toInt ≤ 99
  · by_cases c2 : 1 ≤ b.toInt ∧ b.toInt ≤ 99
    · by_cases c3 : ns < 8
      · have q1 : nI ns < 8 := (nI_lt6 (c := 8) (by omega) (by decide)).mpr c3
        have q2 : ¬ nI ns = 8 := fun q => by have := (nI_eqc (c := 8) (by omega) (by decide)).mp q; omega
        have i8 : inb (nI ns) 8 = true := inb_nI (by omega) (by decide)
        have j0 : ix (nI ns) = ns := ix_nI (by omega)
        have E1 : f_X8_spot a b x = some (nI ns, xs (xs (xs x 18 ns a) 19 ns b) 5 14 (nI (ns + 1))) := by
          simp [f_X8_spot, e0, e1, c1, c2, ob_s, letx_s, a3, q1, i8, j0, xi_xs, nI_1]
        have E2 : f_X9_spot a b m = some (nI ns, ms (ms (ms m 91 ns a) 92 ns b) 80 2 (nI (ns + 1))) := by
          simp [f_X9_spot, k0, k1, c1, c2, letx_s, b3, q2, i8, j0, mi_ms, nI_1]
        refine ⟨_, _, _, E1, E2, nl, nc, ns + 1, nh, ?_, ?_, ?_, ?_, ?_, ?_, ?_, ?_, ?_, ?_⟩
        · exact ⟨⟨by simp [xi_xs, a1], by simp [xi_xs, a2], by simp [xi_xs]⟩, ⟨by simp [mi_ms, b1], by simp [mi_ms, b2], by simp [mi_ms]⟩, l1, l2, by omega⟩
        · have g1 : RNum nl nc ns (xs x 18 ns a) (ms m 91 ns a) := h2.up (w0 := 11) (k0 := ns) (v := a) (by decide) (fun w k _ _ => xnum_up (w0 := 11)) (fun w k hw _ => mnum_up (w0 := 11) (by decide) (by decide) (by decide) hw) (by omega) (by show _ ≤ (99 : Int); omega) (by show (1 : Int) ≤ _; omega) (fun w k _ q => hol_sz l1 l2 l3 q)
          have g2 : RNum nl nc ns (xs (xs x 18 ns a) 19 ns b) (ms (ms m 91 ns a) 92 ns b) := g1.up (w0 := 12) (k0 := ns) (v := b) (by decide) (fun w k _ _ => xnum_up (w0 := 12)) (fun w k hw _ => mnum_up (w0 := 12) (by decide) (by decide) (by decide) hw) (by omega) (by show _ ≤ (99 : Int); omega) (by show (1 : Int) ≤ _; omega) (fun w k _ q => hol_sz l1 l2 l3 q)
          refine ((g2.grow (fun w k hw q1 q2 => ?_)).xs (Or.inl (by decide))).ms (Or.inl ⟨rfl, by decide, by decide⟩)
          have hw2 : 11 ≤ w := by
            unfold hol at q1 q2
            by_cases z : w ≤ 1
            · rw [if_pos z] at q1 q2; omega
            · rw [if_neg z] at q1 q2
              by_cases z2 : w ≤ 5
              · rw [if_pos z2] at q1 q2; omega
              · rw [if_neg z2] at q1 q2
                by_cases z3 : w ≤ 8
                · rw [if_pos z3] at q1 q2; omega
                · rw [if_neg z3] at q1 q2
                  by_cases z4 : w ≤ 10
                  · rw [if_pos z4] at q1 q2; omega
                  · omega
          have hk : k = ns := by
            unfold hol at q1 q2
            rw [if_neg (by omega), if_neg (by omega), if_neg (by omega), if_neg (by omega)] at q1 q2
            omega
          subst hk
          have hw3 : w = 11 ∨ w = 12 := by omega
          rcases hw3 with rfl | rfl
          · show (1 : Int) ≤ (mi _ 91 k).toInt; simp [mi_ms]; omega
          · show (1 : Int) ≤ (mi _ 92 k).toInt; simp [mi_ms]; omega
        · exact h3.cg (fun k => by simp [xi_xs]) (fun k => by simp [mi_ms])
        · exact h4.cg (fun k => by simp [xi_xs]) (by simp [mi_ms]) (by simp [mi_ms]) (by simp [mi_ms]) (by simp [mi_ms])
        · exact h5.cg (by simp [mi_ms]) (by simp [xi_xs]) (fun k => by simp [xi_xs]) (fun k => by simp [xi_xs]) (fun k => by simp [xi_xs]) (fun k => by simp [mi_ms])
        · exact (h6.mono (Nat.le_refl _) (Nat.le_refl _) (by omega : ns ≤ ns + 1)).cg (by simp [xi_xs]) (by simp [xi_xs]) (by simp [mi_ms]) (by simp [mi_ms]) (fun k => by simp [xi_xs]) (fun k => by simp [xi_xs]) (fun k => by simp [xi_xs]) (fun k => by simp [xi_xs]) (fun k => by simp [mi_ms]) (fun k => by simp [mi_ms]) (fun k => by simp [mi_ms]) (fun k => by simp [mi_ms])
        · refine h7.cg rfl ?_ ?_ (fun k => ?_) (by simp [mi_ms]) (fun k => by simp [mi_ms])
          · rcases h7.2.1 with e | e <;> rw [e] <;> simp [xi_xs]
          · rcases h7.1 with e | e <;> rw [e] <;> simp [xi_xs]
          · rcases h7.2.1 with e | e <;> rw [e] <;> simp [xi_xs]
        · exact h8.cg (((law_xs h7.1 (by decide)).tr (law_xs h7.1 (by decide))).tr (law_xs h7.1 (by decide))) (((law_ms (by decide) (by omega)).tr (law_ms (by decide) (by omega))).tr (law_ms (by decide) (by omega))) (by simp [mi_ms])
        · exact h9.cg (fun k _ _ => by simp [xi_xs]) (fun k => by simp [xi_xs]) (fun k => by simp [xi_xs]) (by simp [mi_ms]) (by simp [mi_ms]) (fun k => by simp [mi_ms]) (fun k => by simp [mi_ms])
        · exact h10.cg (fun s k hs => by rw [xi_xs, if_neg (by omega), xi_xs, if_neg (by omega), xi_xs, if_neg (by omega)]) (fun s k _ => rfl) (fun k => by simp [mi_ms]) (fun k => by simp [mi_ms]) (fun k => by simp [mi_ms]) (fun k => by simp [mi_ms]) (fun k => rfl)
      · have q1 : ¬ nI ns < 8 := fun q => c3 ((nI_lt6 (c := 8) (by omega) (by decide)).mp q)
        have q2 : nI ns = 8 := (nI_eqc (c := 8) (by omega) (by decide)).mpr (by omega)
        exact ⟨-3, x, m, by simp [f_X8_spot, e0, e1, c1, c2, ob_s, a3, q1], by simp [f_X9_spot, k0, k1, c1, c2, b3, q2], hR⟩
    · exact ⟨-1, x, m, by simp only [f_X8_spot, e0, e1, ob_s, decide_eq_true c1, decide_eq_false c2]; rfl, by simp only [f_X9_spot, k0, k1, decide_eq_true c1, decide_eq_false c2]; rfl, hR⟩
  · exact ⟨-1, x, m, by simp only [f_X8_spot, e0, ob_s, decide_eq_false c1]; rfl, by simp only [f_X9_spot, k0, decide_eq_false c1]; rfl, hR⟩
