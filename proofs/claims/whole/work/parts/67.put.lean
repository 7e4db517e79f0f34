def lowB (so : Nat) (v : Int64) : Int64 := match so with
  | 0 => Int32.toInt64 (Int8.toInt32 (Int32.toInt8 (Int64.toInt32 v)))
  | 1 => Int32.toInt64 (Int16.toInt32 (Int32.toInt16 (Int64.toInt32 v)))
  | 2 => Int32.toInt64 (Int64.toInt32 v)
  | 3 => v
  | _ => if (lg_cmp v 0) = 0 then 0 else 1
theorem lowX {x : MX} {H so : Nat} (h : xi x H 1 = nI so) (hs : so < 5) (v : Int64) : f_X6_lowestBits H v x = lowB so v := by
  unfold f_X6_lowestBits
  rw [h]
  match so, hs with
  | 0, _ | 1, _ | 2, _ | 3, _ | 4, _ => rfl
theorem cmd_put {x : MX} {m : MM} (a b : Int32) (v : Int64) (h : Rel x m) : ∃ r x' m', f_X8_put a b v x = some (r, x') ∧ f_X9_put a b v m = some (r, m') ∧ Rel x' m' := by
  have hR := h
  obtain ⟨nl, nc, ns, nh, h1, h2, h3, h4, h5, h6, h7, h8, h9, h10⟩ := h
  by_cases c1 : 0 ≤ a.toInt ∧ a.toInt < (6 : Nat)
  · obtain ⟨s, hs, rfl⟩ := nI_ex c1.1 c1.2
    have i6 : inb (nI s) 6 = true := inb_nI hs (by decide)
    have j0 : ix (nI s) = s := ix_nI (by omega)
    rcases sh_case (h10 s hs) hs with ⟨g1, g2, g3, g4, g5⟩ | ⟨g1, g2, g3, g4, g5, g6, g7⟩ | ⟨g1, g2, g3, g4, g5, so, sz, p1, p2, p3, p4, p5, p6, p7, p8⟩
    · refine ⟨-11, x, m, ?_, ?_, hR⟩
      · simp only [f_X8_put, isShelfX, decide_eq_true c1, if_true, i6, j0, g2]; rfl
      · simp only [f_X9_put, g5, ob_s]; rfl
    · refine ⟨-12, x, m, ?_, ?_, hR⟩
      · simp only [f_X8_put, isShelfX, decide_eq_true c1, if_true, i6, j0, g2]; rfl
      · simp only [f_X9_put, g5, ob_s]; rfl
    · by_cases c2 : 0 ≤ b.toInt ∧ b.toInt < sz
      · obtain ⟨k, hk, rfl⟩ := nI_ex c2.1 c2.2
        have hp : f_X6_hasPlaces (68 + 2 * s) (nI k) 1 x = true := by
          rw [hasPl p5 p2]
          rw [nI_int (by omega)] at c2 ⊢
          have : (1 : Int32).toInt = 1 := by decide
          rw [this, decide_eq_true (by omega)]
        have E1 : f_X8_put (nI s) (nI k) v x = some (1, xsl x (68 + 2 * s + 1) k (lowB so v)) := by
          simp only [f_X8_put, isShelfX, decide_eq_true c1, if_true, i6, j0, g2, hp, inb_nI (show k < 60 by omega) (by decide), ix_nI (show k < 2147483648 by omega), lowX p3 p1, letx_s]
        have E2 : f_X9_put (nI s) (nI k) v m = some (1, msl m 109 (60 * s + k) (lowB so v)) := by
          simp only [f_X9_put, g5, ob_s, if_true, p7, decide_eq_true c2, i6, j0, p4, cellix hs (show k < 60 by omega), inb_nI (show 60 * s + k < 360 by omega) (by decide), ix_nI (show 60 * s + k < 2147483648 by omega), letx_s]
          match so, p1 with
          | 0, _ | 1, _ | 2, _ | 3, _ => rfl
          | 4, _ =>
            show (if (lg_cmp v 0) = 0 then some (1, msl m 109 (60 * s + k) 0) else some (1, msl m 109 (60 * s + k) 1)) = some (1, msl m 109 (60 * s + k) (if (lg_cmp v 0) = 0 then 0 else 1))
            split <;> rfl
        refine ⟨_, _, _, E1, E2, nl, nc, ns, nh, ?_⟩
        apply rest_shelf h1 h2 h3 h4 h5 h6 h7 h8 h9
        · rfl
        · intro _ _ _; rfl
        · intro _ _ _; rfl
        intro t ht
        by_cases e : t = s
        · subst e
          refine Or.inr (Or.inr ⟨g1, so, sz, p1, p2, p3, p4, p5, p6, fun i hi => ?_⟩)
          rw [xl_xsl, ml_msl]
          by_cases e2 : i = k
          · rw [if_pos ⟨rfl, e2⟩, if_pos ⟨rfl, by omega⟩]
            refine ⟨rfl, fun z => ?_⟩
            subst z
            show (Int64.toInt32 (Int32.toInt64 _)).toInt64 = Int32.toInt64 _
            rw [Int32.toInt32_toInt64]
          · rw [if_neg (fun z => e2 z.2), if_neg (by omega)]
            exact p8 i hi
        · refine (h10 t ht).cg (fun k => rfl) (fun k => by rw [xl_xsl, if_neg (by omega)]) rfl rfl rfl rfl (fun k hk => ?_)
          rw [ml_msl, if_neg (by omega)]
      · have hp : f_X6_hasPlaces (68 + 2 * s) b 1 x = false := by
          rw [hasPl p5 p2]
          have : (1 : Int32).toInt = 1 := by decide
          rw [this, decide_eq_false (by omega)]
        refine ⟨-13, x, m, ?_, ?_, hR⟩
        · simp only [f_X8_put, isShelfX, decide_eq_true c1, if_true, i6, j0, g2, hp]; rfl
        · simp only [f_X9_put, g5, ob_s, if_true, p7, decide_eq_false c2]; rfl
  · refine ⟨-1, x, m, ?_, ?_, hR⟩
    · simp only [f_X8_put, isShelfX, decide_eq_false c1]; rfl
    · have : f_X9_barsOfRow a m = some (-1) := by
        simp only [f_X9_barsOfRow, isShelfM, decide_eq_false c1]; rfl
      simp only [f_X9_put, this, ob_s]; rfl
