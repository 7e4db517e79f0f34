def skA (m0 : MM) (w : Int32) (j : Nat) : Int32 := if mi m0 85 j = 0 then w / 10 else w % 10
def alT (m0 : MM) (T : Nat → Nat → Int32 → Int32 → Int32 → Int32) (w : Int32) : Int32 := 0 + T 0 0 (mi m0 83 0) (skA m0 w 0) 0 + T 1 1 (mi m0 83 1) (skA m0 w 1) 0
theorem skA_in {m0 : MM} {w : Int32} (hw : 0 ≤ w.toInt ∧ w.toInt ≤ 99) (j : Nat) : 0 ≤ (skA m0 w j).toInt ∧ (skA m0 w j).toInt ≤ 10 := by
  have e10 : (10 : Int32).toInt = 10 := by decide
  unfold skA
  split
  · rw [divc hw.1 (by rw [e10]; decide), e10]; omega
  · rw [modc hw.1, e10]; omega
theorem alX1 {x0 : MX} {m0 : MM} {T : Nat → Nat → Int32 → Int32 → Int32 → Int32} (K : TK x0 m0 T) {w : Int32} (hw : 0 ≤ w.toInt ∧ w.toInt ≤ 99) {j : Nat} (hj : j < 2) (f : Nat) (u : Int32) {x : MX} (sx : SameX x0 x) : ∃ x', f_X8_takesAlone_4 (f + 1) w u (nI j) x = f_X8_takesAlone_4 f w (u + T j j (mi m0 83 j) (skA m0 w j) 0) (nI (j + 1)) x' ∧ SameX x0 x' := by
  have z : ¬ (2 : Int32) ≤ nI j := fun q => by have := (nI_lec (n := 2) (by decide) (by omega)).mp q; omega
  have e : xi x 11 j = mi m0 85 j := tk_xnum K.1 sx (w := 4) (k := j) (by decide) (show j < 6 by omega)
  obtain ⟨x1, E1, E2⟩ := skillX K sx (a := j) (b := j) (by omega) (by omega) (h := skA m0 w j) (n := 0) (skA_in hw j) ⟨by decide, by decide⟩
  refine ⟨x1, ?_, E2⟩
  show B_X8_takesAlone_4 _ _ _ _ _ = _
  unfold B_X8_takesAlone_4 B_X8_takesAlone_35
  rw [if_neg z, if_pos (inb_nI (by omega) (by decide)), ix_nI (by omega), e]
  unfold skA at E1 ⊢
  by_cases c : mi m0 85 j = 0
  · rw [if_pos c] at E1
    rw [if_pos c, if_pos c, E1, ob2_s, nI_1]
  · rw [if_neg c] at E1
    rw [if_neg c, if_neg c, E1, ob2_s, nI_1]
theorem alX {x0 : MX} {m0 : MM} {T : Nat → Nat → Int32 → Int32 → Int32 → Int32} (K : TK x0 m0 T) {w : Int32} (hw : 0 ≤ w.toInt ∧ w.toInt ≤ 99) {x : MX} (sx : SameX x0 x) : ∃ x', f_X8_takesAlone w x = some (alT m0 T w, x') ∧ SameX x0 x' := by
  obtain ⟨x1, E1, E2⟩ := alX1 K hw (j := 0) (by decide) 4999 0 sx
  obtain ⟨x2, F1, F2⟩ := alX1 K hw (j := 1) (by decide) 4998 (0 + T 0 0 (mi m0 83 0) (skA m0 w 0) 0) E2
  refine ⟨x2, ?_, F2⟩
  show f_X8_takesAlone_4 (4999 + 1) w 0 (nI 0) x = _
  rw [E1]
  show f_X8_takesAlone_4 (4998 + 1) w _ (nI 1) x1 = _
  rw [F1]
  rfl
theorem alM1 {x0 : MX} {m0 : MM} {T : Nat → Nat → Int32 → Int32 → Int32 → Int32} (K : TK x0 m0 T) {w : Int32} (hw : 0 ≤ w.toInt ∧ w.toInt ≤ 99) {j : Nat} (hj : j < 2) (f : Nat) (u : Int32) {m : MM} (sm : SameM m0 m) : ∃ m', f_X9_alone_4 (f + 1) w u (nI j) m = f_X9_alone_4 f w (u + T j j (mi m0 83 j) (skA m0 w j) 0) (nI (j + 1)) m' ∧ SameM m0 m' := by
  have z : ¬ (2 : Int32) ≤ nI j := fun q => by have := (nI_lec (n := 2) (by decide) (by omega)).mp q; omega
  have e : mi m 85 j = mi m0 85 j := sm.2 _ _ rfl
  obtain ⟨m1, E1, E2⟩ := takesM K sm (a := j) (b := j) (by omega) (by omega) (h := skA m0 w j) (n := 0) (skA_in hw j) ⟨by decide, by decide⟩
  refine ⟨m1, ?_, E2⟩
  show B_X9_alone_4 _ _ _ _ _ = _
  unfold B_X9_alone_4 B_X9_alone_33
  rw [if_neg z, if_pos (inb_nI (by omega) (by decide)), ix_nI (by omega), e]
  unfold skA at E1 ⊢
  by_cases c : mi m0 85 j = 0
  · rw [if_pos c] at E1
    rw [if_pos c, if_pos c, E1, ob2_s, nI_1]
  · rw [if_neg c] at E1
    rw [if_neg c, if_neg c, E1, ob2_s, nI_1]
theorem alM {x0 : MX} {m0 : MM} {T : Nat → Nat → Int32 → Int32 → Int32 → Int32} (K : TK x0 m0 T) {w : Int32} (hw : 0 ≤ w.toInt ∧ w.toInt ≤ 99) {m : MM} (sm : SameM m0 m) : ∃ m', f_X9_alone w m = some (alT m0 T w, m') ∧ SameM m0 m' := by
  obtain ⟨m1, E1, E2⟩ := alM1 K hw (j := 0) (by decide) 4999 0 sm
  obtain ⟨m2, F1, F2⟩ := alM1 K hw (j := 1) (by decide) 4998 (0 + T 0 0 (mi m0 83 0) (skA m0 w 0) 0) E2
  refine ⟨m2, ?_, F2⟩
  show f_X9_alone_4 (4999 + 1) w 0 (nI 0) m = _
  rw [E1]
  show f_X9_alone_4 (4998 + 1) w _ (nI 1) m1 = _
  rw [F1]
  rfl
theorem imax_le (a b : Int32) : imax a b = if a ≤ b then b else a := by
  unfold imax
  simp only [i_lt, i_le]
  repeat' split
  all_goals first | rfl | (rw [i_eq]; omega) | omega
def hpT (m0 : MM) (T : Nat → Nat → Int32 → Int32 → Int32 → Int32) (w : Int32) : Int32 := T 0 0 (mi m0 83 0) (imax (w / 10) (w % 10)) 0 + T 1 1 (mi m0 83 1) (imax (w / 10) (w % 10)) 0
theorem mx_in {w : Int32} (hw : 0 ≤ w.toInt ∧ w.toInt ≤ 99) : 0 ≤ (imax (w / 10) (w % 10)).toInt ∧ (imax (w / 10) (w % 10)).toInt ≤ 10 := by
  have e10 : (10 : Int32).toInt = 10 := by decide
  rw [imax_le]
  split
  · rw [modc hw.1, e10]; omega
  · rw [divc hw.1 (by rw [e10]; decide), e10]; omega
theorem hpX {x0 : MX} {m0 : MM} {T : Nat → Nat → Int32 → Int32 → Int32 → Int32} (K : TK x0 m0 T) {w : Int32} (hw : 0 ≤ w.toInt ∧ w.toInt ≤ 99) {x : MX} (sx : SameX x0 x) : ∃ x', f_X8_takesHelping w x = some (hpT m0 T w, x') ∧ SameX x0 x' := by
  obtain ⟨x1, E1, E2⟩ := skillX K sx (a := 0) (b := 0) (by decide) (by decide) (h := imax (w / 10) (w % 10)) (n := 0) (mx_in hw) ⟨by decide, by decide⟩
  obtain ⟨x2, F1, F2⟩ := skillX K E2 (a := 1) (b := 1) (by decide) (by decide) (h := imax (w / 10) (w % 10)) (n := 0) (mx_in hw) ⟨by decide, by decide⟩
  refine ⟨x2, ?_, F2⟩
  unfold f_X8_takesHelping
  show ob2 (f_X8_takesBySkill (nI 0) (nI 0) _ 0 x) _ = _
  rw [E1, ob2_s]
  show ob2 (f_X8_takesBySkill (nI 1) (nI 1) _ 0 x1) _ = _
  rw [F1, ob2_s]
  rfl
theorem hpM {x0 : MX} {m0 : MM} {T : Nat → Nat → Int32 → Int32 → Int32 → Int32} (K : TK x0 m0 T) {w : Int32} (hw : 0 ≤ w.toInt ∧ w.toInt ≤ 99) {m : MM} (sm : SameM m0 m) : ∃ m', f_X9_helping w m = some (hpT m0 T w, m') ∧ SameM m0 m' := by
  obtain ⟨m1, E1, E2⟩ := takesM K sm (a := 0) (b := 0) (by decide) (by decide) (h := imax (w / 10) (w % 10)) (n := 0) (mx_in hw) ⟨by decide, by decide⟩
  obtain ⟨m2, F1, F2⟩ := takesM K E2 (a := 1) (b := 1) (by decide) (by decide) (h := imax (w / 10) (w % 10)) (n := 0) (mx_in hw) ⟨by decide, by decide⟩
  refine ⟨m2, ?_, F2⟩
  have key : B_X9_helping_22 (imax (w / 10) (w % 10)) m = some (hpT m0 T w, m2) := by
    unfold B_X9_helping_22
    show ob2 (f_X9_takes (nI 0) (nI 0) _ 0 m) _ = _
    rw [E1, ob2_s]
    show ob2 (f_X9_takes (nI 1) (nI 1) _ 0 m1) _ = _
    rw [F1, ob2_s]
    rfl
  rw [← key]
  unfold f_X9_helping
  by_cases c : w / 10 ≤ w % 10
  · rw [if_pos c, imax_le, if_pos c]
  · rw [if_neg c, imax_le, if_neg c]
theorem cmd_two {x : MX} {m : MM} (a b w : Int32) (hR : Rel x m) : ∃ r x' m', f_X8_two a b w x = some (r, x') ∧ f_X9_two a b w m = some (r, m') ∧ Rel x' m' := by
  obtain ⟨nl, nc, ns, nh, h1, h2, h3⟩ := id hR
  obtain ⟨T, K⟩ := tk_ex hR
  have e0 : (0 : Int32).toInt = 0 := by decide
  have e2 : (2 : Int32).toInt = 2 := by decide
  have e9 : (99 : Int32).toInt = 99 := by decide
  have la := h1.2.2.1
  have lb := h1.2.2.2.1
  have k0 : f_X9_isIn a 0 99 = decide (0 ≤ a.toInt ∧ a.toInt ≤ 99) := by rw [isIn_eq, e0, e9]
  have k1 : f_X9_isIn b 0 99 = decide (0 ≤ b.toInt ∧ b.toInt ≤ 99) := by rw [isIn_eq, e0, e9]
  have k2 : f_X9_isIn w 0 2 = decide (0 ≤ w.toInt ∧ w.toInt ≤ 2) := by rw [isIn_eq, e0, e2]
  unfold f_X8_two f_X9_two
  rw [k0, k1, k2, bothM h1, h1.1.1, h1.1.2.1]
  by_cases c : 0 ≤ a.toInt ∧ a.toInt ≤ 99
  · have c1 : ¬ a < 0 := by rw [i_lt, e0]; omega
    have c2 : ¬ (99 : Int32) < a := by rw [i_lt, e9]; omega
    rw [if_neg c1, if_neg c2, decide_eq_true c, if_pos rfl]
    by_cases d : 0 ≤ b.toInt ∧ b.toInt ≤ 99
    · have d1 : ¬ b < 0 := by rw [i_lt, e0]; omega
      have d2 : ¬ (99 : Int32) < b := by rw [i_lt, e9]; omega
      rw [if_neg d1, if_neg d2, decide_eq_true d, if_pos rfl]
      by_cases p : 0 ≤ w.toInt ∧ w.toInt ≤ 2
      · have p1 : ¬ w < 0 := by rw [i_lt, e0]; omega
        have p2 : w ≤ 2 := by rw [i_le, e2]; omega
        rw [if_neg p1, if_pos p2, decide_eq_true p, if_pos rfl]
        by_cases q : 2 ≤ nl ∧ 2 ≤ nc
        · have q1 : ¬ nI nl < 2 := fun z => by have := (nI_lt6 (c := 2) (by omega) (by decide)).mp z; omega
          have q2 : (2 : Int32) ≤ nI nc := (nI_lec (n := 2) (by decide) (by omega)).mpr q.2
          have q3 : (2 : Int32) ≤ nI (min nl nc) := (nI_lec (n := 2) (by decide) (by omega)).mpr (by omega)
          rw [if_neg q1, if_pos q2, if_pos q3]
          obtain ⟨x1, A1, A2⟩ := alX K c (SameX.rf x)
          obtain ⟨x2, B1, B2⟩ := alX K d A2
          obtain ⟨x3, C1, C2⟩ := hpX K c B2
          obtain ⟨x4, D1, D2⟩ := hpX K d C2
          rw [A1, ob2_s, B1, ob2_s, C1, ob2_s, D1, ob2_s]
          obtain ⟨m1, F1, F2⟩ := alM K c (SameM.rf m)
          obtain ⟨m2, G1, G2⟩ := alM K d F2
          rw [F1, ob2_s, G1, ob2_s]
          have key : ∀ m3, SameM m m3 → ∃ r m', (if w = 0 then some (imax (alT m T a) (alT m T b), x4) else if w = 1 then some (hpT m T a + hpT m T b, x4) else if imax (alT m T a) (alT m T b) ≤ hpT m T a + hpT m T b then some (0, x4) else some (1, x4)) = some (r, x4) ∧ B_X9_two_71 a b w (imax (alT m T a) (alT m T b)) m3 = some (r, m') ∧ SameM m m' := by
            intro m3 s3
            obtain ⟨m4, H1, H2⟩ := hpM K c s3
            obtain ⟨m5, I1, I2⟩ := hpM K d H2
            unfold B_X9_two_71 B_X9_two_118
            rw [H1, ob2_s, I1, ob2_s]
            by_cases w0 : w = 0
            · rw [if_pos w0, if_pos w0]
              exact ⟨_, m5, rfl, rfl, I2⟩
            · rw [if_neg w0, if_neg w0]
              by_cases w1 : w = 1
              · rw [if_pos w1, if_pos w1]
                exact ⟨_, m5, rfl, rfl, I2⟩
              · rw [if_neg w1, if_neg w1]
                by_cases w2 : imax (alT m T a) (alT m T b) ≤ hpT m T a + hpT m T b
                · rw [if_pos w2, if_pos w2]
                  exact ⟨_, m5, rfl, rfl, I2⟩
                · rw [if_neg w2, if_neg w2]
                  exact ⟨_, m5, rfl, rfl, I2⟩
          by_cases z : alT m T a ≤ alT m T b
          · obtain ⟨m3, J1, J2⟩ := alM K d G2
            obtain ⟨r, m', r1, r2, r3⟩ := key m3 J2
            refine ⟨r, x4, m', r1, ?_, hR.same D2 r3⟩
            rw [if_pos z, J1, ob2_s, ← r2, imax_le, if_pos z]
          · obtain ⟨m3, J1, J2⟩ := alM K c G2
            obtain ⟨r, m', r1, r2, r3⟩ := key m3 J2
            refine ⟨r, x4, m', r1, ?_, hR.same D2 r3⟩
            rw [if_neg z, J1, ob2_s, ← r2, imax_le, if_neg z]
        · refine ⟨-5, x, m, ?_, ?_, hR⟩
          · by_cases z : nI nl < 2
            · rw [if_pos z]
            · rw [if_neg z, if_neg]
              intro z2
              have := (nI_lec (n := 2) (by decide) (by omega)).mp z2
              exact z ((nI_lt6 (c := 2) (by omega) (by decide)).mpr (by omega))
          · rw [if_neg]
            intro z2
            have := (nI_lec (n := 2) (by decide) (by omega)).mp z2
            omega
      · refine ⟨-1, x, m, ?_, ?_, hR⟩
        · by_cases p1 : w < 0
          · rw [if_pos p1]
          · rw [if_neg p1, if_neg]
            intro p2
            rw [i_lt, e0] at p1
            rw [i_le, e2] at p2
            omega
        · rw [decide_eq_false p]; rfl
    · refine ⟨-1, x, m, ?_, ?_, hR⟩
      · by_cases d1 : b < 0
        · rw [if_pos d1]
        · rw [if_neg d1, if_pos]
          rw [i_lt, e0] at d1
          rw [i_lt, e9]
          omega
      · rw [decide_eq_false d]; rfl
  · refine ⟨-1, x, m, ?_, ?_, hR⟩
    · by_cases c1 : a < 0
      · rw [if_pos c1]
      · rw [if_neg c1, if_pos]
        rw [i_lt, e0] at c1
        rw [i_lt, e9]
        omega
    · rw [decide_eq_false c]; rfl
