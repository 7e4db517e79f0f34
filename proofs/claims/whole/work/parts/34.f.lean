def B_X8_drawn_158 (K55 : Int32 → Int32 → Int32 → Int32 → Int32 → Int32 → Int32 → MX → Option (Int32 × MX)) (v3 : Int32) (v4 : Int32) (v5 : Int32) (v6 : Int32) (v7 : Int32) (v8 : Int32) (v9 : Int32) (x : MX) : Option (Int32 × MX) :=
  K55 v3 v4 v5 v6 v7 v8 (v9 + 1) x
theorem SB_X8_drawn_158 {g : GC} {d : Nat} {K55 : Int32 → Int32 → Int32 → Int32 → Int32 → Int32 → Int32 → MX → Option (Int32 × MX)} {v3 : Int32} {v4 : Int32} {v5 : Int32} {v6 : Int32} {v7 : Int32} {v8 : Int32} {v9 : Int32} {x : MX} {m : MM} {r : Int32} {z : MX} (hd : 6 ≤ d) (hK55 : ∀ (v3 : Int32) (v4 : Int32) (v5 : Int32) (v6 : Int32) (v7 : Int32) (v8 : Int32) (v9 : Int32) (x : MX) (r : Int32) (z : MX), K55 v3 v4 v5 v6 v7 v8 v9 x = some (r, z) → J g m_X8_drawn d 0 0 55 [(0, .ref 5), (3, .int v3), (4, .int v4), (5, .int v5), (6, .int v6), (7, .int v7), (8, .int v8), (9, .int v9)] [] (ST x m) 0 0 (EQ (some (.int r)) (ST z m)))
  (hF : B_X8_drawn_158 K55 v3 v4 v5 v6 v7 v8 v9 x = some (r, z)) : J g m_X8_drawn d 0 0 158 [(0, .ref 5), (3, .int v3), (4, .int v4), (5, .int v5), (6, .int v6), (7, .int v7), (8, .int v8), (9, .int v9)] [] (ST x m) 0 0 (EQ (some (.int r)) (ST z m)) := by
  unfold B_X8_drawn_158 at hF
  refine J_iinc (j := 7) (v := v9 + 1) (L' := [(9, .int (v9 + 1)), (0, .ref 5), (3, .int v3), (4, .int v4), (5, .int v5), (6, .int v6), (7, .int v7), (8, .int v8)]) dX8_drawn_158 rfl rfl (by decide) rfl ?_
  refine J_goto (tgt := 55) dX8_drawn_161 (by decide) ?_
  refine J_sub [1, 2, 3, 4, 5, 6, 7, 0] rfl ?_
  exact hK55 _ _ _ _ _ _ _ _ _ _  hF
def B_X8_drawn_150 (K55 : Int32 → Int32 → Int32 → Int32 → Int32 → Int32 → Int32 → MX → Option (Int32 × MX)) (v3 : Int32) (v4 : Int32) (v5 : Int32) (v6 : Int32) (v7 : Int32) (v8 : Int32) (v9 : Int32) (v10 : Int32) (x : MX) : Option (Int32 × MX) :=
  if v10 = 0 then
  B_X8_drawn_158 K55 v3 v4 v5 v6 v7 (v8 + 1) v9 x
  else
  B_X8_drawn_158 K55 v3 v4 v5 v6 v7 v8 v9 x
theorem SB_X8_drawn_150 {g : GC} {d : Nat} {K55 : Int32 → Int32 → Int32 → Int32 → Int32 → Int32 → Int32 → MX → Option (Int32 × MX)} {v3 : Int32} {v4 : Int32} {v5 : Int32} {v6 : Int32} {v7 : Int32} {v8 : Int32} {v9 : Int32} {v10 : Int32} {x : MX} {m : MM} {r : Int32} {z : MX} (hd : 6 ≤ d) (hK55 : ∀ (v3 : Int32) (v4 : Int32) (v5 : Int32) (v6 : Int32) (v7 : Int32) (v8 : Int32) (v9 : Int32) (x : MX) (r : Int32) (z : MX), K55 v3 v4 v5 v6 v7 v8 v9 x = some (r, z) → J g m_X8_drawn d 0 0 55 [(0, .ref 5), (3, .int v3), (4, .int v4), (5, .int v5), (6, .int v6), (7, .int v7), (8, .int v8), (9, .int v9)] [] (ST x m) 0 0 (EQ (some (.int r)) (ST z m)))
  (hF : B_X8_drawn_150 K55 v3 v4 v5 v6 v7 v8 v9 v10 x = some (r, z)) : J g m_X8_drawn d 0 0 150 [(0, .ref 5), (3, .int v3), (4, .int v4), (5, .int v5), (6, .int v6), (7, .int v7), (8, .int v8), (9, .int v9), (10, .int v10)] [] (ST x m) 0 0 (EQ (some (.int r)) (ST z m)) := by
  unfold B_X8_drawn_150 at hF
  refine J_iload (j := 8) dX8_drawn_150 rfl ?_
  refine J_if_ne (tgt := 158) dX8_drawn_152 (by decide) (fun q13 => ?_) (fun q13 => ?_)
  · rw [if_neg q13] at hF
    refine J_sub [0, 1, 2, 3, 4, 5, 6, 7] rfl ?_
    exact SB_X8_drawn_158 hd hK55 hF
  · rw [if_pos q13] at hF
    refine J_iinc (j := 6) (v := v8 + 1) (L' := [(8, .int (v8 + 1)), (0, .ref 5), (3, .int v3), (4, .int v4), (5, .int v5), (6, .int v6), (7, .int v7), (9, .int v9), (10, .int v10)]) dX8_drawn_155 rfl rfl (by decide) rfl ?_
    refine J_sub [1, 2, 3, 4, 5, 6, 0, 7] rfl ?_
    exact SB_X8_drawn_158 hd hK55 hF
def B_X8_drawn_141 (K55 : Int32 → Int32 → Int32 → Int32 → Int32 → Int32 → Int32 → MX → Option (Int32 × MX)) (K67 : Int32 → Int32 → Int32 → Int32 → Int32 → Int32 → Int32 → Int32 → Int32 → MX → Option (Int32 × MX)) (v3 : Int32) (v4 : Int32) (v5 : Int32) (v6 : Int32) (v8 : Int32) (v9 : Int32) (v10 : Int32) (v11 : Int32) (t0 : Int32) (t1 : Int32) (x : MX) : Option (Int32 × MX) :=
  K67 v3 v4 v5 v6 (t1 + t0) v8 v9 v10 (v11 + 1) x
theorem SB_X8_drawn_141 {g : GC} {d : Nat} {K55 : Int32 → Int32 → Int32 → Int32 → Int32 → Int32 → Int32 → MX → Option (Int32 × MX)} {K67 : Int32 → Int32 → Int32 → Int32 → Int32 → Int32 → Int32 → Int32 → Int32 → MX → Option (Int32 × MX)} {v3 : Int32} {v4 : Int32} {v5 : Int32} {v6 : Int32} {v8 : Int32} {v9 : Int32} {v10 : Int32} {v11 : Int32} {t0 : Int32} {t1 : Int32} {x : MX} {m : MM} {r : Int32} {z : MX} (hd : 6 ≤ d) (hK55 : ∀ (v3 : Int32) (v4 : Int32) (v5 : Int32) (v6 : Int32) (v7 : Int32) (v8 : Int32) (v9 : Int32) (x : MX) (r : Int32) (z : MX), K55 v3 v4 v5 v6 v7 v8 v9 x = some (r, z) → J g m_X8_drawn d 0 0 55 [(0, .ref 5), (3, .int v3), (4, .int v4), (5, .int v5), (6, .int v6), (7, .int v7), (8, .int v8), (9, .int v9)] [] (ST x m) 0 0 (EQ (some (.int r)) (ST z m))) (hK67 : ∀ (v3 : Int32) (v4 : Int32) (v5 : Int32) (v6 : Int32) (v7 : Int32) (v8 : Int32) (v9 : Int32) (v10 : Int32) (v11 : Int32) (x : MX) (r : Int32) (z : MX), K67 v3 v4 v5 v6 v7 v8 v9 v10 v11 x = some (r, z) → J g m_X8_drawn d 0 0 67 [(0, .ref 5), (3, .int v3), (4, .int v4), (5, .int v5), (6, .int v6), (7, .int v7), (8, .int v8), (9, .int v9), (10, .int v10), (11, .int v11)] [] (ST x m) 0 0 (EQ (some (.int r)) (ST z m)))
  (hF : B_X8_drawn_141 K55 K67 v3 v4 v5 v6 v8 v9 v10 v11 t0 t1 x = some (r, z)) : J g m_X8_drawn d 0 0 141 [(0, .ref 5), (3, .int v3), (4, .int v4), (5, .int v5), (6, .int v6), (8, .int v8), (9, .int v9), (10, .int v10), (11, .int v11)] [.int t0, .int t1] (ST x m) 0 0 (EQ (some (.int r)) (ST z m)) := by
  unfold B_X8_drawn_141 at hF
  refine J_iadd dX8_drawn_141 ?_
  refine J_istore (L' := [(7, .int (t1 + t0)), (0, .ref 5), (3, .int v3), (4, .int v4), (5, .int v5), (6, .int v6), (8, .int v8), (9, .int v9), (10, .int v10), (11, .int v11)]) dX8_drawn_142 (by decide) rfl ?_
  refine J_iinc (j := 9) (v := v11 + 1) (L' := [(11, .int (v11 + 1)), (7, .int (t1 + t0)), (0, .ref 5), (3, .int v3), (4, .int v4), (5, .int v5), (6, .int v6), (8, .int v8), (9, .int v9), (10, .int v10)]) dX8_drawn_144 rfl rfl (by decide) rfl ?_
  refine J_goto (tgt := 67) dX8_drawn_147 (by decide) ?_
  refine J_sub [2, 3, 4, 5, 6, 1, 7, 8, 9, 0] rfl ?_
  exact hK67 _ _ _ _ _ _ _ _ _ _ _ _  hF
def B_X8_drawn_115 (K55 : Int32 → Int32 → Int32 → Int32 → Int32 → Int32 → Int32 → MX → Option (Int32 × MX)) (K67 : Int32 → Int32 → Int32 → Int32 → Int32 → Int32 → Int32 → Int32 → Int32 → MX → Option (Int32 × MX)) (v3 : Int32) (v4 : Int32) (v5 : Int32) (v6 : Int32) (v7 : Int32) (v8 : Int32) (v9 : Int32) (v11 : Int32) (t0 : Int32) (x : MX) : Option (Int32 × MX) :=
  if t0 = 0 then
  B_X8_drawn_141 K55 K67 v3 v4 v5 v6 v8 v9 t0 v11 (v5 + (xi x 17 0)) v7 x
  else
  B_X8_drawn_141 K55 K67 v3 v4 v5 v6 v8 v9 t0 v11 v5 v7 x
theorem SB_X8_drawn_115 {g : GC} {d : Nat} {K55 : Int32 → Int32 → Int32 → Int32 → Int32 → Int32 → Int32 → MX → Option (Int32 × MX)} {K67 : Int32 → Int32 → Int32 → Int32 → Int32 → Int32 → Int32 → Int32 → Int32 → MX → Option (Int32 × MX)} {v3 : Int32} {v4 : Int32} {v5 : Int32} {v6 : Int32} {v7 : Int32} {v8 : Int32} {v9 : Int32} {v11 : Int32} {t0 : Int32} {x : MX} {m : MM} {r : Int32} {z : MX} (hd : 6 ≤ d) (hK55 : ∀ (v3 : Int32) (v4 : Int32) (v5 : Int32) (v6 : Int32) (v7 : Int32) (v8 : Int32) (v9 : Int32) (x : MX) (r : Int32) (z : MX), K55 v3 v4 v5 v6 v7 v8 v9 x = some (r, z) → J g m_X8_drawn d 0 0 55 [(0, .ref 5), (3, .int v3), (4, .int v4), (5, .int v5), (6, .int v6), (7, .int v7), (8, .int v8), (9, .int v9)] [] (ST x m) 0 0 (EQ (some (.int r)) (ST z m))) (hK67 : ∀ (v3 : Int32) (v4 : Int32) (v5 : Int32) (v6 : Int32) (v7 : Int32) (v8 : Int32) (v9 : Int32) (v10 : Int32) (v11 : Int32) (x : MX) (r : Int32) (z : MX), K67 v3 v4 v5 v6 v7 v8 v9 v10 v11 x = some (r, z) → J g m_X8_drawn d 0 0 67 [(0, .ref 5), (3, .int v3), (4, .int v4), (5, .int v5), (6, .int v6), (7, .int v7), (8, .int v8), (9, .int v9), (10, .int v10), (11, .int v11)] [] (ST x m) 0 0 (EQ (some (.int r)) (ST z m)))
  (hF : B_X8_drawn_115 K55 K67 v3 v4 v5 v6 v7 v8 v9 v11 t0 x = some (r, z)) : J g m_X8_drawn d 0 0 115 [(0, .ref 5), (3, .int v3), (4, .int v4), (5, .int v5), (6, .int v6), (7, .int v7), (8, .int v8), (9, .int v9), (11, .int v11)] [.int t0] (ST x m) 0 0 (EQ (some (.int r)) (ST z m)) := by
  unfold B_X8_drawn_115 at hF
  refine J_istore (L' := [(10, .int t0), (0, .ref 5), (3, .int v3), (4, .int v4), (5, .int v5), (6, .int v6), (7, .int v7), (8, .int v8), (9, .int v9), (11, .int v11)]) dX8_drawn_115 (by decide) rfl ?_
  refine J_iload (j := 6) dX8_drawn_117 rfl ?_
  refine J_iload (j := 0) dX8_drawn_119 rfl ?_
  refine J_if_eq (tgt := 129) dX8_drawn_121 (by decide) (fun q17 => ?_) (fun q17 => ?_)
  · rw [if_pos q17] at hF
    refine J_iload (j := 4) dX8_drawn_129 rfl ?_
    refine J_aload_n (j := 1) dX8_drawn_131 rfl rfl ?_
    refine JX_getR (r := 6) fl_WithOneHand_11_7 dX8_drawn_132 c_5 rfl rfl ?_
    refine J_bipush (v := 10) dX8_drawn_135 (by decide) ?_
    refine JX_aald (j := 10) (r := 17) (by decide) dX8_drawn_137 c_6 (by unfold vp_in; decide) (by decide) rfl ?_
    refine J_iconst (v := 0) dX8_drawn_138 (by decide) ?_
    refine JX_iald (j := 0) dX8_drawn_139 c_17 (by unfold vp_in; decide) (by decide) ?_
    refine J_iadd dX8_drawn_140 ?_
    refine J_sub [1, 2, 3, 4, 5, 7, 8, 0, 9] rfl ?_
    exact SB_X8_drawn_141 hd hK55 hK67 hF
  · rw [if_neg q17] at hF
    refine J_iload (j := 4) dX8_drawn_124 rfl ?_
    refine J_goto (tgt := 141) dX8_drawn_126 (by decide) ?_
    refine J_sub [1, 2, 3, 4, 5, 7, 8, 0, 9] rfl ?_
    exact SB_X8_drawn_141 hd hK55 hK67 hF
def B_X8_drawn_67 (K55 : Int32 → Int32 → Int32 → Int32 → Int32 → Int32 → Int32 → MX → Option (Int32 × MX)) (K67 : Int32 → Int32 → Int32 → Int32 → Int32 → Int32 → Int32 → Int32 → Int32 → MX → Option (Int32 × MX)) (v3 : Int32) (v4 : Int32) (v5 : Int32) (v6 : Int32) (v7 : Int32) (v8 : Int32) (v9 : Int32) (v10 : Int32) (v11 : Int32) (x : MX) : Option (Int32 × MX) :=
  if 20 ≤ v11 then
  B_X8_drawn_150 K55 v3 v4 v5 v6 v7 v8 v9 v10 x
  else
  if v10 = 0 then
  letx ((v6 * 1103515245) + 12345) (fun y15 =>
  if ((iush y15 8) % 12) < (xi x 16 0) then
  B_X8_drawn_115 K55 K67 v3 v4 v5 y15 v7 v8 v9 v11 0 x
  else
  B_X8_drawn_115 K55 K67 v3 v4 v5 y15 v7 v8 v9 v11 1 x)
  else
  B_X8_drawn_150 K55 v3 v4 v5 v6 v7 v8 v9 v10 x
theorem SB_X8_drawn_67 {g : GC} {d : Nat} {K55 : Int32 → Int32 → Int32 → Int32 → Int32 → Int32 → Int32 → MX → Option (Int32 × MX)} {K67 : Int32 → Int32 → Int32 → Int32 → Int32 → Int32 → Int32 → Int32 → Int32 → MX → Option (Int32 × MX)} {v3 : Int32} {v4 : Int32} {v5 : Int32} {v6 : Int32} {v7 : Int32} {v8 : Int32} {v9 : Int32} {v10 : Int32} {v11 : Int32} {x : MX} {m : MM} {r : Int32} {z : MX} (hd : 6 ≤ d) (hK55 : ∀ (v3 : Int32) (v4 : Int32) (v5 : Int32) (v6 : Int32) (v7 : Int32) (v8 : Int32) (v9 : Int32) (x : MX) (r : Int32) (z : MX), K55 v3 v4 v5 v6 v7 v8 v9 x = some (r, z) → J g m_X8_drawn d 0 0 55 [(0, .ref 5), (3, .int v3), (4, .int v4), (5, .int v5), (6, .int v6), (7, .int v7), (8, .int v8), (9, .int v9)] [] (ST x m) 0 0 (EQ (some (.int r)) (ST z m))) (hK67 : ∀ (v3 : Int32) (v4 : Int32) (v5 : Int32) (v6 : Int32) (v7 : Int32) (v8 : Int32) (v9 : Int32) (v10 : Int32) (v11 : Int32) (x : MX) (r : Int32) (z : MX), K67 v3 v4 v5 v6 v7 v8 v9 v10 v11 x = some (r, z) → J g m_X8_drawn d 0 0 67 [(0, .ref 5), (3, .int v3), (4, .int v4), (5, .int v5), (6, .int v6), (7, .int v7), (8, .int v8), (9, .int v9), (10, .int v10), (11, .int v11)] [] (ST x m) 0 0 (EQ (some (.int r)) (ST z m)))
  (hF : B_X8_drawn_67 K55 K67 v3 v4 v5 v6 v7 v8 v9 v10 v11 x = some (r, z)) : J g m_X8_drawn d 0 0 67 [(0, .ref 5), (3, .int v3), (4, .int v4), (5, .int v5), (6, .int v6), (7, .int v7), (8, .int v8), (9, .int v9), (10, .int v10), (11, .int v11)] [] (ST x m) 0 0 (EQ (some (.int r)) (ST z m)) := by
  unfold B_X8_drawn_67 at hF
  refine J_iload (j := 9) dX8_drawn_67 rfl ?_
  refine J_bipush (v := 20) dX8_drawn_69 (by decide) ?_
  refine J_icmp_ge (tgt := 150) dX8_drawn_71 (by decide) (fun q12 => ?_) (fun q12 => ?_)
  · rw [if_pos q12] at hF
    refine J_sub [0, 1, 2, 3, 4, 5, 6, 7, 8] rfl ?_
    exact SB_X8_drawn_150 hd hK55 hF
  · rw [if_neg q12] at hF
    refine J_iload (j := 8) dX8_drawn_74 rfl ?_
    refine J_if_ne (tgt := 150) dX8_drawn_76 (by decide) (fun q14 => ?_) (fun q14 => ?_)
    · rw [if_neg q14] at hF
      refine J_sub [0, 1, 2, 3, 4, 5, 6, 7, 8] rfl ?_
      exact SB_X8_drawn_150 hd hK55 hF
    · rw [if_pos q14] at hF
      refine J_iload (j := 4) dX8_drawn_79 rfl ?_
      refine J_ldc (v := 1103515245) (tb 739 (by decide +kernel)) dX8_drawn_81 ?_
      refine J_imul dX8_drawn_83 ?_
      refine J_sipush (v := 12345) dX8_drawn_84 (by decide) ?_
      refine J_iadd dX8_drawn_87 ?_
      obtain ⟨y15, e_y15, hF⟩ := letx_eq hF
      rw [← e_y15]
      refine J_istore (L' := [(6, .int y15), (0, .ref 5), (3, .int v3), (4, .int v4), (5, .int v5), (7, .int v7), (8, .int v8), (9, .int v9), (10, .int v10), (11, .int v11)]) dX8_drawn_88 (by decide) rfl ?_
      refine J_iload (j := 0) dX8_drawn_90 rfl ?_
      refine J_bipush (v := 8) dX8_drawn_92 (by decide) ?_
      refine J_iushr dX8_drawn_94 ?_
      refine J_bipush (v := 12) dX8_drawn_95 (by decide) ?_
      refine J_irem dX8_drawn_97 (by decide) ?_
      refine J_aload_n (j := 1) dX8_drawn_98 rfl rfl ?_
      refine JX_getR (r := 6) fl_WithOneHand_11_7 dX8_drawn_99 c_5 rfl rfl ?_
      refine J_bipush (v := 9) dX8_drawn_102 (by decide) ?_
      refine JX_aald (j := 9) (r := 16) (by decide) dX8_drawn_104 c_6 (by unfold vp_in; decide) (by decide) rfl ?_
      refine J_iconst (v := 0) dX8_drawn_105 (by decide) ?_
      refine JX_iald (j := 0) dX8_drawn_106 c_16 (by unfold vp_in; decide) (by decide) ?_
      refine J_icmp_lt (tgt := 114) dX8_drawn_107 (by decide) (fun q16 => ?_) (fun q16 => ?_)
      · rw [if_pos q16] at hF
        refine J_iconst (v := 0) dX8_drawn_114 (by decide) ?_
        refine J_sub [1, 2, 3, 4, 0, 5, 6, 7, 9] rfl ?_
        exact SB_X8_drawn_115 hd hK55 hK67 hF
      · rw [if_neg q16] at hF
        refine J_iconst (v := 1) dX8_drawn_110 (by decide) ?_
        refine J_goto (tgt := 115) dX8_drawn_111 (by decide) ?_
        refine J_sub [1, 2, 3, 4, 0, 5, 6, 7, 9] rfl ?_
        exact SB_X8_drawn_115 hd hK55 hK67 hF
def f_X8_drawn_67 (K55 : Int32 → Int32 → Int32 → Int32 → Int32 → Int32 → Int32 → MX → Option (Int32 × MX)) : Nat → Int32 → Int32 → Int32 → Int32 → Int32 → Int32 → Int32 → Int32 → Int32 → MX → Option (Int32 × MX)
  | 0 => fun _ _ _ _ _ _ _ _ _ _ => none
  | n + 1 => fun v3 v4 v5 v6 v7 v8 v9 v10 v11 x => B_X8_drawn_67 K55 (f_X8_drawn_67 K55 n) v3 v4 v5 v6 v7 v8 v9 v10 v11 x
theorem Sf_X8_drawn_67 {g : GC} {d : Nat} {m : MM} {K55 : Int32 → Int32 → Int32 → Int32 → Int32 → Int32 → Int32 → MX → Option (Int32 × MX)} (hd : 6 ≤ d) (hK55 : ∀ (v3 : Int32) (v4 : Int32) (v5 : Int32) (v6 : Int32) (v7 : Int32) (v8 : Int32) (v9 : Int32) (x : MX) (r : Int32) (z : MX), K55 v3 v4 v5 v6 v7 v8 v9 x = some (r, z) → J g m_X8_drawn d 0 0 55 [(0, .ref 5), (3, .int v3), (4, .int v4), (5, .int v5), (6, .int v6), (7, .int v7), (8, .int v8), (9, .int v9)] [] (ST x m) 0 0 (EQ (some (.int r)) (ST z m))) : ∀ (n : Nat) (v3 : Int32) (v4 : Int32) (v5 : Int32) (v6 : Int32) (v7 : Int32) (v8 : Int32) (v9 : Int32) (v10 : Int32) (v11 : Int32) (x : MX) (r : Int32) (z : MX), f_X8_drawn_67 K55 n v3 v4 v5 v6 v7 v8 v9 v10 v11 x = some (r, z) → J g m_X8_drawn d 0 0 67 [(0, .ref 5), (3, .int v3), (4, .int v4), (5, .int v5), (6, .int v6), (7, .int v7), (8, .int v8), (9, .int v9), (10, .int v10), (11, .int v11)] [] (ST x m) 0 0 (EQ (some (.int r)) (ST z m)) := by
  intro n
  induction n with
  | zero => intro v3 v4 v5 v6 v7 v8 v9 v10 v11 x r z  hF; exact absurd hF (fun q => by cases q)
  | succ n ih =>
    intro v3 v4 v5 v6 v7 v8 v9 v10 v11 x r z  hF
    exact SB_X8_drawn_67 hd hK55 (fun v3 v4 v5 v6 v7 v8 v9 v10 v11 x r z  hF => ih v3 v4 v5 v6 v7 v8 v9 v10 v11 x r z  hF) hF
def B_X8_drawn_55 (K55 : Int32 → Int32 → Int32 → Int32 → Int32 → Int32 → Int32 → MX → Option (Int32 × MX)) (v3 : Int32) (v4 : Int32) (v5 : Int32) (v6 : Int32) (v7 : Int32) (v8 : Int32) (v9 : Int32) (x : MX) : Option (Int32 × MX) :=
  if v3 ≤ v9 then
  if v4 = 0 then
  some (v7, x)
  else
  some (v8, x)
  else
  f_X8_drawn_67 K55 LF v3 v4 v5 v6 v7 v8 v9 0 0 x
theorem SB_X8_drawn_55 {g : GC} {d : Nat} {K55 : Int32 → Int32 → Int32 → Int32 → Int32 → Int32 → Int32 → MX → Option (Int32 × MX)} {v3 : Int32} {v4 : Int32} {v5 : Int32} {v6 : Int32} {v7 : Int32} {v8 : Int32} {v9 : Int32} {x : MX} {m : MM} {r : Int32} {z : MX} (hd : 6 ≤ d) (hK55 : ∀ (v3 : Int32) (v4 : Int32) (v5 : Int32) (v6 : Int32) (v7 : Int32) (v8 : Int32) (v9 : Int32) (x : MX) (r : Int32) (z : MX), K55 v3 v4 v5 v6 v7 v8 v9 x = some (r, z) → J g m_X8_drawn d 0 0 55 [(0, .ref 5), (3, .int v3), (4, .int v4), (5, .int v5), (6, .int v6), (7, .int v7), (8, .int v8), (9, .int v9)] [] (ST x m) 0 0 (EQ (some (.int r)) (ST z m)))
  (hF : B_X8_drawn_55 K55 v3 v4 v5 v6 v7 v8 v9 x = some (r, z)) : J g m_X8_drawn d 0 0 55 [(0, .ref 5), (3, .int v3), (4, .int v4), (5, .int v5), (6, .int v6), (7, .int v7), (8, .int v8), (9, .int v9)] [] (ST x m) 0 0 (EQ (some (.int r)) (ST z m)) := by
  unfold B_X8_drawn_55 at hF
  refine J_iload (j := 7) dX8_drawn_55 rfl ?_
  refine J_iload_n (j := 1) dX8_drawn_57 rfl rfl ?_
  refine J_icmp_ge (tgt := 164) dX8_drawn_58 (by decide) (fun q10 => ?_) (fun q10 => ?_)
  · rw [if_pos q10] at hF
    refine J_iload (j := 2) dX8_drawn_164 rfl ?_
    refine J_if_ne (tgt := 174) dX8_drawn_166 (by decide) (fun q11 => ?_) (fun q11 => ?_)
    · rw [if_neg q11] at hF
      refine J_iload (j := 6) dX8_drawn_174 rfl ?_
      obtain ⟨e_r, e_z⟩ := someP hF
      subst e_r
      subst e_z
      exact J_ireturn rfl rfl dX8_drawn_176 ⟨rfl, rfl⟩
    · rw [if_pos q11] at hF
      refine J_iload (j := 5) dX8_drawn_169 rfl ?_
      refine J_goto (tgt := 176) dX8_drawn_171 (by decide) ?_
      obtain ⟨e_r, e_z⟩ := someP hF
      subst e_r
      subst e_z
      exact J_ireturn rfl rfl dX8_drawn_176 ⟨rfl, rfl⟩
  · rw [if_neg q10] at hF
    refine J_iconst (v := 0) dX8_drawn_61 (by decide) ?_
    refine J_istore (L' := [(10, .int 0), (0, .ref 5), (3, .int v3), (4, .int v4), (5, .int v5), (6, .int v6), (7, .int v7), (8, .int v8), (9, .int v9)]) dX8_drawn_62 (by decide) rfl ?_
    refine J_iconst (v := 0) dX8_drawn_64 (by decide) ?_
    refine J_istore (L' := [(11, .int 0), (10, .int 0), (0, .ref 5), (3, .int v3), (4, .int v4), (5, .int v5), (6, .int v6), (7, .int v7), (8, .int v8), (9, .int v9)]) dX8_drawn_65 (by decide) rfl ?_
    refine J_sub [2, 3, 4, 5, 6, 7, 8, 9, 1, 0] rfl ?_
    exact Sf_X8_drawn_67 hd hK55 _ _ _ _ _ _ _ _ _ _ _ _ _ hF
def f_X8_drawn_55  : Nat → Int32 → Int32 → Int32 → Int32 → Int32 → Int32 → Int32 → MX → Option (Int32 × MX)
  | 0 => fun _ _ _ _ _ _ _ _ => none
  | n + 1 => fun v3 v4 v5 v6 v7 v8 v9 x => B_X8_drawn_55 (f_X8_drawn_55  n) v3 v4 v5 v6 v7 v8 v9 x
theorem Sf_X8_drawn_55 {g : GC} {d : Nat} {m : MM} (hd : 6 ≤ d)  : ∀ (n : Nat) (v3 : Int32) (v4 : Int32) (v5 : Int32) (v6 : Int32) (v7 : Int32) (v8 : Int32) (v9 : Int32) (x : MX) (r : Int32) (z : MX), f_X8_drawn_55  n v3 v4 v5 v6 v7 v8 v9 x = some (r, z) → J g m_X8_drawn d 0 0 55 [(0, .ref 5), (3, .int v3), (4, .int v4), (5, .int v5), (6, .int v6), (7, .int v7), (8, .int v8), (9, .int v9)] [] (ST x m) 0 0 (EQ (some (.int r)) (ST z m)) := by
  intro n
  induction n with
  | zero => intro v3 v4 v5 v6 v7 v8 v9 x r z  hF; exact absurd hF (fun q => by cases q)
  | succ n ih =>
    intro v3 v4 v5 v6 v7 v8 v9 x r z  hF
    exact SB_X8_drawn_55 hd (fun v3 v4 v5 v6 v7 v8 v9 x r z  hF => ih v3 v4 v5 v6 v7 v8 v9 x r z  hF) hF
def f_X8_drawn (a1 : Int32) (a2 : Int32) (a3 : Int32) (a4 : Int32) (x : MX) : Option (Int32 × MX) :=
  ob (f_X8_isLinkAndCuff a1 x) (fun r1 =>
  if r1 = true then
  if a3 < 1 then
  some ((-1), x)
  else
  if 50 < a3 then
  some ((-1), x)
  else
  if (f_X8_isPart a4) = true then
  ob2 (f_X8_takesNow (a1 / 10) (a1 % 10) x) (fun r7 x8 =>
  f_X8_drawn_55 LF a3 a4 r7 a2 0 0 0 x8)
  else
  some ((-1), x)
  else
  some ((-1), x))
theorem S_X8_drawn {g : GC} {d : Nat} {a1 : Int32} {a2 : Int32} {a3 : Int32} {a4 : Int32} {x : MX} {m : MM} {r : Int32} {z : MX} (hd : 6 ≤ d) 
  (hF : f_X8_drawn a1 a2 a3 a4 x = some (r, z)) : JC g m_X8_drawn d 0 0 [.ref 5, .int a1, .int a2, .int a3, .int a4] (ST x m) (EQ (some (.int r)) (ST z m)) := by
  refine JC.of (by decide +kernel) (Nat.le_of_ble_eq_true rfl) ?_
  change J g m_X8_drawn d 0 0 0 [(0, .ref 5), (1, .int a1), (2, .int a2), (3, .int a3), (4, .int a4)] [] (ST x m) 0 0 (EQ (some (.int r)) (ST z m))
  unfold f_X8_drawn at hF
  refine J_aload_n (j := 0) dX8_drawn_0 rfl rfl ?_
  refine J_iload_n (j := 1) dX8_drawn_1 rfl rfl ?_
  obtain ⟨r1, h2, hF⟩ := ob_some hF
  refine JX_callVi (As := [.int a1]) (S := []) lkV_WithOneHand_132_X8_isLinkAndCuff rfl (by decide) dX8_drawn_2 c_5 (S_X8_isLinkAndCuff (by omega) h2) (by omega) rfl rfl (Nat.le_of_ble_eq_true rfl) rfl ?_
  refine J_ifb_eq (tgt := 27) dX8_drawn_5 (by decide) (fun q3 => ?_) (fun q3 => ?_)
  · rw [if_neg q3] at hF
    refine J_iconst (v := (-1)) dX8_drawn_27 (by decide) ?_
    obtain ⟨e_r, e_z⟩ := someP hF
    subst e_r
    subst e_z
    exact J_ireturn rfl rfl dX8_drawn_28 ⟨rfl, rfl⟩
  · rw [if_pos q3] at hF
    refine J_iload_n (j := 3) dX8_drawn_8 rfl rfl ?_
    refine J_iconst (v := 1) dX8_drawn_9 (by decide) ?_
    refine J_icmp_lt (tgt := 27) dX8_drawn_10 (by decide) (fun q4 => ?_) (fun q4 => ?_)
    · rw [if_pos q4] at hF
      refine J_iconst (v := (-1)) dX8_drawn_27 (by decide) ?_
      obtain ⟨e_r, e_z⟩ := someP hF
      subst e_r
      subst e_z
      exact J_ireturn rfl rfl dX8_drawn_28 ⟨rfl, rfl⟩
    · rw [if_neg q4] at hF
      refine J_iload_n (j := 3) dX8_drawn_13 rfl rfl ?_
      refine J_bipush (v := 50) dX8_drawn_14 (by decide) ?_
      refine J_icmp_gt (tgt := 27) dX8_drawn_16 (by decide) (fun q5 => ?_) (fun q5 => ?_)
      · rw [if_pos q5] at hF
        refine J_iconst (v := (-1)) dX8_drawn_27 (by decide) ?_
        obtain ⟨e_r, e_z⟩ := someP hF
        subst e_r
        subst e_z
        exact J_ireturn rfl rfl dX8_drawn_28 ⟨rfl, rfl⟩
      · rw [if_neg q5] at hF
        refine J_iload (j := 4) dX8_drawn_19 rfl ?_
        refine J_callSi (As := [.int a4]) (S := []) lkS_WithOneHand_179_X8_isPart dX8_drawn_21 (S_X8_isPart (by omega) rfl) (by omega) rfl rfl (Nat.le_of_ble_eq_true rfl) rfl ?_
        refine J_ifb_ne (tgt := 29) dX8_drawn_24 (by decide) (fun q6 => ?_) (fun q6 => ?_)
        · rw [if_pos q6] at hF
          refine J_aload_n (j := 0) dX8_drawn_29 rfl rfl ?_
          refine J_iload_n (j := 1) dX8_drawn_30 rfl rfl ?_
          refine J_bipush (v := 10) dX8_drawn_31 (by decide) ?_
          refine J_idiv dX8_drawn_33 (by decide) ?_
          refine J_iload_n (j := 1) dX8_drawn_34 rfl rfl ?_
          refine J_bipush (v := 10) dX8_drawn_35 (by decide) ?_
          refine J_irem dX8_drawn_37 (by decide) ?_
          obtain ⟨r7, x8, h9, hF⟩ := ob2_some hF
          refine JX_callVi (As := [.int (a1 / 10), .int (a1 % 10)]) (S := []) lkV_WithOneHand_135_X8_takesNow rfl (by decide) dX8_drawn_38 c_5 (S_X8_takesNow (by omega) h9) (by omega) rfl rfl (Nat.le_of_ble_eq_true rfl) rfl ?_
          refine J_istore (L' := [(5, .int r7), (0, .ref 5), (1, .int a1), (2, .int a2), (3, .int a3), (4, .int a4)]) dX8_drawn_41 (by decide) rfl ?_
          refine J_iload_n (j := 3) dX8_drawn_43 rfl rfl ?_
          refine J_istore (L' := [(6, .int a2), (5, .int r7), (0, .ref 5), (1, .int a1), (2, .int a2), (3, .int a3), (4, .int a4)]) dX8_drawn_44 (by decide) rfl ?_
          refine J_iconst (v := 0) dX8_drawn_46 (by decide) ?_
          refine J_istore (L' := [(7, .int 0), (6, .int a2), (5, .int r7), (0, .ref 5), (1, .int a1), (2, .int a2), (3, .int a3), (4, .int a4)]) dX8_drawn_47 (by decide) rfl ?_
          refine J_iconst (v := 0) dX8_drawn_49 (by decide) ?_
          refine J_istore (L' := [(8, .int 0), (7, .int 0), (6, .int a2), (5, .int r7), (0, .ref 5), (1, .int a1), (2, .int a2), (3, .int a3), (4, .int a4)]) dX8_drawn_50 (by decide) rfl ?_
          refine J_iconst (v := 0) dX8_drawn_52 (by decide) ?_
          refine J_istore (L' := [(9, .int 0), (8, .int 0), (7, .int 0), (6, .int a2), (5, .int r7), (0, .ref 5), (1, .int a1), (2, .int a2), (3, .int a3), (4, .int a4)]) dX8_drawn_53 (by decide) rfl ?_
          refine J_sub [5, 8, 9, 4, 3, 2, 1, 0] rfl ?_
          exact Sf_X8_drawn_55 hd _ _ _ _ _ _ _ _ _ _ _ hF
        · rw [if_neg q6] at hF
          refine J_iconst (v := (-1)) dX8_drawn_27 (by decide) ?_
          obtain ⟨e_r, e_z⟩ := someP hF
          subst e_r
          subst e_z
          exact J_ireturn rfl rfl dX8_drawn_28 ⟨rfl, rfl⟩
def B_X9_drawn_143 (K58 : Int32 → Int32 → Int32 → Int32 → Int32 → Int32 → Int32 → MM → Option (Int32 × MM)) (v3 : Int32) (v4 : Int32) (v5 : Int32) (v6 : Int32) (v7 : Int32) (v8 : Int32) (v9 : Int32) (v10 : Int32) (m : MM) : Option (Int32 × MM) :=
  K58 v3 v4 v5 v6 v7 (v8 + (f_X9_one v10)) (v9 + 1) m
theorem SB_X9_drawn_143 {g : GC} {d : Nat} {K58 : Int32 → Int32 → Int32 → Int32 → Int32 → Int32 → Int32 → MM → Option (Int32 × MM)} {v3 : Int32} {v4 : Int32} {v5 : Int32} {v6 : Int32} {v7 : Int32} {v8 : Int32} {v9 : Int32} {v10 : Int32} {x : MX} {m : MM} {r : Int32} {z : MM} (hd : 108 ≤ d) (hK58 : ∀ (v3 : Int32) (v4 : Int32) (v5 : Int32) (v6 : Int32) (v7 : Int32) (v8 : Int32) (v9 : Int32) (m : MM) (r : Int32) (z : MM), K58 v3 v4 v5 v6 v7 v8 v9 m = some (r, z) → J g m_X9_drawn d 0 0 58 [(0, .ref 80), (3, .int v3), (4, .int v4), (5, .int v5), (6, .int v6), (7, .int v7), (8, .int v8), (9, .int v9)] [] (ST x m) 0 0 (EQ (some (.int r)) (ST x z)))
  (hF : B_X9_drawn_143 K58 v3 v4 v5 v6 v7 v8 v9 v10 m = some (r, z)) : J g m_X9_drawn d 0 0 143 [(0, .ref 80), (3, .int v3), (4, .int v4), (5, .int v5), (6, .int v6), (7, .int v7), (8, .int v8), (9, .int v9), (10, .int v10)] [] (ST x m) 0 0 (EQ (some (.int r)) (ST x z)) := by
  unfold B_X9_drawn_143 at hF
  refine J_iload (j := 6) dX9_drawn_143 rfl ?_
  refine J_aload_n (j := 0) dX9_drawn_145 rfl rfl ?_
  refine J_iload (j := 8) dX9_drawn_146 rfl ?_
  refine JM_callVi (As := [.int v10]) (S := [.int v8]) lkV_WithOneHandModel_228_X9_one rfl (by decide) dX9_drawn_148 c_80 (S_X9_one (by omega) rfl) (by omega) rfl rfl (Nat.le_of_ble_eq_true rfl) rfl ?_
  refine J_iadd dX9_drawn_151 ?_
  refine J_istore (L' := [(8, .int (v8 + (f_X9_one v10))), (0, .ref 80), (3, .int v3), (4, .int v4), (5, .int v5), (6, .int v6), (7, .int v7), (9, .int v9), (10, .int v10)]) dX9_drawn_152 (by decide) rfl ?_
  refine J_iinc (j := 7) (v := v9 + 1) (L' := [(9, .int (v9 + 1)), (8, .int (v8 + (f_X9_one v10))), (0, .ref 80), (3, .int v3), (4, .int v4), (5, .int v5), (6, .int v6), (7, .int v7), (10, .int v10)]) dX9_drawn_154 rfl rfl (by decide) rfl ?_
  refine J_goto (tgt := 58) dX9_drawn_157 (by decide) ?_
  refine J_sub [2, 3, 4, 5, 6, 7, 1, 0] rfl ?_
  exact hK58 _ _ _ _ _ _ _ _ _ _  hF
def B_X9_drawn_133 (K58 : Int32 → Int32 → Int32 → Int32 → Int32 → Int32 → Int32 → MM → Option (Int32 × MM)) (K70 : Int32 → Int32 → Int32 → Int32 → Int32 → Int32 → Int32 → Int32 → Int32 → MM → Option (Int32 × MM)) (v3 : Int32) (v4 : Int32) (v5 : Int32) (v6 : Int32) (v8 : Int32) (v9 : Int32) (v10 : Int32) (v11 : Int32) (t0 : Int32) (t1 : Int32) (t2 : Int32) (m : MM) : Option (Int32 × MM) :=
  K70 v3 v4 v5 v6 (t2 + (t1 + t0)) v8 v9 v10 (v11 + 1) m
theorem SB_X9_drawn_133 {g : GC} {d : Nat} {K58 : Int32 → Int32 → Int32 → Int32 → Int32 → Int32 → Int32 → MM → Option (Int32 × MM)} {K70 : Int32 → Int32 → Int32 → Int32 → Int32 → Int32 → Int32 → Int32 → Int32 → MM → Option (Int32 × MM)} {v3 : Int32} {v4 : Int32} {v5 : Int32} {v6 : Int32} {v8 : Int32} {v9 : Int32} {v10 : Int32} {v11 : Int32} {t0 : Int32} {t1 : Int32} {t2 : Int32} {x : MX} {m : MM} {r : Int32} {z : MM} (hd : 108 ≤ d) (hK58 : ∀ (v3 : Int32) (v4 : Int32) (v5 : Int32) (v6 : Int32) (v7 : Int32) (v8 : Int32) (v9 : Int32) (m : MM) (r : Int32) (z : MM), K58 v3 v4 v5 v6 v7 v8 v9 m = some (r, z) → J g m_X9_drawn d 0 0 58 [(0, .ref 80), (3, .int v3), (4, .int v4), (5, .int v5), (6, .int v6), (7, .int v7), (8, .int v8), (9, .int v9)] [] (ST x m) 0 0 (EQ (some (.int r)) (ST x z))) (hK70 : ∀ (v3 : Int32) (v4 : Int32) (v5 : Int32) (v6 : Int32) (v7 : Int32) (v8 : Int32) (v9 : Int32) (v10 : Int32) (v11 : Int32) (m : MM) (r : Int32) (z : MM), K70 v3 v4 v5 v6 v7 v8 v9 v10 v11 m = some (r, z) → J g m_X9_drawn d 0 0 70 [(0, .ref 80), (3, .int v3), (4, .int v4), (5, .int v5), (6, .int v6), (7, .int v7), (8, .int v8), (9, .int v9), (10, .int v10), (11, .int v11)] [] (ST x m) 0 0 (EQ (some (.int r)) (ST x z)))
  (hF : B_X9_drawn_133 K58 K70 v3 v4 v5 v6 v8 v9 v10 v11 t0 t1 t2 m = some (r, z)) : J g m_X9_drawn d 0 0 133 [(0, .ref 80), (3, .int v3), (4, .int v4), (5, .int v5), (6, .int v6), (8, .int v8), (9, .int v9), (10, .int v10), (11, .int v11)] [.int t0, .int t1, .int t2] (ST x m) 0 0 (EQ (some (.int r)) (ST x z)) := by
  unfold B_X9_drawn_133 at hF
  refine J_iadd dX9_drawn_133 ?_
  refine J_iadd dX9_drawn_134 ?_
  refine J_istore (L' := [(7, .int (t2 + (t1 + t0))), (0, .ref 80), (3, .int v3), (4, .int v4), (5, .int v5), (6, .int v6), (8, .int v8), (9, .int v9), (10, .int v10), (11, .int v11)]) dX9_drawn_135 (by decide) rfl ?_
  refine J_iinc (j := 9) (v := v11 + 1) (L' := [(11, .int (v11 + 1)), (7, .int (t2 + (t1 + t0))), (0, .ref 80), (3, .int v3), (4, .int v4), (5, .int v5), (6, .int v6), (8, .int v8), (9, .int v9), (10, .int v10)]) dX9_drawn_137 rfl rfl (by decide) rfl ?_
  refine J_goto (tgt := 70) dX9_drawn_140 (by decide) ?_
  refine J_sub [2, 3, 4, 5, 6, 1, 7, 8, 9, 0] rfl ?_
  exact hK70 _ _ _ _ _ _ _ _ _ _ _ _  hF
def B_X9_drawn_114 (K58 : Int32 → Int32 → Int32 → Int32 → Int32 → Int32 → Int32 → MM → Option (Int32 × MM)) (K70 : Int32 → Int32 → Int32 → Int32 → Int32 → Int32 → Int32 → Int32 → Int32 → MM → Option (Int32 × MM)) (v3 : Int32) (v4 : Int32) (v5 : Int32) (v6 : Int32) (v7 : Int32) (v8 : Int32) (v9 : Int32) (v11 : Int32) (t0 : Int32) (m : MM) : Option (Int32 × MM) :=
  if t0 = 0 then
  B_X9_drawn_133 K58 K70 v3 v4 v5 v6 v8 v9 t0 v11 0 v6 v7 m
  else
  B_X9_drawn_133 K58 K70 v3 v4 v5 v6 v8 v9 t0 v11 (mi m 80 4) v6 v7 m
theorem SB_X9_drawn_114 {g : GC} {d : Nat} {K58 : Int32 → Int32 → Int32 → Int32 → Int32 → Int32 → Int32 → MM → Option (Int32 × MM)} {K70 : Int32 → Int32 → Int32 → Int32 → Int32 → Int32 → Int32 → Int32 → Int32 → MM → Option (Int32 × MM)} {v3 : Int32} {v4 : Int32} {v5 : Int32} {v6 : Int32} {v7 : Int32} {v8 : Int32} {v9 : Int32} {v11 : Int32} {t0 : Int32} {x : MX} {m : MM} {r : Int32} {z : MM} (hd : 108 ≤ d) (hK58 : ∀ (v3 : Int32) (v4 : Int32) (v5 : Int32) (v6 : Int32) (v7 : Int32) (v8 : Int32) (v9 : Int32) (m : MM) (r : Int32) (z : MM), K58 v3 v4 v5 v6 v7 v8 v9 m = some (r, z) → J g m_X9_drawn d 0 0 58 [(0, .ref 80), (3, .int v3), (4, .int v4), (5, .int v5), (6, .int v6), (7, .int v7), (8, .int v8), (9, .int v9)] [] (ST x m) 0 0 (EQ (some (.int r)) (ST x z))) (hK70 : ∀ (v3 : Int32) (v4 : Int32) (v5 : Int32) (v6 : Int32) (v7 : Int32) (v8 : Int32) (v9 : Int32) (v10 : Int32) (v11 : Int32) (m : MM) (r : Int32) (z : MM), K70 v3 v4 v5 v6 v7 v8 v9 v10 v11 m = some (r, z) → J g m_X9_drawn d 0 0 70 [(0, .ref 80), (3, .int v3), (4, .int v4), (5, .int v5), (6, .int v6), (7, .int v7), (8, .int v8), (9, .int v9), (10, .int v10), (11, .int v11)] [] (ST x m) 0 0 (EQ (some (.int r)) (ST x z)))
  (hF : B_X9_drawn_114 K58 K70 v3 v4 v5 v6 v7 v8 v9 v11 t0 m = some (r, z)) : J g m_X9_drawn d 0 0 114 [(0, .ref 80), (3, .int v3), (4, .int v4), (5, .int v5), (6, .int v6), (7, .int v7), (8, .int v8), (9, .int v9), (11, .int v11)] [.int t0] (ST x m) 0 0 (EQ (some (.int r)) (ST x z)) := by
  unfold B_X9_drawn_114 at hF
  refine J_istore (L' := [(10, .int t0), (0, .ref 80), (3, .int v3), (4, .int v4), (5, .int v5), (6, .int v6), (7, .int v7), (8, .int v8), (9, .int v9), (11, .int v11)]) dX9_drawn_114 (by decide) rfl ?_
  refine J_iload (j := 6) dX9_drawn_116 rfl ?_
  refine J_iload (j := 5) dX9_drawn_118 rfl ?_
  refine J_iload (j := 0) dX9_drawn_120 rfl ?_
  refine J_if_eq (tgt := 132) dX9_drawn_122 (by decide) (fun q15 => ?_) (fun q15 => ?_)
  · rw [if_pos q15] at hF
    refine J_iconst (v := 0) dX9_drawn_132 (by decide) ?_
    refine J_sub [1, 2, 3, 4, 5, 7, 8, 0, 9] rfl ?_
    exact SB_X9_drawn_133 hd hK58 hK70 hF
  · rw [if_neg q15] at hF
    refine J_aload_n (j := 1) dX9_drawn_125 rfl rfl ?_
    refine JM_getI fl_WithOneHandModel_7_8 dX9_drawn_126 c_80 rfl ?_
    refine J_goto (tgt := 133) dX9_drawn_129 (by decide) ?_
    refine J_sub [1, 2, 3, 4, 5, 7, 8, 0, 9] rfl ?_
    exact SB_X9_drawn_133 hd hK58 hK70 hF
def B_X9_drawn_70 (K58 : Int32 → Int32 → Int32 → Int32 → Int32 → Int32 → Int32 → MM → Option (Int32 × MM)) (K70 : Int32 → Int32 → Int32 → Int32 → Int32 → Int32 → Int32 → Int32 → Int32 → MM → Option (Int32 × MM)) (v3 : Int32) (v4 : Int32) (v5 : Int32) (v6 : Int32) (v7 : Int32) (v8 : Int32) (v9 : Int32) (v10 : Int32) (v11 : Int32) (m : MM) : Option (Int32 × MM) :=
  if 20 ≤ v11 then
  B_X9_drawn_143 K58 v3 v4 v5 v6 v7 v8 v9 v10 m
  else
  if v10 = 0 then
  B_X9_drawn_143 K58 v3 v4 v5 v6 v7 v8 v9 v10 m
  else
  letx ((v5 * 1103515245) + 12345) (fun y13 =>
  if (mi m 80 3) ≤ ((iush y13 8) % 12) then
  B_X9_drawn_114 K58 K70 v3 v4 y13 v6 v7 v8 v9 v11 0 m
  else
  B_X9_drawn_114 K58 K70 v3 v4 y13 v6 v7 v8 v9 v11 1 m)
theorem SB_X9_drawn_70 {g : GC} {d : Nat} {K58 : Int32 → Int32 → Int32 → Int32 → Int32 → Int32 → Int32 → MM → Option (Int32 × MM)} {K70 : Int32 → Int32 → Int32 → Int32 → Int32 → Int32 → Int32 → Int32 → Int32 → MM → Option (Int32 × MM)} {v3 : Int32} {v4 : Int32} {v5 : Int32} {v6 : Int32} {v7 : Int32} {v8 : Int32} {v9 : Int32} {v10 : Int32} {v11 : Int32} {x : MX} {m : MM} {r : Int32} {z : MM} (hd : 108 ≤ d) (hK58 : ∀ (v3 : Int32) (v4 : Int32) (v5 : Int32) (v6 : Int32) (v7 : Int32) (v8 : Int32) (v9 : Int32) (m : MM) (r : Int32) (z : MM), K58 v3 v4 v5 v6 v7 v8 v9 m = some (r, z) → J g m_X9_drawn d 0 0 58 [(0, .ref 80), (3, .int v3), (4, .int v4), (5, .int v5), (6, .int v6), (7, .int v7), (8, .int v8), (9, .int v9)] [] (ST x m) 0 0 (EQ (some (.int r)) (ST x z))) (hK70 : ∀ (v3 : Int32) (v4 : Int32) (v5 : Int32) (v6 : Int32) (v7 : Int32) (v8 : Int32) (v9 : Int32) (v10 : Int32) (v11 : Int32) (m : MM) (r : Int32) (z : MM), K70 v3 v4 v5 v6 v7 v8 v9 v10 v11 m = some (r, z) → J g m_X9_drawn d 0 0 70 [(0, .ref 80), (3, .int v3), (4, .int v4), (5, .int v5), (6, .int v6), (7, .int v7), (8, .int v8), (9, .int v9), (10, .int v10), (11, .int v11)] [] (ST x m) 0 0 (EQ (some (.int r)) (ST x z)))
  (hF : B_X9_drawn_70 K58 K70 v3 v4 v5 v6 v7 v8 v9 v10 v11 m = some (r, z)) : J g m_X9_drawn d 0 0 70 [(0, .ref 80), (3, .int v3), (4, .int v4), (5, .int v5), (6, .int v6), (7, .int v7), (8, .int v8), (9, .int v9), (10, .int v10), (11, .int v11)] [] (ST x m) 0 0 (EQ (some (.int r)) (ST x z)) := by
  unfold B_X9_drawn_70 at hF
  refine J_iload (j := 9) dX9_drawn_70 rfl ?_
  refine J_bipush (v := 20) dX9_drawn_72 (by decide) ?_
  refine J_icmp_ge (tgt := 143) dX9_drawn_74 (by decide) (fun q11 => ?_) (fun q11 => ?_)
  · rw [if_pos q11] at hF
    refine J_sub [0, 1, 2, 3, 4, 5, 6, 7, 8] rfl ?_
    exact SB_X9_drawn_143 hd hK58 hF
  · rw [if_neg q11] at hF
    refine J_iload (j := 8) dX9_drawn_77 rfl ?_
    refine J_if_eq (tgt := 143) dX9_drawn_79 (by decide) (fun q12 => ?_) (fun q12 => ?_)
    · rw [if_pos q12] at hF
      refine J_sub [0, 1, 2, 3, 4, 5, 6, 7, 8] rfl ?_
      exact SB_X9_drawn_143 hd hK58 hF
    · rw [if_neg q12] at hF
      refine J_iload (j := 3) dX9_drawn_82 rfl ?_
      refine J_ldc_w (v := 1103515245) (tb 1362 (by decide +kernel)) dX9_drawn_84 ?_
      refine J_imul dX9_drawn_87 ?_
      refine J_sipush (v := 12345) dX9_drawn_88 (by decide) ?_
      refine J_iadd dX9_drawn_91 ?_
      obtain ⟨y13, e_y13, hF⟩ := letx_eq hF
      rw [← e_y13]
      refine J_istore (L' := [(5, .int y13), (0, .ref 80), (3, .int v3), (4, .int v4), (6, .int v6), (7, .int v7), (8, .int v8), (9, .int v9), (10, .int v10), (11, .int v11)]) dX9_drawn_92 (by decide) rfl ?_
      refine J_iload (j := 0) dX9_drawn_94 rfl ?_
      refine J_bipush (v := 8) dX9_drawn_96 (by decide) ?_
      refine J_iushr dX9_drawn_98 ?_
      refine J_bipush (v := 12) dX9_drawn_99 (by decide) ?_
      refine J_irem dX9_drawn_101 (by decide) ?_
      refine J_aload_n (j := 1) dX9_drawn_102 rfl rfl ?_
      refine JM_getI fl_WithOneHandModel_139_8 dX9_drawn_103 c_80 rfl ?_
      refine J_icmp_ge (tgt := 113) dX9_drawn_106 (by decide) (fun q14 => ?_) (fun q14 => ?_)
      · rw [if_pos q14] at hF
        refine J_iconst (v := 0) dX9_drawn_113 (by decide) ?_
        refine J_sub [1, 2, 3, 0, 4, 5, 6, 7, 9] rfl ?_
        exact SB_X9_drawn_114 hd hK58 hK70 hF
      · rw [if_neg q14] at hF
        refine J_iconst (v := 1) dX9_drawn_109 (by decide) ?_
        refine J_goto (tgt := 114) dX9_drawn_110 (by decide) ?_
        refine J_sub [1, 2, 3, 0, 4, 5, 6, 7, 9] rfl ?_
        exact SB_X9_drawn_114 hd hK58 hK70 hF
def f_X9_drawn_70 (K58 : Int32 → Int32 → Int32 → Int32 → Int32 → Int32 → Int32 → MM → Option (Int32 × MM)) : Nat → Int32 → Int32 → Int32 → Int32 → Int32 → Int32 → Int32 → Int32 → Int32 → MM → Option (Int32 × MM)
  | 0 => fun _ _ _ _ _ _ _ _ _ _ => none
  | n + 1 => fun v3 v4 v5 v6 v7 v8 v9 v10 v11 m => B_X9_drawn_70 K58 (f_X9_drawn_70 K58 n) v3 v4 v5 v6 v7 v8 v9 v10 v11 m
theorem Sf_X9_drawn_70 {g : GC} {d : Nat} {x : MX} {K58 : Int32 → Int32 → Int32 → Int32 → Int32 → Int32 → Int32 → MM → Option (Int32 × MM)} (hd : 108 ≤ d) (hK58 : ∀ (v3 : Int32) (v4 : Int32) (v5 : Int32) (v6 : Int32) (v7 : Int32) (v8 : Int32) (v9 : Int32) (m : MM) (r : Int32) (z : MM), K58 v3 v4 v5 v6 v7 v8 v9 m = some (r, z) → J g m_X9_drawn d 0 0 58 [(0, .ref 80), (3, .int v3), (4, .int v4), (5, .int v5), (6, .int v6), (7, .int v7), (8, .int v8), (9, .int v9)] [] (ST x m) 0 0 (EQ (some (.int r)) (ST x z))) : ∀ (n : Nat) (v3 : Int32) (v4 : Int32) (v5 : Int32) (v6 : Int32) (v7 : Int32) (v8 : Int32) (v9 : Int32) (v10 : Int32) (v11 : Int32) (m : MM) (r : Int32) (z : MM), f_X9_drawn_70 K58 n v3 v4 v5 v6 v7 v8 v9 v10 v11 m = some (r, z) → J g m_X9_drawn d 0 0 70 [(0, .ref 80), (3, .int v3), (4, .int v4), (5, .int v5), (6, .int v6), (7, .int v7), (8, .int v8), (9, .int v9), (10, .int v10), (11, .int v11)] [] (ST x m) 0 0 (EQ (some (.int r)) (ST x z)) := by
  intro n
  induction n with
  | zero => intro v3 v4 v5 v6 v7 v8 v9 v10 v11 m r z  hF; exact absurd hF (fun q => by cases q)
  | succ n ih =>
    intro v3 v4 v5 v6 v7 v8 v9 v10 v11 m r z  hF
    exact SB_X9_drawn_70 hd hK58 (fun v3 v4 v5 v6 v7 v8 v9 v10 v11 m r z  hF => ih v3 v4 v5 v6 v7 v8 v9 v10 v11 m r z  hF) hF
def B_X9_drawn_58 (K58 : Int32 → Int32 → Int32 → Int32 → Int32 → Int32 → Int32 → MM → Option (Int32 × MM)) (v3 : Int32) (v4 : Int32) (v5 : Int32) (v6 : Int32) (v7 : Int32) (v8 : Int32) (v9 : Int32) (m : MM) : Option (Int32 × MM) :=
  if v3 ≤ v9 then
  if v4 = 0 then
  some (v7, m)
  else
  some (v8, m)
  else
  f_X9_drawn_70 K58 LF v3 v4 v5 v6 v7 v8 v9 1 0 m
theorem SB_X9_drawn_58 {g : GC} {d : Nat} {K58 : Int32 → Int32 → Int32 → Int32 → Int32 → Int32 → Int32 → MM → Option (Int32 × MM)} {v3 : Int32} {v4 : Int32} {v5 : Int32} {v6 : Int32} {v7 : Int32} {v8 : Int32} {v9 : Int32} {x : MX} {m : MM} {r : Int32} {z : MM} (hd : 108 ≤ d) (hK58 : ∀ (v3 : Int32) (v4 : Int32) (v5 : Int32) (v6 : Int32) (v7 : Int32) (v8 : Int32) (v9 : Int32) (m : MM) (r : Int32) (z : MM), K58 v3 v4 v5 v6 v7 v8 v9 m = some (r, z) → J g m_X9_drawn d 0 0 58 [(0, .ref 80), (3, .int v3), (4, .int v4), (5, .int v5), (6, .int v6), (7, .int v7), (8, .int v8), (9, .int v9)] [] (ST x m) 0 0 (EQ (some (.int r)) (ST x z)))
  (hF : B_X9_drawn_58 K58 v3 v4 v5 v6 v7 v8 v9 m = some (r, z)) : J g m_X9_drawn d 0 0 58 [(0, .ref 80), (3, .int v3), (4, .int v4), (5, .int v5), (6, .int v6), (7, .int v7), (8, .int v8), (9, .int v9)] [] (ST x m) 0 0 (EQ (some (.int r)) (ST x z)) := by
  unfold B_X9_drawn_58 at hF
  refine J_iload (j := 7) dX9_drawn_58 rfl ?_
  refine J_iload_n (j := 1) dX9_drawn_60 rfl rfl ?_
  refine J_icmp_ge (tgt := 160) dX9_drawn_61 (by decide) (fun q9 => ?_) (fun q9 => ?_)
  · rw [if_pos q9] at hF
    refine J_iload (j := 2) dX9_drawn_160 rfl ?_
    refine J_if_ne (tgt := 170) dX9_drawn_162 (by decide) (fun q10 => ?_) (fun q10 => ?_)
    · rw [if_neg q10] at hF
      refine J_iload (j := 6) dX9_drawn_170 rfl ?_
      obtain ⟨e_r, e_z⟩ := someP hF
      subst e_r
      subst e_z
      exact J_ireturn rfl rfl dX9_drawn_172 ⟨rfl, rfl⟩
    · rw [if_pos q10] at hF
      refine J_iload (j := 5) dX9_drawn_165 rfl ?_
      refine J_goto (tgt := 172) dX9_drawn_167 (by decide) ?_
      obtain ⟨e_r, e_z⟩ := someP hF
      subst e_r
      subst e_z
      exact J_ireturn rfl rfl dX9_drawn_172 ⟨rfl, rfl⟩
  · rw [if_neg q9] at hF
    refine J_iconst (v := 1) dX9_drawn_64 (by decide) ?_
    refine J_istore (L' := [(10, .int 1), (0, .ref 80), (3, .int v3), (4, .int v4), (5, .int v5), (6, .int v6), (7, .int v7), (8, .int v8), (9, .int v9)]) dX9_drawn_65 (by decide) rfl ?_
    refine J_iconst (v := 0) dX9_drawn_67 (by decide) ?_
    refine J_istore (L' := [(11, .int 0), (10, .int 1), (0, .ref 80), (3, .int v3), (4, .int v4), (5, .int v5), (6, .int v6), (7, .int v7), (8, .int v8), (9, .int v9)]) dX9_drawn_68 (by decide) rfl ?_
    refine J_sub [2, 3, 4, 5, 6, 7, 8, 9, 1, 0] rfl ?_
    exact Sf_X9_drawn_70 hd hK58 _ _ _ _ _ _ _ _ _ _ _ _ _ hF
def f_X9_drawn_58  : Nat → Int32 → Int32 → Int32 → Int32 → Int32 → Int32 → Int32 → MM → Option (Int32 × MM)
  | 0 => fun _ _ _ _ _ _ _ _ => none
  | n + 1 => fun v3 v4 v5 v6 v7 v8 v9 m => B_X9_drawn_58 (f_X9_drawn_58  n) v3 v4 v5 v6 v7 v8 v9 m
theorem Sf_X9_drawn_58 {g : GC} {d : Nat} {x : MX} (hd : 108 ≤ d)  : ∀ (n : Nat) (v3 : Int32) (v4 : Int32) (v5 : Int32) (v6 : Int32) (v7 : Int32) (v8 : Int32) (v9 : Int32) (m : MM) (r : Int32) (z : MM), f_X9_drawn_58  n v3 v4 v5 v6 v7 v8 v9 m = some (r, z) → J g m_X9_drawn d 0 0 58 [(0, .ref 80), (3, .int v3), (4, .int v4), (5, .int v5), (6, .int v6), (7, .int v7), (8, .int v8), (9, .int v9)] [] (ST x m) 0 0 (EQ (some (.int r)) (ST x z)) := by
  intro n
  induction n with
  | zero => intro v3 v4 v5 v6 v7 v8 v9 m r z  hF; exact absurd hF (fun q => by cases q)
  | succ n ih =>
    intro v3 v4 v5 v6 v7 v8 v9 m r z  hF
    exact SB_X9_drawn_58 hd (fun v3 v4 v5 v6 v7 v8 v9 m r z  hF => ih v3 v4 v5 v6 v7 v8 v9 m r z  hF) hF
def f_X9_drawn (a1 : Int32) (a2 : Int32) (a3 : Int32) (a4 : Int32) (m : MM) : Option (Int32 × MM) :=
  ob (f_X9_isPair a1 m) (fun r1 =>
  if r1 = true then
  if (f_X9_isIn a3 1 50) = true then
  if (f_X9_isIn a4 0 1) = true then
  ob2 (f_X9_takesNow (a1 / 10) (a1 % 10) m) (fun r6 m7 =>
  f_X9_drawn_58 LF a3 a4 a2 r6 0 0 0 m7)
  else
  some ((-1), m)
  else
  some ((-1), m)
  else
  some ((-1), m))
theorem S_X9_drawn {g : GC} {d : Nat} {a1 : Int32} {a2 : Int32} {a3 : Int32} {a4 : Int32} {x : MX} {m : MM} {r : Int32} {z : MM} (hd : 108 ≤ d) 
  (hF : f_X9_drawn a1 a2 a3 a4 m = some (r, z)) : JC g m_X9_drawn d 0 0 [.ref 80, .int a1, .int a2, .int a3, .int a4] (ST x m) (EQ (some (.int r)) (ST x z)) := by
  refine JC.of (by decide +kernel) (Nat.le_of_ble_eq_true rfl) ?_
  change J g m_X9_drawn d 0 0 0 [(0, .ref 80), (1, .int a1), (2, .int a2), (3, .int a3), (4, .int a4)] [] (ST x m) 0 0 (EQ (some (.int r)) (ST x z))
  unfold f_X9_drawn at hF
  refine J_aload_n (j := 0) dX9_drawn_0 rfl rfl ?_
  refine J_iload_n (j := 1) dX9_drawn_1 rfl rfl ?_
  obtain ⟨r1, h2, hF⟩ := ob_some hF
  refine JM_callVi (As := [.int a1]) (S := []) lkV_WithOneHandModel_261_X9_isPair rfl (by decide) dX9_drawn_2 c_80 (S_X9_isPair (by omega) h2) (by omega) rfl rfl (Nat.le_of_ble_eq_true rfl) rfl ?_
  refine J_ifb_eq (tgt := 30) dX9_drawn_5 (by decide) (fun q3 => ?_) (fun q3 => ?_)
  · rw [if_neg q3] at hF
    refine J_iconst (v := (-1)) dX9_drawn_30 (by decide) ?_
    obtain ⟨e_r, e_z⟩ := someP hF
    subst e_r
    subst e_z
    exact J_ireturn rfl rfl dX9_drawn_31 ⟨rfl, rfl⟩
  · rw [if_pos q3] at hF
    refine J_aload_n (j := 0) dX9_drawn_8 rfl rfl ?_
    refine J_iload_n (j := 3) dX9_drawn_9 rfl rfl ?_
    refine J_iconst (v := 1) dX9_drawn_10 (by decide) ?_
    refine J_bipush (v := 50) dX9_drawn_11 (by decide) ?_
    refine JM_callVi (As := [.int a3, .int 1, .int 50]) (S := []) lkV_WithOneHandModel_114_X9_isIn rfl (by decide) dX9_drawn_13 c_80 (S_X9_isIn (by omega) rfl) (by omega) rfl rfl (Nat.le_of_ble_eq_true rfl) rfl ?_
    refine J_ifb_eq (tgt := 30) dX9_drawn_16 (by decide) (fun q4 => ?_) (fun q4 => ?_)
    · rw [if_neg q4] at hF
      refine J_iconst (v := (-1)) dX9_drawn_30 (by decide) ?_
      obtain ⟨e_r, e_z⟩ := someP hF
      subst e_r
      subst e_z
      exact J_ireturn rfl rfl dX9_drawn_31 ⟨rfl, rfl⟩
    · rw [if_pos q4] at hF
      refine J_aload_n (j := 0) dX9_drawn_19 rfl rfl ?_
      refine J_iload (j := 4) dX9_drawn_20 rfl ?_
      refine J_iconst (v := 0) dX9_drawn_22 (by decide) ?_
      refine J_iconst (v := 1) dX9_drawn_23 (by decide) ?_
      refine JM_callVi (As := [.int a4, .int 0, .int 1]) (S := []) lkV_WithOneHandModel_114_X9_isIn rfl (by decide) dX9_drawn_24 c_80 (S_X9_isIn (by omega) rfl) (by omega) rfl rfl (Nat.le_of_ble_eq_true rfl) rfl ?_
      refine J_ifb_ne (tgt := 32) dX9_drawn_27 (by decide) (fun q5 => ?_) (fun q5 => ?_)
      · rw [if_pos q5] at hF
        refine J_iload_n (j := 2) dX9_drawn_32 rfl rfl ?_
        refine J_istore (L' := [(5, .int a2), (0, .ref 80), (1, .int a1), (2, .int a2), (3, .int a3), (4, .int a4)]) dX9_drawn_33 (by decide) rfl ?_
        refine J_aload_n (j := 1) dX9_drawn_35 rfl rfl ?_
        refine J_iload_n (j := 2) dX9_drawn_36 rfl rfl ?_
        refine J_bipush (v := 10) dX9_drawn_37 (by decide) ?_
        refine J_idiv dX9_drawn_39 (by decide) ?_
        refine J_iload_n (j := 2) dX9_drawn_40 rfl rfl ?_
        refine J_bipush (v := 10) dX9_drawn_41 (by decide) ?_
        refine J_irem dX9_drawn_43 (by decide) ?_
        obtain ⟨r6, m7, h8, hF⟩ := ob2_some hF
        refine JM_callVi (As := [.int (a1 / 10), .int (a1 % 10)]) (S := []) lkV_WithOneHandModel_264_X9_takesNow rfl (by decide) dX9_drawn_44 c_80 (S_X9_takesNow (by omega) h8) (by omega) rfl rfl (Nat.le_of_ble_eq_true rfl) rfl ?_
        refine J_istore (L' := [(6, .int r6), (5, .int a2), (0, .ref 80), (1, .int a1), (2, .int a2), (3, .int a3), (4, .int a4)]) dX9_drawn_47 (by decide) rfl ?_
        refine J_iconst (v := 0) dX9_drawn_49 (by decide) ?_
        refine J_istore (L' := [(7, .int 0), (6, .int r6), (5, .int a2), (0, .ref 80), (1, .int a1), (2, .int a2), (3, .int a3), (4, .int a4)]) dX9_drawn_50 (by decide) rfl ?_
        refine J_iconst (v := 0) dX9_drawn_52 (by decide) ?_
        refine J_istore (L' := [(8, .int 0), (7, .int 0), (6, .int r6), (5, .int a2), (0, .ref 80), (1, .int a1), (2, .int a2), (3, .int a3), (4, .int a4)]) dX9_drawn_53 (by decide) rfl ?_
        refine J_iconst (v := 0) dX9_drawn_55 (by decide) ?_
        refine J_istore (L' := [(9, .int 0), (8, .int 0), (7, .int 0), (6, .int r6), (5, .int a2), (0, .ref 80), (1, .int a1), (2, .int a2), (3, .int a3), (4, .int a4)]) dX9_drawn_56 (by decide) rfl ?_
        refine J_sub [5, 8, 9, 4, 3, 2, 1, 0] rfl ?_
        exact Sf_X9_drawn_58 hd _ _ _ _ _ _ _ _ _ _ _ hF
      · rw [if_neg q5] at hF
        refine J_iconst (v := (-1)) dX9_drawn_30 (by decide) ?_
        obtain ⟨e_r, e_z⟩ := someP hF
        subst e_r
        subst e_z
        exact J_ireturn rfl rfl dX9_drawn_31 ⟨rfl, rfl⟩
def B_X0_isIn_25_2 (K2 : Int32 → Int32 → Option Bool) (v1 : Int32) (v2 : Int32) (x : MX) : Option Bool :=
  if 6 ≤ v2 then
  some false
  else
  if inb v2 6 = true then
  if (xi x 26 (ix v2)) = v1 then
  some true
  else
  K2 v1 (v2 + 1)
  else none
theorem SB_X0_isIn_25_2 {g : GC} {d : Nat} {K2 : Int32 → Int32 → Option Bool} {v1 : Int32} {v2 : Int32} {x : MX} {m : MM} {r : Bool} (hd : 1 ≤ d) (hK2 : ∀ (v1 : Int32) (v2 : Int32) (r : Bool), K2 v1 v2 = some r → J g m_X0_isIn d 0 0 2 [(0, .ref 25), (1, .int v1), (2, .int v2)] [] (ST x m) 0 0 (EQ (some (.int (b2i r))) (ST x m)))
  (hF : B_X0_isIn_25_2 K2 v1 v2 x = some r) : J g m_X0_isIn d 0 0 2 [(0, .ref 25), (1, .int v1), (2, .int v2)] [] (ST x m) 0 0 (EQ (some (.int (b2i r))) (ST x m)) := by
  unfold B_X0_isIn_25_2 at hF
  refine J_iload_n (j := 2) dX0_isIn_2 rfl rfl ?_
  refine J_bipush (v := 6) dX0_isIn_3 (by decide) ?_
  refine J_icmp_ge (tgt := 26) dX0_isIn_5 (by decide) (fun q1 => ?_) (fun q1 => ?_)
  · rw [if_pos q1] at hF
    refine J_iconst (v := 0) dX0_isIn_26 (by decide) ?_
    have e_r := Option.some.inj hF
    subst e_r
    exact J_ireturn rfl rfl dX0_isIn_27 ⟨rfl, rfl⟩
  · rw [if_neg q1] at hF
    refine J_aload_n (j := 0) dX0_isIn_8 rfl rfl ?_
    refine JX_getR (r := 26) fl_Deeds_9_0 dX0_isIn_9 c_25 rfl rfl ?_
    refine J_iload_n (j := 2) dX0_isIn_12 rfl rfl ?_
    obtain ⟨b2, hF⟩ := chk hF
    refine JX_iald (j := ix v2) dX0_isIn_13 c_26 (inb_vp b2) rfl ?_
    refine J_iload_n (j := 1) dX0_isIn_14 rfl rfl ?_
    refine J_icmp_ne (tgt := 20) dX0_isIn_15 (by decide) (fun q3 => ?_) (fun q3 => ?_)
    · rw [if_neg q3] at hF
      refine J_iinc (j := 2) (v := v2 + 1) (L' := [(2, .int (v2 + 1)), (0, .ref 25), (1, .int v1)]) dX0_isIn_20 rfl rfl (by decide) rfl ?_
      refine J_goto (tgt := 2) dX0_isIn_23 (by decide) ?_
      refine J_sub [1, 2, 0] rfl ?_
      exact hK2 _ _ _  hF
    · rw [if_pos q3] at hF
      refine J_iconst (v := 1) dX0_isIn_18 (by decide) ?_
      have e_r := Option.some.inj hF
      subst e_r
      exact J_ireturn rfl rfl dX0_isIn_19 ⟨rfl, rfl⟩
def f_X0_isIn_25_2 (x : MX) : Nat → Int32 → Int32 → Option Bool
  | 0 => fun _ _ => none
  | n + 1 => fun v1 v2 => B_X0_isIn_25_2 (f_X0_isIn_25_2 x n) v1 v2 x
theorem Sf_X0_isIn_25_2 {g : GC} {d : Nat} {x : MX} {m : MM} (hd : 1 ≤ d)  : ∀ (n : Nat) (v1 : Int32) (v2 : Int32) (r : Bool), f_X0_isIn_25_2 x n v1 v2 = some r → J g m_X0_isIn d 0 0 2 [(0, .ref 25), (1, .int v1), (2, .int v2)] [] (ST x m) 0 0 (EQ (some (.int (b2i r))) (ST x m)) := by
  intro n
  induction n with
  | zero => intro v1 v2 r  hF; exact absurd hF (fun q => by cases q)
  | succ n ih =>
    intro v1 v2 r  hF
    exact SB_X0_isIn_25_2 hd (fun v1 v2 r  hF => ih v1 v2 r  hF) hF
def f_X0_isIn_25 (a1 : Int32) (x : MX) : Option Bool :=
  f_X0_isIn_25_2 x LF a1 0
theorem S_X0_isIn_25 {g : GC} {d : Nat} {a1 : Int32} {x : MX} {m : MM} {r : Bool} (hd : 1 ≤ d) 
  (hF : f_X0_isIn_25 a1 x = some r) : JC g m_X0_isIn d 0 0 [.ref 25, .int a1] (ST x m) (EQ (some (.int (b2i r))) (ST x m)) := by
  refine JC.of (by decide +kernel) (Nat.le_of_ble_eq_true rfl) ?_
  change J g m_X0_isIn d 0 0 0 [(0, .ref 25), (1, .int a1)] [] (ST x m) 0 0 (EQ (some (.int (b2i r))) (ST x m))
  unfold f_X0_isIn_25 at hF
  refine J_iconst (v := 0) dX0_isIn_0 (by decide) ?_
  refine J_istore_n (L' := [(2, .int 0), (0, .ref 25), (1, .int a1)]) dX0_isIn_1 rfl (by decide) rfl ?_
  refine J_sub [1, 2, 0] rfl ?_
  exact Sf_X0_isIn_25_2 hd _ _ _ _ hF
def f_X8_puts (a1 : Int32) (x : MX) : Option (Int32 × MX) :=
  ob (f_X8_isLinkAndCuff a1 x) (fun r1 =>
  if r1 = true then
  if inb (a1 % 10) 6 = true then
  if (xi x 26 (ix (a1 % 10))) = (-2) then
  ob (f_X0_isIn_25 (a1 / 10) x) (fun r6 =>
  if r6 = true then
  some ((-5), x)
  else
  ob2 (f_X8_takesNow (a1 / 10) (a1 % 10) x) (fun r9 x10 =>
  if inb (a1 % 10) 8 = true then
  letx (xs x10 26 (ix (a1 % 10)) (a1 / 10)) (fun x13 =>
  letx (xs x13 27 0 ((xi x13 27 0) + r9)) (fun x14 =>
  letx (xs x14 27 1 ((xi x14 27 1) + 1)) (fun x15 =>
  if inb (xi x10 11 (ix (a1 % 10))) 8 = true then
  letx (xs x15 15 (ix (xi x10 11 (ix (a1 % 10)))) (imin 99 ((xi x15 15 (ix (xi x10 11 (ix (a1 % 10))))) + 1))) (fun x17 =>
  some (r9, x17))
  else none)))
  else none))
  else
  some ((-5), x)
  else none
  else
  some ((-1), x))
theorem S_X8_puts {g : GC} {d : Nat} {a1 : Int32} {x : MX} {m : MM} {r : Int32} {z : MX} (hd : 6 ≤ d) 
  (hF : f_X8_puts a1 x = some (r, z)) : JC g m_X8_puts d 0 0 [.ref 5, .int a1] (ST x m) (EQ (some (.int r)) (ST z m)) := by
  refine JC.of (by decide +kernel) (Nat.le_of_ble_eq_true rfl) ?_
  change J g m_X8_puts d 0 0 0 [(0, .ref 5), (1, .int a1)] [] (ST x m) 0 0 (EQ (some (.int r)) (ST z m))
  unfold f_X8_puts at hF
  refine J_aload_n (j := 0) dX8_puts_0 rfl rfl ?_
  refine J_iload_n (j := 1) dX8_puts_1 rfl rfl ?_
  obtain ⟨r1, h2, hF⟩ := ob_some hF
  refine JX_callVi (As := [.int a1]) (S := []) lkV_WithOneHand_132_X8_isLinkAndCuff rfl (by decide) dX8_puts_2 c_5 (S_X8_isLinkAndCuff (by omega) h2) (by omega) rfl rfl (Nat.le_of_ble_eq_true rfl) rfl ?_
  refine J_ifb_ne (tgt := 10) dX8_puts_5 (by decide) (fun q3 => ?_) (fun q3 => ?_)
  · rw [if_pos q3] at hF
    refine J_iload_n (j := 1) dX8_puts_10 rfl rfl ?_
    refine J_bipush (v := 10) dX8_puts_11 (by decide) ?_
    refine J_idiv dX8_puts_13 (by decide) ?_
    refine J_istore_n (L' := [(2, .int (a1 / 10)), (0, .ref 5), (1, .int a1)]) dX8_puts_14 rfl (by decide) rfl ?_
    refine J_iload_n (j := 2) dX8_puts_15 rfl rfl ?_
    refine J_bipush (v := 10) dX8_puts_16 (by decide) ?_
    refine J_irem dX8_puts_18 (by decide) ?_
    refine J_istore_n (L' := [(3, .int (a1 % 10)), (2, .int (a1 / 10)), (0, .ref 5), (1, .int a1)]) dX8_puts_19 rfl (by decide) rfl ?_
    refine J_aload_n (j := 2) dX8_puts_20 rfl rfl ?_
    refine JX_getR (r := 25) fl_WithOneHand_24_7 dX8_puts_21 c_5 rfl rfl ?_
    refine JX_getR (r := 26) fl_WithOneHand_119_0 dX8_puts_24 c_25 rfl rfl ?_
    refine J_iload_n (j := 0) dX8_puts_27 rfl rfl ?_
    obtain ⟨b4, hF⟩ := chk hF
    refine JX_iald (j := ix (a1 % 10)) dX8_puts_28 c_26 (inb_vp b4) rfl ?_
    refine J_bipush (v := (-2)) dX8_puts_29 (by decide) ?_
    refine J_icmp_ne (tgt := 45) dX8_puts_31 (by decide) (fun q5 => ?_) (fun q5 => ?_)
    · rw [if_neg q5] at hF
      refine J_bipush (v := (-5)) dX8_puts_45 (by decide) ?_
      obtain ⟨e_r, e_z⟩ := someP hF
      subst e_r
      subst e_z
      exact J_ireturn rfl rfl dX8_puts_47 ⟨rfl, rfl⟩
    · rw [if_pos q5] at hF
      refine J_aload_n (j := 2) dX8_puts_34 rfl rfl ?_
      refine JX_getR (r := 25) fl_WithOneHand_24_7 dX8_puts_35 c_5 rfl rfl ?_
      refine J_iload_n (j := 1) dX8_puts_38 rfl rfl ?_
      obtain ⟨r6, h7, hF⟩ := ob_some hF
      refine JX_callVi (As := [.int (a1 / 10)]) (S := []) lkV_WithOneHand_239_X0_isIn rfl (by decide) dX8_puts_39 c_25 (S_X0_isIn_25 (by omega) h7) (by omega) rfl rfl (Nat.le_of_ble_eq_true rfl) rfl ?_
      refine J_ifb_eq (tgt := 48) dX8_puts_42 (by decide) (fun q8 => ?_) (fun q8 => ?_)
      · rw [if_neg q8] at hF
        refine J_aload_n (j := 2) dX8_puts_48 rfl rfl ?_
        refine J_iload_n (j := 1) dX8_puts_49 rfl rfl ?_
        refine J_iload_n (j := 0) dX8_puts_50 rfl rfl ?_
        obtain ⟨r9, x10, h11, hF⟩ := ob2_some hF
        refine JX_callVi (As := [.int (a1 / 10), .int (a1 % 10)]) (S := []) lkV_WithOneHand_135_X8_takesNow rfl (by decide) dX8_puts_51 c_5 (S_X8_takesNow (by omega) h11) (by omega) rfl rfl (Nat.le_of_ble_eq_true rfl) rfl ?_
        refine J_istore (L' := [(4, .int r9), (3, .int (a1 % 10)), (2, .int (a1 / 10)), (0, .ref 5), (1, .int a1)]) dX8_puts_54 (by decide) rfl ?_
        refine J_aload_n (j := 3) dX8_puts_56 rfl rfl ?_
        refine JX_getR (r := 6) fl_WithOneHand_11_7 dX8_puts_57 c_5 rfl rfl ?_
        refine J_iconst (v := 4) dX8_puts_60 (by decide) ?_
        refine JX_aald (j := 4) (r := 11) (by decide) dX8_puts_61 c_6 (by unfold vp_in; decide) (by decide) rfl ?_
        refine J_iload_n (j := 1) dX8_puts_62 rfl rfl ?_
        obtain ⟨b12, hF⟩ := chk hF
        refine JX_iald (j := ix (a1 % 10)) dX8_puts_63 c_11 (inb_vp b12) rfl ?_
        refine J_istore (L' := [(5, .int (xi x10 11 (ix (a1 % 10)))), (4, .int r9), (3, .int (a1 % 10)), (2, .int (a1 / 10)), (0, .ref 5), (1, .int a1)]) dX8_puts_64 (by decide) rfl ?_
        refine J_aload_n (j := 4) dX8_puts_66 rfl rfl ?_
        refine JX_getR (r := 25) fl_WithOneHand_24_7 dX8_puts_67 c_5 rfl rfl ?_
        refine JX_getR (r := 26) fl_WithOneHand_119_0 dX8_puts_70 c_25 rfl rfl ?_
        refine J_iload_n (j := 2) dX8_puts_73 rfl rfl ?_
        refine J_iload_n (j := 3) dX8_puts_74 rfl rfl ?_
        obtain ⟨x13, e_x13, hF⟩ := letx_eq hF
        refine JX_iast (j := ix (a1 % 10)) dX8_puts_75 c_26 (inb_vp b4) rfl ?_
        rw [← e_x13]
        refine J_aload_n (j := 4) dX8_puts_76 rfl rfl ?_
        refine JX_getR (r := 25) fl_WithOneHand_24_7 dX8_puts_77 c_5 rfl rfl ?_
        refine JX_getR (r := 27) fl_WithOneHand_242_0 dX8_puts_80 c_25 rfl rfl ?_
        refine J_iconst (v := 0) dX8_puts_83 (by decide) ?_
        refine J_dup2 dX8_puts_84 rfl rfl ?_
        refine JX_iald (j := 0) dX8_puts_85 c_27 (by unfold vp_in; decide) (by decide) ?_
        refine J_iload (j := 1) dX8_puts_86 rfl ?_
        refine J_iadd dX8_puts_88 ?_
        obtain ⟨x14, e_x14, hF⟩ := letx_eq hF
        refine JX_iast (j := 0) dX8_puts_89 c_27 (by unfold vp_in; decide) (by decide) ?_
        rw [← e_x14]
        refine J_aload_n (j := 4) dX8_puts_90 rfl rfl ?_
        refine JX_getR (r := 25) fl_WithOneHand_24_7 dX8_puts_91 c_5 rfl rfl ?_
        refine JX_getR (r := 27) fl_WithOneHand_242_0 dX8_puts_94 c_25 rfl rfl ?_
        refine J_iconst (v := 1) dX8_puts_97 (by decide) ?_
        refine J_dup2 dX8_puts_98 rfl rfl ?_
        refine JX_iald (j := 1) dX8_puts_99 c_27 (by unfold vp_in; decide) (by decide) ?_
        refine J_iconst (v := 1) dX8_puts_100 (by decide) ?_
        refine J_iadd dX8_puts_101 ?_
        obtain ⟨x15, e_x15, hF⟩ := letx_eq hF
        refine JX_iast (j := 1) dX8_puts_102 c_27 (by unfold vp_in; decide) (by decide) ?_
        rw [← e_x15]
        refine J_aload_n (j := 4) dX8_puts_103 rfl rfl ?_
        refine JX_getR (r := 6) fl_WithOneHand_11_7 dX8_puts_104 c_5 rfl rfl ?_
        refine J_bipush (v := 8) dX8_puts_107 (by decide) ?_
        refine JX_aald (j := 8) (r := 15) (by decide) dX8_puts_109 c_6 (by unfold vp_in; decide) (by decide) rfl ?_
        refine J_iload (j := 0) dX8_puts_110 rfl ?_
        refine J_bipush (v := 99) dX8_puts_112 (by decide) ?_
        refine J_aload_n (j := 4) dX8_puts_114 rfl rfl ?_
        refine JX_getR (r := 6) fl_WithOneHand_11_7 dX8_puts_115 c_5 rfl rfl ?_
        refine J_bipush (v := 8) dX8_puts_118 (by decide) ?_
        refine JX_aald (j := 8) (r := 15) (by decide) dX8_puts_120 c_6 (by unfold vp_in; decide) (by decide) rfl ?_
        refine J_iload (j := 0) dX8_puts_121 rfl ?_
        obtain ⟨b16, hF⟩ := chk hF
        refine JX_iald (j := ix (xi x10 11 (ix (a1 % 10)))) dX8_puts_123 c_15 (inb_vp b16) rfl ?_
        refine J_iconst (v := 1) dX8_puts_124 (by decide) ?_
        refine J_iadd dX8_puts_125 ?_
        refine J_mmin (S := [.int (xi x10 11 (ix (a1 % 10))), .ref 15]) (tb 531 (by decide +kernel)) dX8_puts_126 (Nat.le_of_ble_eq_true rfl) ?_
        obtain ⟨x17, e_x17, hF⟩ := letx_eq hF
        refine JX_iast (j := ix (xi x10 11 (ix (a1 % 10)))) dX8_puts_129 c_15 (inb_vp b16) rfl ?_
        rw [← e_x17]
        refine J_iload (j := 1) dX8_puts_130 rfl ?_
        obtain ⟨e_r, e_z⟩ := someP hF
        subst e_r
        subst e_z
        exact J_ireturn rfl rfl dX8_puts_132 ⟨rfl, rfl⟩
      · rw [if_pos q8] at hF
        refine J_bipush (v := (-5)) dX8_puts_45 (by decide) ?_
        obtain ⟨e_r, e_z⟩ := someP hF
        subst e_r
        subst e_z
        exact J_ireturn rfl rfl dX8_puts_47 ⟨rfl, rfl⟩
  · rw [if_neg q3] at hF
    refine J_iconst (v := (-1)) dX8_puts_8 (by decide) ?_
    obtain ⟨e_r, e_z⟩ := someP hF
    subst e_r
    subst e_z
    exact J_ireturn rfl rfl dX8_puts_9 ⟨rfl, rfl⟩
def B_X9_isUsed_2 (K2 : Int32 → Int32 → Option Bool) (v1 : Int32) (v2 : Int32) (m : MM) : Option Bool :=
  if (mi m 80 1) ≤ v2 then
  some false
  else
  if inb v2 6 = true then
  if (mi m 87 (ix v2)) = v1 then
  some true
  else
  K2 v1 (v2 + 1)
  else none
theorem SB_X9_isUsed_2 {g : GC} {d : Nat} {K2 : Int32 → Int32 → Option Bool} {v1 : Int32} {v2 : Int32} {x : MX} {m : MM} {r : Bool} (hd : 1 ≤ d) (hK2 : ∀ (v1 : Int32) (v2 : Int32) (r : Bool), K2 v1 v2 = some r → J g m_X9_isUsed d 0 0 2 [(0, .ref 80), (1, .int v1), (2, .int v2)] [] (ST x m) 0 0 (EQ (some (.int (b2i r))) (ST x m)))
  (hF : B_X9_isUsed_2 K2 v1 v2 m = some r) : J g m_X9_isUsed d 0 0 2 [(0, .ref 80), (1, .int v1), (2, .int v2)] [] (ST x m) 0 0 (EQ (some (.int (b2i r))) (ST x m)) := by
  unfold B_X9_isUsed_2 at hF
  refine J_iload_n (j := 2) dX9_isUsed_2 rfl rfl ?_
  refine J_aload_n (j := 0) dX9_isUsed_3 rfl rfl ?_
  refine JM_getI fl_WithOneHandModel_111_8 dX9_isUsed_4 c_80 rfl ?_
  refine J_icmp_ge (tgt := 28) dX9_isUsed_7 (by decide) (fun q1 => ?_) (fun q1 => ?_)
  · rw [if_pos q1] at hF
    refine J_iconst (v := 0) dX9_isUsed_28 (by decide) ?_
    have e_r := Option.some.inj hF
    subst e_r
    exact J_ireturn rfl rfl dX9_isUsed_29 ⟨rfl, rfl⟩
  · rw [if_neg q1] at hF
    refine J_aload_n (j := 0) dX9_isUsed_10 rfl rfl ?_
    refine JM_getR (r := 87) fl_WithOneHandModel_32_8 dX9_isUsed_11 c_80 rfl rfl ?_
    refine J_iload_n (j := 2) dX9_isUsed_14 rfl rfl ?_
    obtain ⟨b2, hF⟩ := chk hF
    refine JM_iald (j := ix v2) dX9_isUsed_15 c_87 (inb_vp b2) rfl ?_
    refine J_iload_n (j := 1) dX9_isUsed_16 rfl rfl ?_
    refine J_icmp_ne (tgt := 22) dX9_isUsed_17 (by decide) (fun q3 => ?_) (fun q3 => ?_)
    · rw [if_neg q3] at hF
      refine J_iinc (j := 2) (v := v2 + 1) (L' := [(2, .int (v2 + 1)), (0, .ref 80), (1, .int v1)]) dX9_isUsed_22 rfl rfl (by decide) rfl ?_
      refine J_goto (tgt := 2) dX9_isUsed_25 (by decide) ?_
      refine J_sub [1, 2, 0] rfl ?_
      exact hK2 _ _ _  hF
    · rw [if_pos q3] at hF
      refine J_iconst (v := 1) dX9_isUsed_20 (by decide) ?_
      have e_r := Option.some.inj hF
      subst e_r
      exact J_ireturn rfl rfl dX9_isUsed_21 ⟨rfl, rfl⟩
def f_X9_isUsed_2 (m : MM) : Nat → Int32 → Int32 → Option Bool
  | 0 => fun _ _ => none
  | n + 1 => fun v1 v2 => B_X9_isUsed_2 (f_X9_isUsed_2 m n) v1 v2 m
theorem Sf_X9_isUsed_2 {g : GC} {d : Nat} {x : MX} {m : MM} (hd : 1 ≤ d)  : ∀ (n : Nat) (v1 : Int32) (v2 : Int32) (r : Bool), f_X9_isUsed_2 m n v1 v2 = some r → J g m_X9_isUsed d 0 0 2 [(0, .ref 80), (1, .int v1), (2, .int v2)] [] (ST x m) 0 0 (EQ (some (.int (b2i r))) (ST x m)) := by
  intro n
  induction n with
  | zero => intro v1 v2 r  hF; exact absurd hF (fun q => by cases q)
  | succ n ih =>
    intro v1 v2 r  hF
    exact SB_X9_isUsed_2 hd (fun v1 v2 r  hF => ih v1 v2 r  hF) hF
def f_X9_isUsed (a1 : Int32) (m : MM) : Option Bool :=
  f_X9_isUsed_2 m LF a1 0
theorem S_X9_isUsed {g : GC} {d : Nat} {a1 : Int32} {x : MX} {m : MM} {r : Bool} (hd : 1 ≤ d) 
  (hF : f_X9_isUsed a1 m = some r) : JC g m_X9_isUsed d 0 0 [.ref 80, .int a1] (ST x m) (EQ (some (.int (b2i r))) (ST x m)) := by
  refine JC.of (by decide +kernel) (Nat.le_of_ble_eq_true rfl) ?_
  change J g m_X9_isUsed d 0 0 0 [(0, .ref 80), (1, .int a1)] [] (ST x m) 0 0 (EQ (some (.int (b2i r))) (ST x m))
  unfold f_X9_isUsed at hF
  refine J_iconst (v := 0) dX9_isUsed_0 (by decide) ?_
  refine J_istore_n (L' := [(2, .int 0), (0, .ref 80), (1, .int a1)]) dX9_isUsed_1 rfl (by decide) rfl ?_
  refine J_sub [1, 2, 0] rfl ?_
  exact Sf_X9_isUsed_2 hd _ _ _ _ hF
