def B_X9_hardFirst_143 (K23 : Int32 → Int32 → Int32 → Int32 → Int32 → Int32 → MM → Option (Int32 × MM)) (v1 : Int32) (v2 : Int32) (v3 : Int32) (v5 : Int32) (v6 : Int32) (v8 : Int32) (t0 : Int32) (t1 : Int32) (m : MM) : Option (Int32 × MM) :=
  K23 v1 v2 v3 (t1 + t0) (v5 + v8) (v6 + 1) m
theorem SB_X9_hardFirst_143 {g : GC} {d : Nat} {K23 : Int32 → Int32 → Int32 → Int32 → Int32 → Int32 → MM → Option (Int32 × MM)} {v1 : Int32} {v2 : Int32} {v3 : Int32} {v5 : Int32} {v6 : Int32} {v8 : Int32} {t0 : Int32} {t1 : Int32} {x : MX} {m : MM} {r : Int32} {z : MM} (hd : 108 ≤ d) (hK23 : ∀ (v1 : Int32) (v2 : Int32) (v3 : Int32) (v4 : Int32) (v5 : Int32) (v6 : Int32) (m : MM) (r : Int32) (z : MM), K23 v1 v2 v3 v4 v5 v6 m = some (r, z) → J g m_X9_hardFirst d 0 0 23 [(0, .ref 80), (1, .int v1), (2, .int v2), (3, .int v3), (4, .int v4), (5, .int v5), (6, .int v6)] [] (ST x m) 0 0 (EQ (some (.int r)) (ST x z)))
  (hF : B_X9_hardFirst_143 K23 v1 v2 v3 v5 v6 v8 t0 t1 m = some (r, z)) : J g m_X9_hardFirst d 0 0 143 [(0, .ref 80), (1, .int v1), (2, .int v2), (3, .int v3), (5, .int v5), (6, .int v6), (8, .int v8)] [.int t0, .int t1] (ST x m) 0 0 (EQ (some (.int r)) (ST x z)) := by
  unfold B_X9_hardFirst_143 at hF
  refine J_iadd dX9_hardFirst_143 ?_
  refine J_istore (L' := [(4, .int (t1 + t0)), (0, .ref 80), (1, .int v1), (2, .int v2), (3, .int v3), (5, .int v5), (6, .int v6), (8, .int v8)]) dX9_hardFirst_144 (by decide) rfl ?_
  refine J_iload (j := 5) dX9_hardFirst_146 rfl ?_
  refine J_iload (j := 7) dX9_hardFirst_148 rfl ?_
  refine J_iadd dX9_hardFirst_150 ?_
  refine J_istore (L' := [(5, .int (v5 + v8)), (4, .int (t1 + t0)), (0, .ref 80), (1, .int v1), (2, .int v2), (3, .int v3), (6, .int v6), (8, .int v8)]) dX9_hardFirst_151 (by decide) rfl ?_
  refine J_iinc (j := 6) (v := v6 + 1) (L' := [(6, .int (v6 + 1)), (5, .int (v5 + v8)), (4, .int (t1 + t0)), (0, .ref 80), (1, .int v1), (2, .int v2), (3, .int v3), (8, .int v8)]) dX9_hardFirst_153 rfl rfl (by decide) rfl ?_
  refine J_goto (tgt := 23) dX9_hardFirst_156 (by decide) ?_
  refine J_sub [3, 4, 5, 6, 2, 1, 0] rfl ?_
  exact hK23 _ _ _ _ _ _ _ _ _  hF
def B_X9_hardFirst_126 (K23 : Int32 → Int32 → Int32 → Int32 → Int32 → Int32 → MM → Option (Int32 × MM)) (v1 : Int32) (v2 : Int32) (v4 : Int32) (v5 : Int32) (v6 : Int32) (v8 : Int32) (t0 : Int32) (t1 : Int32) (t2 : Int32) (t3 : Int32) (t5 : Int32) (m : MM) : Option (Int32 × MM) :=
  ob2 (f_X9_takes t3 t2 t1 t0 m) (fun r7 m8 =>
  if v8 = 0 then
  B_X9_hardFirst_143 K23 v1 v2 (t5 + r7) v5 v6 v8 1 v4 m8
  else
  B_X9_hardFirst_143 K23 v1 v2 (t5 + r7) v5 v6 v8 0 v4 m8)
theorem SB_X9_hardFirst_126 {g : GC} {d : Nat} {K23 : Int32 → Int32 → Int32 → Int32 → Int32 → Int32 → MM → Option (Int32 × MM)} {v1 : Int32} {v2 : Int32} {v4 : Int32} {v5 : Int32} {v6 : Int32} {v8 : Int32} {t0 : Int32} {t1 : Int32} {t2 : Int32} {t3 : Int32} {t5 : Int32} {x : MX} {m : MM} {r : Int32} {z : MM} (hd : 108 ≤ d) (hK23 : ∀ (v1 : Int32) (v2 : Int32) (v3 : Int32) (v4 : Int32) (v5 : Int32) (v6 : Int32) (m : MM) (r : Int32) (z : MM), K23 v1 v2 v3 v4 v5 v6 m = some (r, z) → J g m_X9_hardFirst d 0 0 23 [(0, .ref 80), (1, .int v1), (2, .int v2), (3, .int v3), (4, .int v4), (5, .int v5), (6, .int v6)] [] (ST x m) 0 0 (EQ (some (.int r)) (ST x z)))
  (hF : B_X9_hardFirst_126 K23 v1 v2 v4 v5 v6 v8 t0 t1 t2 t3 t5 m = some (r, z)) : J g m_X9_hardFirst d 0 0 126 [(0, .ref 80), (1, .int v1), (2, .int v2), (4, .int v4), (5, .int v5), (6, .int v6), (8, .int v8)] [.int t0, .int t1, .int t2, .int t3, .ref 80, .int t5] (ST x m) 0 0 (EQ (some (.int r)) (ST x z)) := by
  unfold B_X9_hardFirst_126 at hF
  obtain ⟨r7, m8, h9, hF⟩ := ob2_some hF
  refine JM_callVi (As := [.int t3, .int t2, .int t1, .int t0]) (S := [.int t5]) lkV_WithOneHandModel_257_X9_takes rfl (by decide) dX9_hardFirst_126 c_80 (S_X9_takes (by omega) h9) (by omega) rfl rfl (Nat.le_of_ble_eq_true rfl) rfl ?_
  refine J_iadd dX9_hardFirst_129 ?_
  refine J_istore_n (L' := [(3, .int (t5 + r7)), (0, .ref 80), (1, .int v1), (2, .int v2), (4, .int v4), (5, .int v5), (6, .int v6), (8, .int v8)]) dX9_hardFirst_130 rfl (by decide) rfl ?_
  refine J_iload (j := 4) dX9_hardFirst_131 rfl ?_
  refine J_iload (j := 7) dX9_hardFirst_133 rfl ?_
  refine J_if_ne (tgt := 142) dX9_hardFirst_135 (by decide) (fun q10 => ?_) (fun q10 => ?_)
  · rw [if_neg q10] at hF
    refine J_iconst (v := 0) dX9_hardFirst_142 (by decide) ?_
    refine J_sub [1, 2, 3, 0, 5, 6, 7] rfl ?_
    exact SB_X9_hardFirst_143 hd hK23 hF
  · rw [if_pos q10] at hF
    refine J_iconst (v := 1) dX9_hardFirst_138 (by decide) ?_
    refine J_goto (tgt := 143) dX9_hardFirst_139 (by decide) ?_
    refine J_sub [1, 2, 3, 0, 5, 6, 7] rfl ?_
    exact SB_X9_hardFirst_143 hd hK23 hF
def B_X9_hardFirst_79 (K23 : Int32 → Int32 → Int32 → Int32 → Int32 → Int32 → MM → Option (Int32 × MM)) (K35 : Int32 → Int32 → Int32 → Int32 → Int32 → Int32 → Int32 → Int32 → MM → Option (Int32 × MM)) (v1 : Int32) (v2 : Int32) (v3 : Int32) (v4 : Int32) (v5 : Int32) (v6 : Int32) (v7 : Int32) (v8 : Int32) (m : MM) : Option (Int32 × MM) :=
  K35 v1 v2 v3 v4 v5 v6 v7 (v8 + 1) m
theorem SB_X9_hardFirst_79 {g : GC} {d : Nat} {K23 : Int32 → Int32 → Int32 → Int32 → Int32 → Int32 → MM → Option (Int32 × MM)} {K35 : Int32 → Int32 → Int32 → Int32 → Int32 → Int32 → Int32 → Int32 → MM → Option (Int32 × MM)} {v1 : Int32} {v2 : Int32} {v3 : Int32} {v4 : Int32} {v5 : Int32} {v6 : Int32} {v7 : Int32} {v8 : Int32} {x : MX} {m : MM} {r : Int32} {z : MM} (hd : 108 ≤ d) (hK23 : ∀ (v1 : Int32) (v2 : Int32) (v3 : Int32) (v4 : Int32) (v5 : Int32) (v6 : Int32) (m : MM) (r : Int32) (z : MM), K23 v1 v2 v3 v4 v5 v6 m = some (r, z) → J g m_X9_hardFirst d 0 0 23 [(0, .ref 80), (1, .int v1), (2, .int v2), (3, .int v3), (4, .int v4), (5, .int v5), (6, .int v6)] [] (ST x m) 0 0 (EQ (some (.int r)) (ST x z))) (hK35 : ∀ (v1 : Int32) (v2 : Int32) (v3 : Int32) (v4 : Int32) (v5 : Int32) (v6 : Int32) (v7 : Int32) (v8 : Int32) (m : MM) (r : Int32) (z : MM), K35 v1 v2 v3 v4 v5 v6 v7 v8 m = some (r, z) → J g m_X9_hardFirst d 0 0 35 [(0, .ref 80), (1, .int v1), (2, .int v2), (3, .int v3), (4, .int v4), (5, .int v5), (6, .int v6), (7, .int v7), (8, .int v8)] [] (ST x m) 0 0 (EQ (some (.int r)) (ST x z)))
  (hF : B_X9_hardFirst_79 K23 K35 v1 v2 v3 v4 v5 v6 v7 v8 m = some (r, z)) : J g m_X9_hardFirst d 0 0 79 [(0, .ref 80), (1, .int v1), (2, .int v2), (3, .int v3), (4, .int v4), (5, .int v5), (6, .int v6), (7, .int v7), (8, .int v8)] [] (ST x m) 0 0 (EQ (some (.int r)) (ST x z)) := by
  unfold B_X9_hardFirst_79 at hF
  refine J_iinc (j := 8) (v := v8 + 1) (L' := [(8, .int (v8 + 1)), (0, .ref 80), (1, .int v1), (2, .int v2), (3, .int v3), (4, .int v4), (5, .int v5), (6, .int v6), (7, .int v7)]) dX9_hardFirst_79 rfl rfl (by decide) rfl ?_
  refine J_goto (tgt := 35) dX9_hardFirst_82 (by decide) ?_
  refine J_sub [1, 2, 3, 4, 5, 6, 7, 8, 0] rfl ?_
  exact hK35 _ _ _ _ _ _ _ _ _ _ _  hF
def B_X9_hardFirst_75 (K23 : Int32 → Int32 → Int32 → Int32 → Int32 → Int32 → MM → Option (Int32 × MM)) (K35 : Int32 → Int32 → Int32 → Int32 → Int32 → Int32 → Int32 → Int32 → MM → Option (Int32 × MM)) (v1 : Int32) (v2 : Int32) (v3 : Int32) (v4 : Int32) (v5 : Int32) (v6 : Int32) (v8 : Int32) (m : MM) : Option (Int32 × MM) :=
  B_X9_hardFirst_79 K23 K35 v1 v2 v3 v4 v5 v6 v8 v8 m
theorem SB_X9_hardFirst_75 {g : GC} {d : Nat} {K23 : Int32 → Int32 → Int32 → Int32 → Int32 → Int32 → MM → Option (Int32 × MM)} {K35 : Int32 → Int32 → Int32 → Int32 → Int32 → Int32 → Int32 → Int32 → MM → Option (Int32 × MM)} {v1 : Int32} {v2 : Int32} {v3 : Int32} {v4 : Int32} {v5 : Int32} {v6 : Int32} {v8 : Int32} {x : MX} {m : MM} {r : Int32} {z : MM} (hd : 108 ≤ d) (hK23 : ∀ (v1 : Int32) (v2 : Int32) (v3 : Int32) (v4 : Int32) (v5 : Int32) (v6 : Int32) (m : MM) (r : Int32) (z : MM), K23 v1 v2 v3 v4 v5 v6 m = some (r, z) → J g m_X9_hardFirst d 0 0 23 [(0, .ref 80), (1, .int v1), (2, .int v2), (3, .int v3), (4, .int v4), (5, .int v5), (6, .int v6)] [] (ST x m) 0 0 (EQ (some (.int r)) (ST x z))) (hK35 : ∀ (v1 : Int32) (v2 : Int32) (v3 : Int32) (v4 : Int32) (v5 : Int32) (v6 : Int32) (v7 : Int32) (v8 : Int32) (m : MM) (r : Int32) (z : MM), K35 v1 v2 v3 v4 v5 v6 v7 v8 m = some (r, z) → J g m_X9_hardFirst d 0 0 35 [(0, .ref 80), (1, .int v1), (2, .int v2), (3, .int v3), (4, .int v4), (5, .int v5), (6, .int v6), (7, .int v7), (8, .int v8)] [] (ST x m) 0 0 (EQ (some (.int r)) (ST x z)))
  (hF : B_X9_hardFirst_75 K23 K35 v1 v2 v3 v4 v5 v6 v8 m = some (r, z)) : J g m_X9_hardFirst d 0 0 75 [(0, .ref 80), (1, .int v1), (2, .int v2), (3, .int v3), (4, .int v4), (5, .int v5), (6, .int v6), (8, .int v8)] [] (ST x m) 0 0 (EQ (some (.int r)) (ST x z)) := by
  unfold B_X9_hardFirst_75 at hF
  refine J_iload (j := 7) dX9_hardFirst_75 rfl ?_
  refine J_istore (L' := [(7, .int v8), (0, .ref 80), (1, .int v1), (2, .int v2), (3, .int v3), (4, .int v4), (5, .int v5), (6, .int v6), (8, .int v8)]) dX9_hardFirst_77 (by decide) rfl ?_
  refine J_sub [1, 2, 3, 4, 5, 6, 7, 0, 8] rfl ?_
  exact SB_X9_hardFirst_79 hd hK23 hK35 hF
def B_X9_hardFirst_35 (K23 : Int32 → Int32 → Int32 → Int32 → Int32 → Int32 → MM → Option (Int32 × MM)) (K35 : Int32 → Int32 → Int32 → Int32 → Int32 → Int32 → Int32 → Int32 → MM → Option (Int32 × MM)) (v1 : Int32) (v2 : Int32) (v3 : Int32) (v4 : Int32) (v5 : Int32) (v6 : Int32) (v7 : Int32) (v8 : Int32) (m : MM) : Option (Int32 × MM) :=
  if v1 ≤ v8 then
  letx (v2 ||| ((1 : Int32) <<< (v7 &&& 31))) (fun y3 =>
  if inb v7 6 = true then
  if inb (mi m 85 (ix v7)) 2 = true then
  if (mi m 85 (ix v7)) = 0 then
  B_X9_hardFirst_126 K23 v1 y3 v4 v5 v6 (mi m 85 (ix v7)) v4 (mi m 88 (ix (mi m 85 (ix v7)))) v7 v7 v3 m
  else
  B_X9_hardFirst_126 K23 v1 y3 v4 v5 v6 (mi m 85 (ix v7)) v5 (mi m 88 (ix (mi m 85 (ix v7)))) v7 v7 v3 m
  else none
  else none)
  else
  if (f_X9_has v2 v8) = true then
  B_X9_hardFirst_79 K23 K35 v1 v2 v3 v4 v5 v6 v7 v8 m
  else
  if v7 < 0 then
  B_X9_hardFirst_75 K23 K35 v1 v2 v3 v4 v5 v6 v8 m
  else
  ob2 (f_X9_takesNow v8 v8 m) (fun r13 m14 =>
  ob2 (f_X9_takesNow v7 v7 m14) (fun r16 m17 =>
  if r13 ≤ r16 then
  B_X9_hardFirst_79 K23 K35 v1 v2 v3 v4 v5 v6 v7 v8 m17
  else
  B_X9_hardFirst_75 K23 K35 v1 v2 v3 v4 v5 v6 v8 m17))
theorem SB_X9_hardFirst_35 {g : GC} {d : Nat} {K23 : Int32 → Int32 → Int32 → Int32 → Int32 → Int32 → MM → Option (Int32 × MM)} {K35 : Int32 → Int32 → Int32 → Int32 → Int32 → Int32 → Int32 → Int32 → MM → Option (Int32 × MM)} {v1 : Int32} {v2 : Int32} {v3 : Int32} {v4 : Int32} {v5 : Int32} {v6 : Int32} {v7 : Int32} {v8 : Int32} {x : MX} {m : MM} {r : Int32} {z : MM} (hd : 108 ≤ d) (hK23 : ∀ (v1 : Int32) (v2 : Int32) (v3 : Int32) (v4 : Int32) (v5 : Int32) (v6 : Int32) (m : MM) (r : Int32) (z : MM), K23 v1 v2 v3 v4 v5 v6 m = some (r, z) → J g m_X9_hardFirst d 0 0 23 [(0, .ref 80), (1, .int v1), (2, .int v2), (3, .int v3), (4, .int v4), (5, .int v5), (6, .int v6)] [] (ST x m) 0 0 (EQ (some (.int r)) (ST x z))) (hK35 : ∀ (v1 : Int32) (v2 : Int32) (v3 : Int32) (v4 : Int32) (v5 : Int32) (v6 : Int32) (v7 : Int32) (v8 : Int32) (m : MM) (r : Int32) (z : MM), K35 v1 v2 v3 v4 v5 v6 v7 v8 m = some (r, z) → J g m_X9_hardFirst d 0 0 35 [(0, .ref 80), (1, .int v1), (2, .int v2), (3, .int v3), (4, .int v4), (5, .int v5), (6, .int v6), (7, .int v7), (8, .int v8)] [] (ST x m) 0 0 (EQ (some (.int r)) (ST x z)))
  (hF : B_X9_hardFirst_35 K23 K35 v1 v2 v3 v4 v5 v6 v7 v8 m = some (r, z)) : J g m_X9_hardFirst d 0 0 35 [(0, .ref 80), (1, .int v1), (2, .int v2), (3, .int v3), (4, .int v4), (5, .int v5), (6, .int v6), (7, .int v7), (8, .int v8)] [] (ST x m) 0 0 (EQ (some (.int r)) (ST x z)) := by
  unfold B_X9_hardFirst_35 at hF
  refine J_iload (j := 8) dX9_hardFirst_35 rfl ?_
  refine J_iload_n (j := 1) dX9_hardFirst_37 rfl rfl ?_
  refine J_icmp_ge (tgt := 85) dX9_hardFirst_38 (by decide) (fun q2 => ?_) (fun q2 => ?_)
  · rw [if_pos q2] at hF
    refine J_iload_n (j := 2) dX9_hardFirst_85 rfl rfl ?_
    refine J_iconst (v := 1) dX9_hardFirst_86 (by decide) ?_
    refine J_iload (j := 7) dX9_hardFirst_87 rfl ?_
    refine J_ishl dX9_hardFirst_89 ?_
    refine J_ior dX9_hardFirst_90 ?_
    obtain ⟨y3, e_y3, hF⟩ := letx_eq hF
    rw [← e_y3]
    refine J_istore_n (L' := [(2, .int y3), (0, .ref 80), (1, .int v1), (3, .int v3), (4, .int v4), (5, .int v5), (6, .int v6), (7, .int v7), (8, .int v8)]) dX9_hardFirst_91 rfl (by decide) rfl ?_
    refine J_aload_n (j := 1) dX9_hardFirst_92 rfl rfl ?_
    refine JM_getR (r := 85) fl_WithOneHandModel_26_8 dX9_hardFirst_93 c_80 rfl rfl ?_
    refine J_iload (j := 7) dX9_hardFirst_96 rfl ?_
    obtain ⟨b4, hF⟩ := chk hF
    refine JM_iald (j := ix v7) dX9_hardFirst_98 c_85 (inb_vp b4) rfl ?_
    refine J_istore (L' := [(8, .int (mi m 85 (ix v7))), (2, .int y3), (0, .ref 80), (1, .int v1), (3, .int v3), (4, .int v4), (5, .int v5), (6, .int v6), (7, .int v7)]) dX9_hardFirst_99 (by decide) rfl ?_
    refine J_iload_n (j := 4) dX9_hardFirst_101 rfl rfl ?_
    refine J_aload_n (j := 2) dX9_hardFirst_102 rfl rfl ?_
    refine J_iload (j := 8) dX9_hardFirst_103 rfl ?_
    refine J_iload (j := 8) dX9_hardFirst_105 rfl ?_
    refine J_aload_n (j := 2) dX9_hardFirst_107 rfl rfl ?_
    refine JM_getR (r := 88) fl_WithOneHandModel_35_8 dX9_hardFirst_108 c_80 rfl rfl ?_
    refine J_iload (j := 0) dX9_hardFirst_111 rfl ?_
    obtain ⟨b5, hF⟩ := chk hF
    refine JM_iald (j := ix (mi m 85 (ix v7))) dX9_hardFirst_113 c_88 (inb_vp b5) rfl ?_
    refine J_iload (j := 0) dX9_hardFirst_114 rfl ?_
    refine J_if_ne (tgt := 124) dX9_hardFirst_116 (by decide) (fun q6 => ?_) (fun q6 => ?_)
    · rw [if_neg q6] at hF
      refine J_iload (j := 6) dX9_hardFirst_124 rfl ?_
      refine J_sub [2, 3, 1, 5, 6, 7, 0] rfl ?_
      exact SB_X9_hardFirst_126 hd hK23 hF
    · rw [if_pos q6] at hF
      refine J_iload (j := 5) dX9_hardFirst_119 rfl ?_
      refine J_goto (tgt := 126) dX9_hardFirst_121 (by decide) ?_
      refine J_sub [2, 3, 1, 5, 6, 7, 0] rfl ?_
      exact SB_X9_hardFirst_126 hd hK23 hF
  · rw [if_neg q2] at hF
    refine J_aload_n (j := 0) dX9_hardFirst_41 rfl rfl ?_
    refine J_iload_n (j := 2) dX9_hardFirst_42 rfl rfl ?_
    refine J_iload (j := 8) dX9_hardFirst_43 rfl ?_
    refine JM_callVi (As := [.int v2, .int v8]) (S := []) lkV_WithOneHandModel_276_X9_has rfl (by decide) dX9_hardFirst_45 c_80 (S_X9_has (by omega) rfl) (by omega) rfl rfl (Nat.le_of_ble_eq_true rfl) rfl ?_
    refine J_ifb_ne (tgt := 79) dX9_hardFirst_48 (by decide) (fun q11 => ?_) (fun q11 => ?_)
    · rw [if_pos q11] at hF
      exact SB_X9_hardFirst_79 hd hK23 hK35 hF
    · rw [if_neg q11] at hF
      refine J_iload (j := 7) dX9_hardFirst_51 rfl ?_
      refine J_if_lt (tgt := 75) dX9_hardFirst_53 (by decide) (fun q12 => ?_) (fun q12 => ?_)
      · rw [if_pos q12] at hF
        refine J_sub [0, 1, 2, 3, 4, 5, 6, 8] rfl ?_
        exact SB_X9_hardFirst_75 hd hK23 hK35 hF
      · rw [if_neg q12] at hF
        refine J_aload_n (j := 0) dX9_hardFirst_56 rfl rfl ?_
        refine J_iload (j := 8) dX9_hardFirst_57 rfl ?_
        refine J_iload (j := 8) dX9_hardFirst_59 rfl ?_
        obtain ⟨r13, m14, h15, hF⟩ := ob2_some hF
        refine JM_callVi (As := [.int v8, .int v8]) (S := []) lkV_WithOneHandModel_264_X9_takesNow rfl (by decide) dX9_hardFirst_61 c_80 (S_X9_takesNow (by omega) h15) (by omega) rfl rfl (Nat.le_of_ble_eq_true rfl) rfl ?_
        refine J_aload_n (j := 0) dX9_hardFirst_64 rfl rfl ?_
        refine J_iload (j := 7) dX9_hardFirst_65 rfl ?_
        refine J_iload (j := 7) dX9_hardFirst_67 rfl ?_
        obtain ⟨r16, m17, h18, hF⟩ := ob2_some hF
        refine JM_callVi (As := [.int v7, .int v7]) (S := [.int r13]) lkV_WithOneHandModel_264_X9_takesNow rfl (by decide) dX9_hardFirst_69 c_80 (S_X9_takesNow (by omega) h18) (by omega) rfl rfl (Nat.le_of_ble_eq_true rfl) rfl ?_
        refine J_icmp_le (tgt := 79) dX9_hardFirst_72 (by decide) (fun q19 => ?_) (fun q19 => ?_)
        · rw [if_pos q19] at hF
          exact SB_X9_hardFirst_79 hd hK23 hK35 hF
        · rw [if_neg q19] at hF
          refine J_sub [0, 1, 2, 3, 4, 5, 6, 8] rfl ?_
          exact SB_X9_hardFirst_75 hd hK23 hK35 hF
def f_X9_hardFirst_35 (K23 : Int32 → Int32 → Int32 → Int32 → Int32 → Int32 → MM → Option (Int32 × MM)) : Nat → Int32 → Int32 → Int32 → Int32 → Int32 → Int32 → Int32 → Int32 → MM → Option (Int32 × MM)
  | 0 => fun _ _ _ _ _ _ _ _ _ => none
  | n + 1 => fun v1 v2 v3 v4 v5 v6 v7 v8 m => B_X9_hardFirst_35 K23 (f_X9_hardFirst_35 K23 n) v1 v2 v3 v4 v5 v6 v7 v8 m
theorem Sf_X9_hardFirst_35 {g : GC} {d : Nat} {x : MX} {K23 : Int32 → Int32 → Int32 → Int32 → Int32 → Int32 → MM → Option (Int32 × MM)} (hd : 108 ≤ d) (hK23 : ∀ (v1 : Int32) (v2 : Int32) (v3 : Int32) (v4 : Int32) (v5 : Int32) (v6 : Int32) (m : MM) (r : Int32) (z : MM), K23 v1 v2 v3 v4 v5 v6 m = some (r, z) → J g m_X9_hardFirst d 0 0 23 [(0, .ref 80), (1, .int v1), (2, .int v2), (3, .int v3), (4, .int v4), (5, .int v5), (6, .int v6)] [] (ST x m) 0 0 (EQ (some (.int r)) (ST x z))) : ∀ (n : Nat) (v1 : Int32) (v2 : Int32) (v3 : Int32) (v4 : Int32) (v5 : Int32) (v6 : Int32) (v7 : Int32) (v8 : Int32) (m : MM) (r : Int32) (z : MM), f_X9_hardFirst_35 K23 n v1 v2 v3 v4 v5 v6 v7 v8 m = some (r, z) → J g m_X9_hardFirst d 0 0 35 [(0, .ref 80), (1, .int v1), (2, .int v2), (3, .int v3), (4, .int v4), (5, .int v5), (6, .int v6), (7, .int v7), (8, .int v8)] [] (ST x m) 0 0 (EQ (some (.int r)) (ST x z)) := by
  intro n
  induction n with
  | zero => intro v1 v2 v3 v4 v5 v6 v7 v8 m r z  hF; exact absurd hF (fun q => by cases q)
  | succ n ih =>
    intro v1 v2 v3 v4 v5 v6 v7 v8 m r z  hF
    exact SB_X9_hardFirst_35 hd hK23 (fun v1 v2 v3 v4 v5 v6 v7 v8 m r z  hF => ih v1 v2 v3 v4 v5 v6 v7 v8 m r z  hF) hF
def B_X9_hardFirst_23 (K23 : Int32 → Int32 → Int32 → Int32 → Int32 → Int32 → MM → Option (Int32 × MM)) (v1 : Int32) (v2 : Int32) (v3 : Int32) (v4 : Int32) (v5 : Int32) (v6 : Int32) (m : MM) : Option (Int32 × MM) :=
  if v1 ≤ v6 then
  some (v3, m)
  else
  f_X9_hardFirst_35 K23 LF v1 v2 v3 v4 v5 v6 (-1) 0 m
theorem SB_X9_hardFirst_23 {g : GC} {d : Nat} {K23 : Int32 → Int32 → Int32 → Int32 → Int32 → Int32 → MM → Option (Int32 × MM)} {v1 : Int32} {v2 : Int32} {v3 : Int32} {v4 : Int32} {v5 : Int32} {v6 : Int32} {x : MX} {m : MM} {r : Int32} {z : MM} (hd : 108 ≤ d) (hK23 : ∀ (v1 : Int32) (v2 : Int32) (v3 : Int32) (v4 : Int32) (v5 : Int32) (v6 : Int32) (m : MM) (r : Int32) (z : MM), K23 v1 v2 v3 v4 v5 v6 m = some (r, z) → J g m_X9_hardFirst d 0 0 23 [(0, .ref 80), (1, .int v1), (2, .int v2), (3, .int v3), (4, .int v4), (5, .int v5), (6, .int v6)] [] (ST x m) 0 0 (EQ (some (.int r)) (ST x z)))
  (hF : B_X9_hardFirst_23 K23 v1 v2 v3 v4 v5 v6 m = some (r, z)) : J g m_X9_hardFirst d 0 0 23 [(0, .ref 80), (1, .int v1), (2, .int v2), (3, .int v3), (4, .int v4), (5, .int v5), (6, .int v6)] [] (ST x m) 0 0 (EQ (some (.int r)) (ST x z)) := by
  unfold B_X9_hardFirst_23 at hF
  refine J_iload (j := 6) dX9_hardFirst_23 rfl ?_
  refine J_iload_n (j := 1) dX9_hardFirst_25 rfl rfl ?_
  refine J_icmp_ge (tgt := 159) dX9_hardFirst_26 (by decide) (fun q1 => ?_) (fun q1 => ?_)
  · rw [if_pos q1] at hF
    refine J_iload_n (j := 3) dX9_hardFirst_159 rfl rfl ?_
    obtain ⟨e_r, e_z⟩ := someP hF
    subst e_r
    subst e_z
    exact J_ireturn rfl rfl dX9_hardFirst_160 ⟨rfl, rfl⟩
  · rw [if_neg q1] at hF
    refine J_iconst (v := (-1)) dX9_hardFirst_29 (by decide) ?_
    refine J_istore (L' := [(7, .int (-1)), (0, .ref 80), (1, .int v1), (2, .int v2), (3, .int v3), (4, .int v4), (5, .int v5), (6, .int v6)]) dX9_hardFirst_30 (by decide) rfl ?_
    refine J_iconst (v := 0) dX9_hardFirst_32 (by decide) ?_
    refine J_istore (L' := [(8, .int 0), (7, .int (-1)), (0, .ref 80), (1, .int v1), (2, .int v2), (3, .int v3), (4, .int v4), (5, .int v5), (6, .int v6)]) dX9_hardFirst_33 (by decide) rfl ?_
    refine J_sub [2, 3, 4, 5, 6, 7, 8, 1, 0] rfl ?_
    exact Sf_X9_hardFirst_35 hd hK23 _ _ _ _ _ _ _ _ _ _ _ _ hF
def f_X9_hardFirst_23  : Nat → Int32 → Int32 → Int32 → Int32 → Int32 → Int32 → MM → Option (Int32 × MM)
  | 0 => fun _ _ _ _ _ _ _ => none
  | n + 1 => fun v1 v2 v3 v4 v5 v6 m => B_X9_hardFirst_23 (f_X9_hardFirst_23  n) v1 v2 v3 v4 v5 v6 m
theorem Sf_X9_hardFirst_23 {g : GC} {d : Nat} {x : MX} (hd : 108 ≤ d)  : ∀ (n : Nat) (v1 : Int32) (v2 : Int32) (v3 : Int32) (v4 : Int32) (v5 : Int32) (v6 : Int32) (m : MM) (r : Int32) (z : MM), f_X9_hardFirst_23  n v1 v2 v3 v4 v5 v6 m = some (r, z) → J g m_X9_hardFirst d 0 0 23 [(0, .ref 80), (1, .int v1), (2, .int v2), (3, .int v3), (4, .int v4), (5, .int v5), (6, .int v6)] [] (ST x m) 0 0 (EQ (some (.int r)) (ST x z)) := by
  intro n
  induction n with
  | zero => intro v1 v2 v3 v4 v5 v6 m r z  hF; exact absurd hF (fun q => by cases q)
  | succ n ih =>
    intro v1 v2 v3 v4 v5 v6 m r z  hF
    exact SB_X9_hardFirst_23 hd (fun v1 v2 v3 v4 v5 v6 m r z  hF => ih v1 v2 v3 v4 v5 v6 m r z  hF) hF
def f_X9_hardFirst (a1 : Int32) (m : MM) : Option (Int32 × MM) :=
  f_X9_hardFirst_23 LF a1 0 0 (mi m 90 0) (mi m 90 1) 0 m
theorem S_X9_hardFirst {g : GC} {d : Nat} {a1 : Int32} {x : MX} {m : MM} {r : Int32} {z : MM} (hd : 108 ≤ d) 
  (hF : f_X9_hardFirst a1 m = some (r, z)) : JC g m_X9_hardFirst d 0 0 [.ref 80, .int a1] (ST x m) (EQ (some (.int r)) (ST x z)) := by
  refine JC.of (by decide +kernel) (Nat.le_of_ble_eq_true rfl) ?_
  change J g m_X9_hardFirst d 0 0 0 [(0, .ref 80), (1, .int a1)] [] (ST x m) 0 0 (EQ (some (.int r)) (ST x z))
  unfold f_X9_hardFirst at hF
  refine J_iconst (v := 0) dX9_hardFirst_0 (by decide) ?_
  refine J_istore_n (L' := [(2, .int 0), (0, .ref 80), (1, .int a1)]) dX9_hardFirst_1 rfl (by decide) rfl ?_
  refine J_iconst (v := 0) dX9_hardFirst_2 (by decide) ?_
  refine J_istore_n (L' := [(3, .int 0), (2, .int 0), (0, .ref 80), (1, .int a1)]) dX9_hardFirst_3 rfl (by decide) rfl ?_
  refine J_aload_n (j := 2) dX9_hardFirst_4 rfl rfl ?_
  refine JM_getR (r := 90) fl_WithOneHandModel_41_8 dX9_hardFirst_5 c_80 rfl rfl ?_
  refine J_iconst (v := 0) dX9_hardFirst_8 (by decide) ?_
  refine JM_iald (j := 0) dX9_hardFirst_9 c_90 (by unfold vp_in; decide) (by decide) ?_
  refine J_istore (L' := [(4, .int (mi m 90 0)), (3, .int 0), (2, .int 0), (0, .ref 80), (1, .int a1)]) dX9_hardFirst_10 (by decide) rfl ?_
  refine J_aload_n (j := 3) dX9_hardFirst_12 rfl rfl ?_
  refine JM_getR (r := 90) fl_WithOneHandModel_41_8 dX9_hardFirst_13 c_80 rfl rfl ?_
  refine J_iconst (v := 1) dX9_hardFirst_16 (by decide) ?_
  refine JM_iald (j := 1) dX9_hardFirst_17 c_90 (by unfold vp_in; decide) (by decide) ?_
  refine J_istore (L' := [(5, .int (mi m 90 1)), (4, .int (mi m 90 0)), (3, .int 0), (2, .int 0), (0, .ref 80), (1, .int a1)]) dX9_hardFirst_18 (by decide) rfl ?_
  refine J_iconst (v := 0) dX9_hardFirst_20 (by decide) ?_
  refine J_istore (L' := [(6, .int 0), (5, .int (mi m 90 1)), (4, .int (mi m 90 0)), (3, .int 0), (2, .int 0), (0, .ref 80), (1, .int a1)]) dX9_hardFirst_21 (by decide) rfl ?_
  refine J_sub [5, 6, 4, 3, 2, 1, 0] rfl ?_
  exact Sf_X9_hardFirst_23 hd _ _ _ _ _ _ _ _ _ _ hF
def f_X9_order (a1 : Int32) (m : MM) : Option (Int32 × MM) :=
  if (-2) ≤ a1 then
  if a1 < (f_X9_both m) then
  letx (ms m 80 36 (-1)) (fun m3 =>
  ob (f_X9_orders 0 (f_X9_both m) 0 0 (mi m3 90 0) (mi m3 90 1) m3) (fun m4 =>
  if a1 = (-1) then
  some (mi m4 80 36, m4)
  else
  if a1 = (-2) then
  ob2 (f_X9_hardFirst (f_X9_both m) m4) (fun r9 m10 =>
  some (r9 - (mi m10 80 36), m10))
  else
  if inb a1 6 = true then
  some (mi m4 101 (ix a1), m4)
  else none))
  else
  some ((-2), m)
  else
  some ((-1), m)
theorem S_X9_order {g : GC} {d : Nat} {a1 : Int32} {x : MX} {m : MM} {r : Int32} {z : MM} (hd : 208 ≤ d) 
  (hF : f_X9_order a1 m = some (r, z)) : JC g m_X9_order d 0 0 [.ref 80, .int a1] (ST x m) (EQ (some (.int r)) (ST x z)) := by
  refine JC.of (by decide +kernel) (Nat.le_of_ble_eq_true rfl) ?_
  change J g m_X9_order d 0 0 0 [(0, .ref 80), (1, .int a1)] [] (ST x m) 0 0 (EQ (some (.int r)) (ST x z))
  unfold f_X9_order at hF
  refine J_aload_n (j := 0) dX9_order_0 rfl rfl ?_
  refine JM_callVi (As := []) (S := []) lkV_WithOneHandModel_287_X9_both rfl (by decide) dX9_order_1 c_80 (S_X9_both (by omega) rfl) (by omega) rfl rfl (Nat.le_of_ble_eq_true rfl) rfl ?_
  refine J_istore_n (L' := [(2, .int (f_X9_both m)), (0, .ref 80), (1, .int a1)]) dX9_order_4 rfl (by decide) rfl ?_
  refine J_iload_n (j := 2) dX9_order_5 rfl rfl ?_
  refine J_bipush (v := (-2)) dX9_order_6 (by decide) ?_
  refine J_icmp_ge (tgt := 13) dX9_order_8 (by decide) (fun q1 => ?_) (fun q1 => ?_)
  · rw [if_pos q1] at hF
    refine J_iload_n (j := 2) dX9_order_13 rfl rfl ?_
    refine J_iload_n (j := 0) dX9_order_14 rfl rfl ?_
    refine J_icmp_lt (tgt := 21) dX9_order_15 (by decide) (fun q2 => ?_) (fun q2 => ?_)
    · rw [if_pos q2] at hF
      refine J_aload_n (j := 1) dX9_order_21 rfl rfl ?_
      refine J_iconst (v := (-1)) dX9_order_22 (by decide) ?_
      obtain ⟨m3, e_m3, hF⟩ := letx_eq hF
      refine JM_putI fl_WithOneHandModel_273_8 dX9_order_23 c_80 rfl rfl rfl ?_
      rw [← e_m3]
      refine J_aload_n (j := 1) dX9_order_26 rfl rfl ?_
      refine J_iconst (v := 0) dX9_order_27 (by decide) ?_
      refine J_iload_n (j := 0) dX9_order_28 rfl rfl ?_
      refine J_iconst (v := 0) dX9_order_29 (by decide) ?_
      refine J_iconst (v := 0) dX9_order_30 (by decide) ?_
      refine J_aload_n (j := 1) dX9_order_31 rfl rfl ?_
      refine JM_getR (r := 90) fl_WithOneHandModel_41_8 dX9_order_32 c_80 rfl rfl ?_
      refine J_iconst (v := 0) dX9_order_35 (by decide) ?_
      refine JM_iald (j := 0) dX9_order_36 c_90 (by unfold vp_in; decide) (by decide) ?_
      refine J_aload_n (j := 1) dX9_order_37 rfl rfl ?_
      refine JM_getR (r := 90) fl_WithOneHandModel_41_8 dX9_order_38 c_80 rfl rfl ?_
      refine J_iconst (v := 1) dX9_order_41 (by decide) ?_
      refine JM_iald (j := 1) dX9_order_42 c_90 (by unfold vp_in; decide) (by decide) ?_
      obtain ⟨m4, h5, hF⟩ := ob_some hF
      refine JM_callVv (As := [.int 0, .int (f_X9_both m), .int 0, .int 0, .int (mi m3 90 0), .int (mi m3 90 1)]) (S := []) lkV_WithOneHandModel_283_X9_orders rfl (by decide) dX9_order_43 c_80 (S_X9_orders (by omega) h5) (by omega) rfl rfl (Nat.le_of_ble_eq_true rfl) rfl ?_
      refine J_iload_n (j := 2) dX9_order_46 rfl rfl ?_
      refine J_iconst (v := (-1)) dX9_order_47 (by decide) ?_
      refine J_icmp_ne (tgt := 58) dX9_order_48 (by decide) (fun q6 => ?_) (fun q6 => ?_)
      · rw [if_neg q6] at hF
        refine J_iload_n (j := 2) dX9_order_58 rfl rfl ?_
        refine J_bipush (v := (-2)) dX9_order_59 (by decide) ?_
        refine J_icmp_ne (tgt := 77) dX9_order_61 (by decide) (fun q7 => ?_) (fun q7 => ?_)
        · rw [if_neg q7] at hF
          refine J_aload_n (j := 1) dX9_order_77 rfl rfl ?_
          refine JM_getR (r := 101) fl_WithOneHandModel_74_8 dX9_order_78 c_80 rfl rfl ?_
          refine J_iload_n (j := 2) dX9_order_81 rfl rfl ?_
          obtain ⟨b8, hF⟩ := chk hF
          refine JM_iald (j := ix a1) dX9_order_82 c_101 (inb_vp b8) rfl ?_
          obtain ⟨e_r, e_z⟩ := someP hF
          subst e_r
          subst e_z
          exact J_ireturn rfl rfl dX9_order_83 ⟨rfl, rfl⟩
        · rw [if_pos q7] at hF
          refine J_aload_n (j := 1) dX9_order_64 rfl rfl ?_
          refine J_iload_n (j := 0) dX9_order_65 rfl rfl ?_
          obtain ⟨r9, m10, h11, hF⟩ := ob2_some hF
          refine JM_callVi (As := [.int (f_X9_both m)]) (S := []) lkV_WithOneHandModel_290_X9_hardFirst rfl (by decide) dX9_order_66 c_80 (S_X9_hardFirst (by omega) h11) (by omega) rfl rfl (Nat.le_of_ble_eq_true rfl) rfl ?_
          refine J_aload_n (j := 1) dX9_order_69 rfl rfl ?_
          refine JM_getI fl_WithOneHandModel_273_8 dX9_order_70 c_80 rfl ?_
          refine J_isub dX9_order_73 ?_
          refine J_goto (tgt := 83) dX9_order_74 (by decide) ?_
          obtain ⟨e_r, e_z⟩ := someP hF
          subst e_r
          subst e_z
          exact J_ireturn rfl rfl dX9_order_83 ⟨rfl, rfl⟩
      · rw [if_pos q6] at hF
        refine J_aload_n (j := 1) dX9_order_51 rfl rfl ?_
        refine JM_getI fl_WithOneHandModel_273_8 dX9_order_52 c_80 rfl ?_
        refine J_goto (tgt := 83) dX9_order_55 (by decide) ?_
        obtain ⟨e_r, e_z⟩ := someP hF
        subst e_r
        subst e_z
        exact J_ireturn rfl rfl dX9_order_83 ⟨rfl, rfl⟩
    · rw [if_neg q2] at hF
      refine J_bipush (v := (-2)) dX9_order_18 (by decide) ?_
      obtain ⟨e_r, e_z⟩ := someP hF
      subst e_r
      subst e_z
      exact J_ireturn rfl rfl dX9_order_20 ⟨rfl, rfl⟩
  · rw [if_neg q1] at hF
    refine J_iconst (v := (-1)) dX9_order_11 (by decide) ?_
    obtain ⟨e_r, e_z⟩ := someP hF
    subst e_r
    subst e_z
    exact J_ireturn rfl rfl dX9_order_12 ⟨rfl, rfl⟩
def f_X8_isPart (a0 : Int32) : Bool :=
  if a0 = 0 then
  true
  else
  if a0 = 1 then
  true
  else
  false
theorem S_X8_isPart {g : GC} {d : Nat} {a0 : Int32} {x : MX} {m : MM} {r : Bool} (hd : 1 ≤ d) 
  (hF : f_X8_isPart a0 = r) : JC g m_X8_isPart d 0 0 [.int a0] (ST x m) (EQ (some (.int (b2i r))) (ST x m)) := by
  refine JC.of (by decide +kernel) (Nat.le_of_ble_eq_true rfl) ?_
  change J g m_X8_isPart d 0 0 0 [(0, .int a0)] [] (ST x m) 0 0 (EQ (some (.int (b2i r))) (ST x m))
  unfold f_X8_isPart at hF
  refine J_iload_n (j := 0) dX8_isPart_0 rfl rfl ?_
  refine J_if_eq (tgt := 9) dX8_isPart_1 (by decide) (fun q1 => ?_) (fun q1 => ?_)
  · rw [if_pos q1] at hF
    refine J_iconst (v := 1) dX8_isPart_9 (by decide) ?_
    refine J_goto (tgt := 14) dX8_isPart_10 (by decide) ?_
    subst hF
    exact J_ireturn rfl rfl dX8_isPart_14 ⟨rfl, rfl⟩
  · rw [if_neg q1] at hF
    refine J_iload_n (j := 0) dX8_isPart_4 rfl rfl ?_
    refine J_iconst (v := 1) dX8_isPart_5 (by decide) ?_
    refine J_icmp_ne (tgt := 13) dX8_isPart_6 (by decide) (fun q2 => ?_) (fun q2 => ?_)
    · rw [if_neg q2] at hF
      refine J_iconst (v := 0) dX8_isPart_13 (by decide) ?_
      subst hF
      exact J_ireturn rfl rfl dX8_isPart_14 ⟨rfl, rfl⟩
    · rw [if_pos q2] at hF
      refine J_iconst (v := 1) dX8_isPart_9 (by decide) ?_
      refine J_goto (tgt := 14) dX8_isPart_10 (by decide) ?_
      subst hF
      exact J_ireturn rfl rfl dX8_isPart_14 ⟨rfl, rfl⟩
def B_X8_inLowestTerms_44 (v0 : Int64) (v2 : Int64) (v4 : Int32) (v5 : Int64) : Option Int64 :=
  if (lg_cmp v5 0) = 0 then
  some (-9223372036854775808)
  else
  if v4 = 0 then
  if ¬ v5 = 0 then
  some (v0 / v5)
  else none
  else
  if ¬ v5 = 0 then
  some (v2 / v5)
  else none
theorem SB_X8_inLowestTerms_44 {g : GC} {d : Nat} {v0 : Int64} {v2 : Int64} {v4 : Int32} {v5 : Int64} {x : MX} {m : MM} {r : Int64} (hd : 1 ≤ d) 
  (hF : B_X8_inLowestTerms_44 v0 v2 v4 v5 = some r) : J g m_X8_inLowestTerms d 0 0 44 [(0, .long v0), (2, .long v2), (4, .int v4), (5, .long v5)] [] (ST x m) 0 0 (EQ (some (.long r)) (ST x m)) := by
  unfold B_X8_inLowestTerms_44 at hF
  refine J_lload (j := 3) dX8_inLowestTerms_44 rfl ?_
  refine J_lconst (v := 0) dX8_inLowestTerms_46 (by decide) ?_
  refine J_lcmp dX8_inLowestTerms_47 ?_
  refine J_if_ne (tgt := 55) dX8_inLowestTerms_48 (by decide) (fun q2 => ?_) (fun q2 => ?_)
  · rw [if_neg q2] at hF
    refine J_iload (j := 2) dX8_inLowestTerms_55 rfl ?_
    refine J_if_ne (tgt := 67) dX8_inLowestTerms_57 (by decide) (fun q3 => ?_) (fun q3 => ?_)
    · rw [if_neg q3] at hF
      refine J_lload_n (j := 1) dX8_inLowestTerms_67 rfl rfl ?_
      refine J_lload (j := 3) dX8_inLowestTerms_68 rfl ?_
      obtain ⟨b4, hF⟩ := chk hF
      refine J_ldiv dX8_inLowestTerms_70 b4 ?_
      have e_r := Option.some.inj hF
      subst e_r
      exact J_lreturn rfl dX8_inLowestTerms_71 ⟨rfl, rfl⟩
    · rw [if_pos q3] at hF
      refine J_lload_n (j := 0) dX8_inLowestTerms_60 rfl rfl ?_
      refine J_lload (j := 3) dX8_inLowestTerms_61 rfl ?_
      obtain ⟨b5, hF⟩ := chk hF
      refine J_ldiv dX8_inLowestTerms_63 b5 ?_
      refine J_goto (tgt := 71) dX8_inLowestTerms_64 (by decide) ?_
      have e_r := Option.some.inj hF
      subst e_r
      exact J_lreturn rfl dX8_inLowestTerms_71 ⟨rfl, rfl⟩
  · rw [if_pos q2] at hF
    refine J_ldc2 (v := (-9223372036854775808)) (tb 638 (by decide +kernel)) dX8_inLowestTerms_51 ?_
    have e_r := Option.some.inj hF
    subst e_r
    exact J_lreturn rfl dX8_inLowestTerms_54 ⟨rfl, rfl⟩
def B_X8_inLowestTerms_9 (K9 : Int64 → Int64 → Int32 → Int64 → Int64 → Int32 → Option Int64) (v0 : Int64) (v2 : Int64) (v4 : Int32) (v5 : Int64) (v7 : Int64) (v9 : Int32) : Option Int64 :=
  if 100 ≤ v9 then
  B_X8_inLowestTerms_44 v0 v2 v4 v5
  else
  if (lg_cmp v7 0) = 0 then
  B_X8_inLowestTerms_44 v0 v2 v4 v5
  else
  if ¬ v7 = 0 then
  K9 v0 v2 v4 v7 (v5 % v7) (v9 + 1)
  else none
theorem SB_X8_inLowestTerms_9 {g : GC} {d : Nat} {K9 : Int64 → Int64 → Int32 → Int64 → Int64 → Int32 → Option Int64} {v0 : Int64} {v2 : Int64} {v4 : Int32} {v5 : Int64} {v7 : Int64} {v9 : Int32} {x : MX} {m : MM} {r : Int64} (hd : 1 ≤ d) (hK9 : ∀ (v0 : Int64) (v2 : Int64) (v4 : Int32) (v5 : Int64) (v7 : Int64) (v9 : Int32) (r : Int64), K9 v0 v2 v4 v5 v7 v9 = some r → J g m_X8_inLowestTerms d 0 0 9 [(0, .long v0), (2, .long v2), (4, .int v4), (5, .long v5), (7, .long v7), (9, .int v9)] [] (ST x m) 0 0 (EQ (some (.long r)) (ST x m)))
  (hF : B_X8_inLowestTerms_9 K9 v0 v2 v4 v5 v7 v9 = some r) : J g m_X8_inLowestTerms d 0 0 9 [(0, .long v0), (2, .long v2), (4, .int v4), (5, .long v5), (7, .long v7), (9, .int v9)] [] (ST x m) 0 0 (EQ (some (.long r)) (ST x m)) := by
  unfold B_X8_inLowestTerms_9 at hF
  refine J_iload (j := 5) dX8_inLowestTerms_9 rfl ?_
  refine J_bipush (v := 100) dX8_inLowestTerms_11 (by decide) ?_
  refine J_icmp_ge (tgt := 44) dX8_inLowestTerms_13 (by decide) (fun q1 => ?_) (fun q1 => ?_)
  · rw [if_pos q1] at hF
    refine J_sub [0, 1, 2, 3] rfl ?_
    exact SB_X8_inLowestTerms_44 hd hF
  · rw [if_neg q1] at hF
    refine J_lload (j := 4) dX8_inLowestTerms_16 rfl ?_
    refine J_lconst (v := 0) dX8_inLowestTerms_18 (by decide) ?_
    refine J_lcmp dX8_inLowestTerms_19 ?_
    refine J_if_eq (tgt := 44) dX8_inLowestTerms_20 (by decide) (fun q6 => ?_) (fun q6 => ?_)
    · rw [if_pos q6] at hF
      refine J_sub [0, 1, 2, 3] rfl ?_
      exact SB_X8_inLowestTerms_44 hd hF
    · rw [if_neg q6] at hF
      refine J_lload (j := 3) dX8_inLowestTerms_23 rfl ?_
      refine J_lload (j := 4) dX8_inLowestTerms_25 rfl ?_
      obtain ⟨b7, hF⟩ := chk hF
      refine J_lrem dX8_inLowestTerms_27 b7 ?_
      refine J_lstore (L' := [(10, .long (v5 % v7)), (0, .long v0), (2, .long v2), (4, .int v4), (5, .long v5), (7, .long v7), (9, .int v9)]) dX8_inLowestTerms_28 (by decide) rfl ?_
      refine J_lload (j := 5) dX8_inLowestTerms_30 rfl ?_
      refine J_lstore (L' := [(5, .long v7), (10, .long (v5 % v7)), (0, .long v0), (2, .long v2), (4, .int v4), (7, .long v7), (9, .int v9)]) dX8_inLowestTerms_32 (by decide) rfl ?_
      refine J_lload (j := 1) dX8_inLowestTerms_34 rfl ?_
      refine J_lstore (L' := [(7, .long (v5 % v7)), (5, .long v7), (10, .long (v5 % v7)), (0, .long v0), (2, .long v2), (4, .int v4), (9, .int v9)]) dX8_inLowestTerms_36 (by decide) rfl ?_
      refine J_iinc (j := 6) (v := v9 + 1) (L' := [(9, .int (v9 + 1)), (7, .long (v5 % v7)), (5, .long v7), (10, .long (v5 % v7)), (0, .long v0), (2, .long v2), (4, .int v4)]) dX8_inLowestTerms_38 rfl rfl (by decide) rfl ?_
      refine J_goto (tgt := 9) dX8_inLowestTerms_41 (by decide) ?_
      refine J_sub [4, 5, 6, 2, 1, 0] rfl ?_
      exact hK9 _ _ _ _ _ _ _  hF
def f_X8_inLowestTerms_9  : Nat → Int64 → Int64 → Int32 → Int64 → Int64 → Int32 → Option Int64
  | 0 => fun _ _ _ _ _ _ => none
  | n + 1 => fun v0 v2 v4 v5 v7 v9 => B_X8_inLowestTerms_9 (f_X8_inLowestTerms_9  n) v0 v2 v4 v5 v7 v9
theorem Sf_X8_inLowestTerms_9 {g : GC} {d : Nat} {x : MX} {m : MM} (hd : 1 ≤ d)  : ∀ (n : Nat) (v0 : Int64) (v2 : Int64) (v4 : Int32) (v5 : Int64) (v7 : Int64) (v9 : Int32) (r : Int64), f_X8_inLowestTerms_9  n v0 v2 v4 v5 v7 v9 = some r → J g m_X8_inLowestTerms d 0 0 9 [(0, .long v0), (2, .long v2), (4, .int v4), (5, .long v5), (7, .long v7), (9, .int v9)] [] (ST x m) 0 0 (EQ (some (.long r)) (ST x m)) := by
  intro n
  induction n with
  | zero => intro v0 v2 v4 v5 v7 v9 r  hF; exact absurd hF (fun q => by cases q)
  | succ n ih =>
    intro v0 v2 v4 v5 v7 v9 r  hF
    exact SB_X8_inLowestTerms_9 hd (fun v0 v2 v4 v5 v7 v9 r  hF => ih v0 v2 v4 v5 v7 v9 r  hF) hF
def f_X8_inLowestTerms (a0 : Int64) (a2 : Int64) (a4 : Int32) : Option Int64 :=
  f_X8_inLowestTerms_9 LF a0 a2 a4 a2 a0 0
theorem S_X8_inLowestTerms {g : GC} {d : Nat} {a0 : Int64} {a2 : Int64} {a4 : Int32} {x : MX} {m : MM} {r : Int64} (hd : 1 ≤ d) 
  (hF : f_X8_inLowestTerms a0 a2 a4 = some r) : JC g m_X8_inLowestTerms d 0 0 [.long a0, .long a2, .int a4] (ST x m) (EQ (some (.long r)) (ST x m)) := by
  refine JC.of (by decide +kernel) (Nat.le_of_ble_eq_true rfl) ?_
  change J g m_X8_inLowestTerms d 0 0 0 [(0, .long a0), (2, .long a2), (4, .int a4)] [] (ST x m) 0 0 (EQ (some (.long r)) (ST x m))
  unfold f_X8_inLowestTerms at hF
  refine J_lload_n (j := 1) dX8_inLowestTerms_0 rfl rfl ?_
  refine J_lstore (L' := [(5, .long a2), (0, .long a0), (2, .long a2), (4, .int a4)]) dX8_inLowestTerms_1 (by decide) rfl ?_
  refine J_lload_n (j := 1) dX8_inLowestTerms_3 rfl rfl ?_
  refine J_lstore (L' := [(7, .long a0), (5, .long a2), (0, .long a0), (2, .long a2), (4, .int a4)]) dX8_inLowestTerms_4 (by decide) rfl ?_
  refine J_iconst (v := 0) dX8_inLowestTerms_6 (by decide) ?_
  refine J_istore (L' := [(9, .int 0), (7, .long a0), (5, .long a2), (0, .long a0), (2, .long a2), (4, .int a4)]) dX8_inLowestTerms_7 (by decide) rfl ?_
  refine J_sub [3, 4, 5, 2, 1, 0] rfl ?_
  exact Sf_X8_inLowestTerms_9 hd _ _ _ _ _ _ _ _ hF
def f_X8_dropped (a1 : Int32) (a2 : Int32) (x : MX) : Option (Int64 × MX) :=
  ob (f_X8_isLinkAndCuff a1 x) (fun r1 =>
  if r1 = true then
  if (f_X8_isPart a2) = true then
  ob2 (f_X8_takesNow (a1 / 10) (a1 % 10) x) (fun r5 x6 =>
  letx ((12 * r5) + ((xi x 16 0) * (xi x6 17 0))) (fun y8 =>
  ob (f_X8_inLowestTerms (Int32.toInt64 y8) (Int32.toInt64 (12 - (xi x 16 0))) a2) (fun r9 =>
  some (r9, x6))))
  else
  some ((-9223372036854775808), x)
  else
  some ((-9223372036854775808), x))
theorem S_X8_dropped {g : GC} {d : Nat} {a1 : Int32} {a2 : Int32} {x : MX} {m : MM} {r : Int64} {z : MX} (hd : 6 ≤ d) 
  (hF : f_X8_dropped a1 a2 x = some (r, z)) : JC g m_X8_dropped d 0 0 [.ref 5, .int a1, .int a2] (ST x m) (EQ (some (.long r)) (ST z m)) := by
  refine JC.of (by decide +kernel) (Nat.le_of_ble_eq_true rfl) ?_
  change J g m_X8_dropped d 0 0 0 [(0, .ref 5), (1, .int a1), (2, .int a2)] [] (ST x m) 0 0 (EQ (some (.long r)) (ST z m))
  unfold f_X8_dropped at hF
  refine J_aload_n (j := 0) dX8_dropped_0 rfl rfl ?_
  refine J_iload_n (j := 1) dX8_dropped_1 rfl rfl ?_
  obtain ⟨r1, h2, hF⟩ := ob_some hF
  refine JX_callVi (As := [.int a1]) (S := []) lkV_WithOneHand_132_X8_isLinkAndCuff rfl (by decide) dX8_dropped_2 c_5 (S_X8_isLinkAndCuff (by omega) h2) (by omega) rfl rfl (Nat.le_of_ble_eq_true rfl) rfl ?_
  refine J_ifb_eq (tgt := 15) dX8_dropped_5 (by decide) (fun q3 => ?_) (fun q3 => ?_)
  · rw [if_neg q3] at hF
    refine J_ldc2 (v := (-9223372036854775808)) (tb 638 (by decide +kernel)) dX8_dropped_15 ?_
    obtain ⟨e_r, e_z⟩ := someP hF
    subst e_r
    subst e_z
    exact J_lreturn rfl dX8_dropped_18 ⟨rfl, rfl⟩
  · rw [if_pos q3] at hF
    refine J_iload_n (j := 2) dX8_dropped_8 rfl rfl ?_
    refine J_callSi (As := [.int a2]) (S := []) lkS_WithOneHand_179_X8_isPart dX8_dropped_9 (S_X8_isPart (by omega) rfl) (by omega) rfl rfl (Nat.le_of_ble_eq_true rfl) rfl ?_
    refine J_ifb_ne (tgt := 19) dX8_dropped_12 (by decide) (fun q4 => ?_) (fun q4 => ?_)
    · rw [if_pos q4] at hF
      refine J_aload_n (j := 0) dX8_dropped_19 rfl rfl ?_
      refine JX_getR (r := 6) fl_WithOneHand_11_7 dX8_dropped_20 c_5 rfl rfl ?_
      refine J_bipush (v := 9) dX8_dropped_23 (by decide) ?_
      refine JX_aald (j := 9) (r := 16) (by decide) dX8_dropped_25 c_6 (by unfold vp_in; decide) (by decide) rfl ?_
      refine J_iconst (v := 0) dX8_dropped_26 (by decide) ?_
      refine JX_iald (j := 0) dX8_dropped_27 c_16 (by unfold vp_in; decide) (by decide) ?_
      refine J_istore_n (L' := [(3, .int (xi x 16 0)), (0, .ref 5), (1, .int a1), (2, .int a2)]) dX8_dropped_28 rfl (by decide) rfl ?_
      refine J_bipush (v := 12) dX8_dropped_29 (by decide) ?_
      refine J_aload_n (j := 1) dX8_dropped_31 rfl rfl ?_
      refine J_iload_n (j := 2) dX8_dropped_32 rfl rfl ?_
      refine J_bipush (v := 10) dX8_dropped_33 (by decide) ?_
      refine J_idiv dX8_dropped_35 (by decide) ?_
      refine J_iload_n (j := 2) dX8_dropped_36 rfl rfl ?_
      refine J_bipush (v := 10) dX8_dropped_37 (by decide) ?_
      refine J_irem dX8_dropped_39 (by decide) ?_
      obtain ⟨r5, x6, h7, hF⟩ := ob2_some hF
      refine JX_callVi (As := [.int (a1 / 10), .int (a1 % 10)]) (S := [.int 12]) lkV_WithOneHand_135_X8_takesNow rfl (by decide) dX8_dropped_40 c_5 (S_X8_takesNow (by omega) h7) (by omega) rfl rfl (Nat.le_of_ble_eq_true rfl) rfl ?_
      refine J_imul dX8_dropped_43 ?_
      refine J_iload_n (j := 0) dX8_dropped_44 rfl rfl ?_
      refine J_aload_n (j := 1) dX8_dropped_45 rfl rfl ?_
      refine JX_getR (r := 6) fl_WithOneHand_11_7 dX8_dropped_46 c_5 rfl rfl ?_
      refine J_bipush (v := 10) dX8_dropped_49 (by decide) ?_
      refine JX_aald (j := 10) (r := 17) (by decide) dX8_dropped_51 c_6 (by unfold vp_in; decide) (by decide) rfl ?_
      refine J_iconst (v := 0) dX8_dropped_52 (by decide) ?_
      refine JX_iald (j := 0) dX8_dropped_53 c_17 (by unfold vp_in; decide) (by decide) ?_
      refine J_imul dX8_dropped_54 ?_
      refine J_iadd dX8_dropped_55 ?_
      obtain ⟨y8, e_y8, hF⟩ := letx_eq hF
      rw [← e_y8]
      refine J_istore (L' := [(4, .int y8), (3, .int (xi x 16 0)), (0, .ref 5), (1, .int a1), (2, .int a2)]) dX8_dropped_56 (by decide) rfl ?_
      refine J_iload (j := 0) dX8_dropped_58 rfl ?_
      refine J_i2l dX8_dropped_60 ?_
      refine J_bipush (v := 12) dX8_dropped_61 (by decide) ?_
      refine J_iload_n (j := 1) dX8_dropped_63 rfl rfl ?_
      refine J_isub dX8_dropped_64 ?_
      refine J_i2l dX8_dropped_65 ?_
      refine J_iload_n (j := 4) dX8_dropped_66 rfl rfl ?_
      obtain ⟨r9, h10, hF⟩ := ob_some hF
      refine J_callSl (As := [.long (Int32.toInt64 y8), .long (Int32.toInt64 (12 - (xi x 16 0))), .int a2]) (S := []) lkS_WithOneHand_184_X8_inLowestTerms dX8_dropped_67 (S_X8_inLowestTerms (by omega) h10) (by omega) rfl rfl (Nat.le_of_ble_eq_true rfl) rfl ?_
      obtain ⟨e_r, e_z⟩ := someP hF
      subst e_r
      subst e_z
      exact J_lreturn rfl dX8_dropped_70 ⟨rfl, rfl⟩
    · rw [if_neg q4] at hF
      refine J_ldc2 (v := (-9223372036854775808)) (tb 638 (by decide +kernel)) dX8_dropped_15 ?_
      obtain ⟨e_r, e_z⟩ := someP hF
      subst e_r
      subst e_z
      exact J_lreturn rfl dX8_dropped_18 ⟨rfl, rfl⟩
def R_X9_common (s_X9_common : Int64 → Int64 → Option Int64) (a1 : Int64) (a3 : Int64) : Option Int64 :=
  if (lg_cmp a3 0) = 0 then
  some a1
  else
  if ¬ a3 = 0 then
  ob (s_X9_common a3 (a1 % a3)) (fun r3 =>
  some r3)
  else none
theorem SR_X9_common {g : GC} {nn d : Nat} {s_X9_common : Int64 → Int64 → Option Int64} {a1 : Int64} {a3 : Int64} {x : MX} {m : MM} {r : Int64} (hd : nn + 2 ≤ d) (hs_s_X9_common : ∀ (d : Nat), nn + 1 ≤ d → ∀ (a1 : Int64) (a3 : Int64) (r : Int64), s_X9_common a1 a3 = some r → JC g m_X9_common d 0 0 [.ref 80, .long a1, .long a3] (ST x m) (EQ (some (.long r)) (ST x m))) 
  (hF : R_X9_common s_X9_common a1 a3 = some r) : JC g m_X9_common d 0 0 [.ref 80, .long a1, .long a3] (ST x m) (EQ (some (.long r)) (ST x m)) := by
  refine JC.of (by decide +kernel) (Nat.le_of_ble_eq_true rfl) ?_
  change J g m_X9_common d 0 0 0 [(0, .ref 80), (1, .long a1), (3, .long a3)] [] (ST x m) 0 0 (EQ (some (.long r)) (ST x m))
  unfold R_X9_common at hF
  refine J_lload_n (j := 2) dX9_common_0 rfl rfl ?_
  refine J_lconst (v := 0) dX9_common_1 (by decide) ?_
  refine J_lcmp dX9_common_2 ?_
  refine J_if_ne (tgt := 10) dX9_common_3 (by decide) (fun q1 => ?_) (fun q1 => ?_)
  · rw [if_neg q1] at hF
    refine J_aload_n (j := 0) dX9_common_10 rfl rfl ?_
    refine J_lload_n (j := 2) dX9_common_11 rfl rfl ?_
    refine J_lload_n (j := 1) dX9_common_12 rfl rfl ?_
    refine J_lload_n (j := 2) dX9_common_13 rfl rfl ?_
    obtain ⟨b2, hF⟩ := chk hF
    refine J_lrem dX9_common_14 b2 ?_
    obtain ⟨r3, h4, hF⟩ := ob_some hF
    refine JM_callVl (As := [.long a3, .long (a1 % a3)]) (S := []) lkV_WithOneHandModel_293_X9_common rfl (by decide) dX9_common_15 c_80 (hs_s_X9_common (d - 1) (by omega) _ _ _ h4) (by omega) rfl rfl (Nat.le_of_ble_eq_true rfl) rfl ?_
    have e_r := Option.some.inj hF
    subst e_r
    exact J_lreturn rfl dX9_common_18 ⟨rfl, rfl⟩
  · rw [if_pos q1] at hF
    refine J_lload_n (j := 1) dX9_common_6 rfl rfl ?_
    refine J_goto (tgt := 18) dX9_common_7 (by decide) ?_
    have e_r := Option.some.inj hF
    subst e_r
    exact J_lreturn rfl dX9_common_18 ⟨rfl, rfl⟩
def G_X9_common : Nat → (Int64 → Int64 → Option Int64)
  | 0 => fun _ _ => none
  | n + 1 => R_X9_common (G_X9_common n)
theorem SG_X9_common {g : GC} {x : MX} {m : MM} : ∀ n : Nat, (∀ (d : Nat), n + 1 ≤ d → ∀ (a1 : Int64) (a3 : Int64) (r : Int64), G_X9_common n a1 a3 = some r → JC g m_X9_common d 0 0 [.ref 80, .long a1, .long a3] (ST x m) (EQ (some (.long r)) (ST x m))) := by
  intro n
  induction n with
  | zero =>
    exact fun d hd _ _ _ hF => absurd hF (fun q => by cases q)
  | succ n ih =>
    exact fun d hd _ _ _  hF => SR_X9_common (nn := n) (by omega) ih  hF
def f_X9_common (a1 : Int64) (a3 : Int64) : Option Int64 := G_X9_common RF a1 a3
theorem S_X9_common {g : GC} {d : Nat} {a1 : Int64} {a3 : Int64} {x : MX} {m : MM} {r : Int64} (hd : 101 ≤ d) 
  (hF : f_X9_common a1 a3 = some r) : JC g m_X9_common d 0 0 [.ref 80, .long a1, .long a3] (ST x m) (EQ (some (.long r)) (ST x m)) := (SG_X9_common RF) d (by unfold RF; omega) _ _ _  hF
def f_X9_lowest (a1 : Int64) (a3 : Int64) (a5 : Int32) : Option Int64 :=
  ob (f_X9_common a1 a3) (fun r1 =>
  if a5 = 0 then
  if ¬ r1 = 0 then
  some (a1 / r1)
  else none
  else
  if ¬ r1 = 0 then
  some (a3 / r1)
  else none)
theorem S_X9_lowest {g : GC} {d : Nat} {a1 : Int64} {a3 : Int64} {a5 : Int32} {x : MX} {m : MM} {r : Int64} (hd : 102 ≤ d) 
  (hF : f_X9_lowest a1 a3 a5 = some r) : JC g m_X9_lowest d 0 0 [.ref 80, .long a1, .long a3, .int a5] (ST x m) (EQ (some (.long r)) (ST x m)) := by
  refine JC.of (by decide +kernel) (Nat.le_of_ble_eq_true rfl) ?_
  change J g m_X9_lowest d 0 0 0 [(0, .ref 80), (1, .long a1), (3, .long a3), (5, .int a5)] [] (ST x m) 0 0 (EQ (some (.long r)) (ST x m))
  unfold f_X9_lowest at hF
  refine J_aload_n (j := 0) dX9_lowest_0 rfl rfl ?_
  refine J_lload_n (j := 1) dX9_lowest_1 rfl rfl ?_
  refine J_lload_n (j := 2) dX9_lowest_2 rfl rfl ?_
  obtain ⟨r1, h2, hF⟩ := ob_some hF
  refine JM_callVl (As := [.long a1, .long a3]) (S := []) lkV_WithOneHandModel_293_X9_common rfl (by decide) dX9_lowest_3 c_80 (S_X9_common (by omega) h2) (by omega) rfl rfl (Nat.le_of_ble_eq_true rfl) rfl ?_
  refine J_lstore (L' := [(6, .long r1), (0, .ref 80), (1, .long a1), (3, .long a3), (5, .int a5)]) dX9_lowest_6 (by decide) rfl ?_
  refine J_iload (j := 4) dX9_lowest_8 rfl ?_
  refine J_if_ne (tgt := 17) dX9_lowest_10 (by decide) (fun q3 => ?_) (fun q3 => ?_)
  · rw [if_neg q3] at hF
    refine J_lload_n (j := 3) dX9_lowest_17 rfl rfl ?_
    refine J_lload (j := 0) dX9_lowest_18 rfl ?_
    obtain ⟨b4, hF⟩ := chk hF
    refine J_ldiv dX9_lowest_20 b4 ?_
    have e_r := Option.some.inj hF
    subst e_r
    exact J_lreturn rfl dX9_lowest_21 ⟨rfl, rfl⟩
  · rw [if_pos q3] at hF
    refine J_lload_n (j := 2) dX9_lowest_13 rfl rfl ?_
    refine J_goto (tgt := 18) dX9_lowest_14 (by decide) ?_
    refine J_lload (j := 0) dX9_lowest_18 rfl ?_
    obtain ⟨b5, hF⟩ := chk hF
    refine J_ldiv dX9_lowest_20 b5 ?_
    have e_r := Option.some.inj hF
    subst e_r
    exact J_lreturn rfl dX9_lowest_21 ⟨rfl, rfl⟩
def f_X9_dropped (a1 : Int32) (a2 : Int32) (m : MM) : Option (Int64 × MM) :=
  ob (f_X9_isPair a1 m) (fun r1 =>
  if r1 = true then
  if (f_X9_isIn a2 0 1) = true then
  ob2 (f_X9_takesNow (a1 / 10) (a1 % 10) m) (fun r5 m6 =>
  ob (f_X9_lowest ((12 * (Int32.toInt64 r5)) + (Int32.toInt64 ((mi m6 80 3) * (mi m6 80 4)))) (12 - (Int32.toInt64 (mi m6 80 3))) a2) (fun r8 =>
  some (r8, m6)))
  else
  some ((-9223372036854775808), m)
  else
  some ((-9223372036854775808), m))
theorem S_X9_dropped {g : GC} {d : Nat} {a1 : Int32} {a2 : Int32} {x : MX} {m : MM} {r : Int64} {z : MM} (hd : 108 ≤ d) 
  (hF : f_X9_dropped a1 a2 m = some (r, z)) : JC g m_X9_dropped d 0 0 [.ref 80, .int a1, .int a2] (ST x m) (EQ (some (.long r)) (ST x z)) := by
  refine JC.of (by decide +kernel) (Nat.le_of_ble_eq_true rfl) ?_
  change J g m_X9_dropped d 0 0 0 [(0, .ref 80), (1, .int a1), (2, .int a2)] [] (ST x m) 0 0 (EQ (some (.long r)) (ST x z))
  unfold f_X9_dropped at hF
  refine J_aload_n (j := 0) dX9_dropped_0 rfl rfl ?_
  refine J_iload_n (j := 1) dX9_dropped_1 rfl rfl ?_
  obtain ⟨r1, h2, hF⟩ := ob_some hF
  refine JM_callVi (As := [.int a1]) (S := []) lkV_WithOneHandModel_261_X9_isPair rfl (by decide) dX9_dropped_2 c_80 (S_X9_isPair (by omega) h2) (by omega) rfl rfl (Nat.le_of_ble_eq_true rfl) rfl ?_
  refine J_ifb_eq (tgt := 18) dX9_dropped_5 (by decide) (fun q3 => ?_) (fun q3 => ?_)
  · rw [if_neg q3] at hF
    refine J_ldc2 (v := (-9223372036854775808)) (tb 1289 (by decide +kernel)) dX9_dropped_18 ?_
    obtain ⟨e_r, e_z⟩ := someP hF
    subst e_r
    subst e_z
    exact J_lreturn rfl dX9_dropped_21 ⟨rfl, rfl⟩
  · rw [if_pos q3] at hF
    refine J_aload_n (j := 0) dX9_dropped_8 rfl rfl ?_
    refine J_iload_n (j := 2) dX9_dropped_9 rfl rfl ?_
    refine J_iconst (v := 0) dX9_dropped_10 (by decide) ?_
    refine J_iconst (v := 1) dX9_dropped_11 (by decide) ?_
    refine JM_callVi (As := [.int a2, .int 0, .int 1]) (S := []) lkV_WithOneHandModel_114_X9_isIn rfl (by decide) dX9_dropped_12 c_80 (S_X9_isIn (by omega) rfl) (by omega) rfl rfl (Nat.le_of_ble_eq_true rfl) rfl ?_
    refine J_ifb_ne (tgt := 22) dX9_dropped_15 (by decide) (fun q4 => ?_) (fun q4 => ?_)
    · rw [if_pos q4] at hF
      refine J_aload_n (j := 0) dX9_dropped_22 rfl rfl ?_
      refine J_ldc2 (v := 12) (tb 1290 (by decide +kernel)) dX9_dropped_23 ?_
      refine J_aload_n (j := 0) dX9_dropped_26 rfl rfl ?_
      refine J_iload_n (j := 1) dX9_dropped_27 rfl rfl ?_
      refine J_bipush (v := 10) dX9_dropped_28 (by decide) ?_
      refine J_idiv dX9_dropped_30 (by decide) ?_
      refine J_iload_n (j := 1) dX9_dropped_31 rfl rfl ?_
      refine J_bipush (v := 10) dX9_dropped_32 (by decide) ?_
      refine J_irem dX9_dropped_34 (by decide) ?_
      obtain ⟨r5, m6, h7, hF⟩ := ob2_some hF
      refine JM_callVi (As := [.int (a1 / 10), .int (a1 % 10)]) (S := [.long 12, .ref 80]) lkV_WithOneHandModel_264_X9_takesNow rfl (by decide) dX9_dropped_35 c_80 (S_X9_takesNow (by omega) h7) (by omega) rfl rfl (Nat.le_of_ble_eq_true rfl) rfl ?_
      refine J_i2l dX9_dropped_38 ?_
      refine J_lmul dX9_dropped_39 ?_
      refine J_aload_n (j := 0) dX9_dropped_40 rfl rfl ?_
      refine JM_getI fl_WithOneHandModel_139_8 dX9_dropped_41 c_80 rfl ?_
      refine J_aload_n (j := 0) dX9_dropped_44 rfl rfl ?_
      refine JM_getI fl_WithOneHandModel_7_8 dX9_dropped_45 c_80 rfl ?_
      refine J_imul dX9_dropped_48 ?_
      refine J_i2l dX9_dropped_49 ?_
      refine J_ladd dX9_dropped_50 ?_
      refine J_ldc2 (v := 12) (tb 1290 (by decide +kernel)) dX9_dropped_51 ?_
      refine J_aload_n (j := 0) dX9_dropped_54 rfl rfl ?_
      refine JM_getI fl_WithOneHandModel_139_8 dX9_dropped_55 c_80 rfl ?_
      refine J_i2l dX9_dropped_58 ?_
      refine J_lsub dX9_dropped_59 ?_
      refine J_iload_n (j := 2) dX9_dropped_60 rfl rfl ?_
      obtain ⟨r8, h9, hF⟩ := ob_some hF
      refine JM_callVl (As := [.long ((12 * (Int32.toInt64 r5)) + (Int32.toInt64 ((mi m6 80 3) * (mi m6 80 4)))), .long (12 - (Int32.toInt64 (mi m6 80 3))), .int a2]) (S := []) lkV_WithOneHandModel_303_X9_lowest rfl (by decide) dX9_dropped_61 c_80 (S_X9_lowest (by omega) h9) (by omega) rfl rfl (Nat.le_of_ble_eq_true rfl) rfl ?_
      obtain ⟨e_r, e_z⟩ := someP hF
      subst e_r
      subst e_z
      exact J_lreturn rfl dX9_dropped_64 ⟨rfl, rfl⟩
    · rw [if_neg q4] at hF
      refine J_ldc2 (v := (-9223372036854775808)) (tb 1289 (by decide +kernel)) dX9_dropped_18 ?_
      obtain ⟨e_r, e_z⟩ := someP hF
      subst e_r
      subst e_z
      exact J_lreturn rfl dX9_dropped_21 ⟨rfl, rfl⟩
def B_X8_by_116 (v3 : Int32) (v5 : Int64) (v7 : Int64) (x : MX) : Option (Int64 × MX) :=
  ob (f_X8_inLowestTerms (v5 - v7) v5 v3) (fun r11 =>
  some (r11, x))
theorem SB_X8_by_116 {g : GC} {d : Nat} {v3 : Int32} {v5 : Int64} {v7 : Int64} {x : MX} {m : MM} {r : Int64} {z : MX} (hd : 6 ≤ d) 
  (hF : B_X8_by_116 v3 v5 v7 x = some (r, z)) : J g m_X8_by d 0 0 116 [(3, .int v3), (5, .long v5), (7, .long v7)] [] (ST x m) 0 0 (EQ (some (.long r)) (ST z m)) := by
  unfold B_X8_by_116 at hF
  refine J_lload (j := 1) dX8_by_116 rfl ?_
  refine J_lload (j := 2) dX8_by_118 rfl ?_
  refine J_lsub dX8_by_120 ?_
  refine J_lload (j := 1) dX8_by_121 rfl ?_
  refine J_iload_n (j := 0) dX8_by_123 rfl rfl ?_
  obtain ⟨r11, h12, hF⟩ := ob_some hF
  refine J_callSl (As := [.long (v5 - v7), .long v5, .int v3]) (S := []) lkS_WithOneHand_184_X8_inLowestTerms dX8_by_124 (S_X8_inLowestTerms (by omega) h12) (by omega) rfl rfl (Nat.le_of_ble_eq_true rfl) rfl ?_
  obtain ⟨e_r, e_z⟩ := someP hF
  subst e_r
  subst e_z
  exact J_lreturn rfl dX8_by_127 ⟨rfl, rfl⟩
def B_X8_by_57 (K57 : Int32 → Int32 → Int32 → Int64 → Int64 → Int32 → Int32 → MX → Option (Int64 × MX)) (v2 : Int32) (v3 : Int32) (v4 : Int32) (v5 : Int64) (v7 : Int64) (v9 : Int32) (v10 : Int32) (x : MX) : Option (Int64 × MX) :=
  if 6 ≤ v10 then
  B_X8_by_116 v3 v5 v7 x
  else
  if v2 < v9 then
  B_X8_by_116 v3 v5 v7 x
  else
  letx (v7 * (Int32.toInt64 (xi x 16 0))) (fun y14 =>
  K57 v2 v3 v4 (v5 * 12) y14 (v9 + ((xi x 17 0) + v4)) (v10 + 1) x)
theorem SB_X8_by_57 {g : GC} {d : Nat} {K57 : Int32 → Int32 → Int32 → Int64 → Int64 → Int32 → Int32 → MX → Option (Int64 × MX)} {v2 : Int32} {v3 : Int32} {v4 : Int32} {v5 : Int64} {v7 : Int64} {v9 : Int32} {v10 : Int32} {x : MX} {m : MM} {r : Int64} {z : MX} (hd : 6 ≤ d) (hK57 : ∀ (v2 : Int32) (v3 : Int32) (v4 : Int32) (v5 : Int64) (v7 : Int64) (v9 : Int32) (v10 : Int32) (x : MX) (r : Int64) (z : MX), K57 v2 v3 v4 v5 v7 v9 v10 x = some (r, z) → J g m_X8_by d 0 0 57 [(0, .ref 5), (2, .int v2), (3, .int v3), (4, .int v4), (5, .long v5), (7, .long v7), (9, .int v9), (10, .int v10)] [] (ST x m) 0 0 (EQ (some (.long r)) (ST z m)))
  (hF : B_X8_by_57 K57 v2 v3 v4 v5 v7 v9 v10 x = some (r, z)) : J g m_X8_by d 0 0 57 [(0, .ref 5), (2, .int v2), (3, .int v3), (4, .int v4), (5, .long v5), (7, .long v7), (9, .int v9), (10, .int v10)] [] (ST x m) 0 0 (EQ (some (.long r)) (ST z m)) := by
  unfold B_X8_by_57 at hF
  refine J_iload (j := 7) dX8_by_57 rfl ?_
  refine J_bipush (v := 6) dX8_by_59 (by decide) ?_
  refine J_icmp_ge (tgt := 116) dX8_by_61 (by decide) (fun q10 => ?_) (fun q10 => ?_)
  · rw [if_pos q10] at hF
    refine J_sub [2, 4, 5] rfl ?_
    exact SB_X8_by_116 hd hF
  · rw [if_neg q10] at hF
    refine J_iload (j := 6) dX8_by_64 rfl ?_
    refine J_iload_n (j := 1) dX8_by_66 rfl rfl ?_
    refine J_icmp_gt (tgt := 116) dX8_by_67 (by decide) (fun q13 => ?_) (fun q13 => ?_)
    · rw [if_pos q13] at hF
      refine J_sub [2, 4, 5] rfl ?_
      exact SB_X8_by_116 hd hF
    · rw [if_neg q13] at hF
      refine J_lload (j := 4) dX8_by_70 rfl ?_
      refine J_ldc2 (v := 12) (tb 646 (by decide +kernel)) dX8_by_72 ?_
      refine J_lmul dX8_by_75 ?_
      refine J_lstore (L' := [(5, .long (v5 * 12)), (0, .ref 5), (2, .int v2), (3, .int v3), (4, .int v4), (7, .long v7), (9, .int v9), (10, .int v10)]) dX8_by_76 (by decide) rfl ?_
      refine J_lload (j := 5) dX8_by_78 rfl ?_
      refine J_aload_n (j := 1) dX8_by_80 rfl rfl ?_
      refine JX_getR (r := 6) fl_WithOneHand_11_7 dX8_by_81 c_5 rfl rfl ?_
      refine J_bipush (v := 9) dX8_by_84 (by decide) ?_
      refine JX_aald (j := 9) (r := 16) (by decide) dX8_by_86 c_6 (by unfold vp_in; decide) (by decide) rfl ?_
      refine J_iconst (v := 0) dX8_by_87 (by decide) ?_
      refine JX_iald (j := 0) dX8_by_88 c_16 (by unfold vp_in; decide) (by decide) ?_
      refine J_i2l dX8_by_89 ?_
      refine J_lmul dX8_by_90 ?_
      obtain ⟨y14, e_y14, hF⟩ := letx_eq hF
      rw [← e_y14]
      refine J_lstore (L' := [(7, .long y14), (5, .long (v5 * 12)), (0, .ref 5), (2, .int v2), (3, .int v3), (4, .int v4), (9, .int v9), (10, .int v10)]) dX8_by_91 (by decide) rfl ?_
      refine J_iload (j := 6) dX8_by_93 rfl ?_
      refine J_aload_n (j := 2) dX8_by_95 rfl rfl ?_
      refine JX_getR (r := 6) fl_WithOneHand_11_7 dX8_by_96 c_5 rfl rfl ?_
      refine J_bipush (v := 10) dX8_by_99 (by decide) ?_
      refine JX_aald (j := 10) (r := 17) (by decide) dX8_by_101 c_6 (by unfold vp_in; decide) (by decide) rfl ?_
      refine J_iconst (v := 0) dX8_by_102 (by decide) ?_
      refine JX_iald (j := 0) dX8_by_103 c_17 (by unfold vp_in; decide) (by decide) ?_
      refine J_iload (j := 5) dX8_by_104 rfl ?_
      refine J_iadd dX8_by_106 ?_
      refine J_iadd dX8_by_107 ?_
      refine J_istore (L' := [(9, .int (v9 + ((xi x 17 0) + v4))), (7, .long y14), (5, .long (v5 * 12)), (0, .ref 5), (2, .int v2), (3, .int v3), (4, .int v4), (10, .int v10)]) dX8_by_108 (by decide) rfl ?_
      refine J_iinc (j := 7) (v := v10 + 1) (L' := [(10, .int (v10 + 1)), (9, .int (v9 + ((xi x 17 0) + v4))), (7, .long y14), (5, .long (v5 * 12)), (0, .ref 5), (2, .int v2), (3, .int v3), (4, .int v4)]) dX8_by_110 rfl rfl (by decide) rfl ?_
      refine J_goto (tgt := 57) dX8_by_113 (by decide) ?_
      refine J_sub [4, 5, 6, 7, 3, 2, 1, 0] rfl ?_
      exact hK57 _ _ _ _ _ _ _ _ _ _  hF
def f_X8_by_57  : Nat → Int32 → Int32 → Int32 → Int64 → Int64 → Int32 → Int32 → MX → Option (Int64 × MX)
  | 0 => fun _ _ _ _ _ _ _ _ => none
  | n + 1 => fun v2 v3 v4 v5 v7 v9 v10 x => B_X8_by_57 (f_X8_by_57  n) v2 v3 v4 v5 v7 v9 v10 x
theorem Sf_X8_by_57 {g : GC} {d : Nat} {m : MM} (hd : 6 ≤ d)  : ∀ (n : Nat) (v2 : Int32) (v3 : Int32) (v4 : Int32) (v5 : Int64) (v7 : Int64) (v9 : Int32) (v10 : Int32) (x : MX) (r : Int64) (z : MX), f_X8_by_57  n v2 v3 v4 v5 v7 v9 v10 x = some (r, z) → J g m_X8_by d 0 0 57 [(0, .ref 5), (2, .int v2), (3, .int v3), (4, .int v4), (5, .long v5), (7, .long v7), (9, .int v9), (10, .int v10)] [] (ST x m) 0 0 (EQ (some (.long r)) (ST z m)) := by
  intro n
  induction n with
  | zero => intro v2 v3 v4 v5 v7 v9 v10 x r z  hF; exact absurd hF (fun q => by cases q)
  | succ n ih =>
    intro v2 v3 v4 v5 v7 v9 v10 x r z  hF
    exact SB_X8_by_57 hd (fun v2 v3 v4 v5 v7 v9 v10 x r z  hF => ih v2 v3 v4 v5 v7 v9 v10 x r z  hF) hF
def f_X8_by (a1 : Int32) (a2 : Int32) (a3 : Int32) (x : MX) : Option (Int64 × MX) :=
  ob (f_X8_isLinkAndCuff a1 x) (fun r1 =>
  if r1 = true then
  if a2 < 0 then
  some ((-9223372036854775808), x)
  else
  if 9999 < a2 then
  some ((-9223372036854775808), x)
  else
  if (f_X8_isPart a3) = true then
  ob2 (f_X8_takesNow (a1 / 10) (a1 % 10) x) (fun r7 x8 =>
  f_X8_by_57 LF a2 a3 r7 1 1 r7 0 x8)
  else
  some ((-9223372036854775808), x)
  else
  some ((-9223372036854775808), x))
theorem S_X8_by {g : GC} {d : Nat} {a1 : Int32} {a2 : Int32} {a3 : Int32} {x : MX} {m : MM} {r : Int64} {z : MX} (hd : 6 ≤ d) 
  (hF : f_X8_by a1 a2 a3 x = some (r, z)) : JC g m_X8_by d 0 0 [.ref 5, .int a1, .int a2, .int a3] (ST x m) (EQ (some (.long r)) (ST z m)) := by
  refine JC.of (by decide +kernel) (Nat.le_of_ble_eq_true rfl) ?_
  change J g m_X8_by d 0 0 0 [(0, .ref 5), (1, .int a1), (2, .int a2), (3, .int a3)] [] (ST x m) 0 0 (EQ (some (.long r)) (ST z m))
  unfold f_X8_by at hF
  refine J_aload_n (j := 0) dX8_by_0 rfl rfl ?_
  refine J_iload_n (j := 1) dX8_by_1 rfl rfl ?_
  obtain ⟨r1, h2, hF⟩ := ob_some hF
  refine JX_callVi (As := [.int a1]) (S := []) lkV_WithOneHand_132_X8_isLinkAndCuff rfl (by decide) dX8_by_2 c_5 (S_X8_isLinkAndCuff (by omega) h2) (by omega) rfl rfl (Nat.le_of_ble_eq_true rfl) rfl ?_
  refine J_ifb_eq (tgt := 26) dX8_by_5 (by decide) (fun q3 => ?_) (fun q3 => ?_)
  · rw [if_neg q3] at hF
    refine J_ldc2 (v := (-9223372036854775808)) (tb 638 (by decide +kernel)) dX8_by_26 ?_
    obtain ⟨e_r, e_z⟩ := someP hF
    subst e_r
    subst e_z
    exact J_lreturn rfl dX8_by_29 ⟨rfl, rfl⟩
  · rw [if_pos q3] at hF
    refine J_iload_n (j := 2) dX8_by_8 rfl rfl ?_
    refine J_if_lt (tgt := 26) dX8_by_9 (by decide) (fun q4 => ?_) (fun q4 => ?_)
    · rw [if_pos q4] at hF
      refine J_ldc2 (v := (-9223372036854775808)) (tb 638 (by decide +kernel)) dX8_by_26 ?_
      obtain ⟨e_r, e_z⟩ := someP hF
      subst e_r
      subst e_z
      exact J_lreturn rfl dX8_by_29 ⟨rfl, rfl⟩
    · rw [if_neg q4] at hF
      refine J_iload_n (j := 2) dX8_by_12 rfl rfl ?_
      refine J_sipush (v := 9999) dX8_by_13 (by decide) ?_
      refine J_icmp_gt (tgt := 26) dX8_by_16 (by decide) (fun q5 => ?_) (fun q5 => ?_)
      · rw [if_pos q5] at hF
        refine J_ldc2 (v := (-9223372036854775808)) (tb 638 (by decide +kernel)) dX8_by_26 ?_
        obtain ⟨e_r, e_z⟩ := someP hF
        subst e_r
        subst e_z
        exact J_lreturn rfl dX8_by_29 ⟨rfl, rfl⟩
      · rw [if_neg q5] at hF
        refine J_iload_n (j := 3) dX8_by_19 rfl rfl ?_
        refine J_callSi (As := [.int a3]) (S := []) lkS_WithOneHand_179_X8_isPart dX8_by_20 (S_X8_isPart (by omega) rfl) (by omega) rfl rfl (Nat.le_of_ble_eq_true rfl) rfl ?_
        refine J_ifb_ne (tgt := 30) dX8_by_23 (by decide) (fun q6 => ?_) (fun q6 => ?_)
        · rw [if_pos q6] at hF
          refine J_aload_n (j := 0) dX8_by_30 rfl rfl ?_
          refine J_iload_n (j := 1) dX8_by_31 rfl rfl ?_
          refine J_bipush (v := 10) dX8_by_32 (by decide) ?_
          refine J_idiv dX8_by_34 (by decide) ?_
          refine J_iload_n (j := 1) dX8_by_35 rfl rfl ?_
          refine J_bipush (v := 10) dX8_by_36 (by decide) ?_
          refine J_irem dX8_by_38 (by decide) ?_
          obtain ⟨r7, x8, h9, hF⟩ := ob2_some hF
          refine JX_callVi (As := [.int (a1 / 10), .int (a1 % 10)]) (S := []) lkV_WithOneHand_135_X8_takesNow rfl (by decide) dX8_by_39 c_5 (S_X8_takesNow (by omega) h9) (by omega) rfl rfl (Nat.le_of_ble_eq_true rfl) rfl ?_
          refine J_istore (L' := [(4, .int r7), (0, .ref 5), (1, .int a1), (2, .int a2), (3, .int a3)]) dX8_by_42 (by decide) rfl ?_
          refine J_lconst (v := 1) dX8_by_44 (by decide) ?_
          refine J_lstore (L' := [(5, .long 1), (4, .int r7), (0, .ref 5), (1, .int a1), (2, .int a2), (3, .int a3)]) dX8_by_45 (by decide) rfl ?_
          refine J_lconst (v := 1) dX8_by_47 (by decide) ?_
          refine J_lstore (L' := [(7, .long 1), (5, .long 1), (4, .int r7), (0, .ref 5), (1, .int a1), (2, .int a2), (3, .int a3)]) dX8_by_48 (by decide) rfl ?_
          refine J_iload (j := 2) dX8_by_50 rfl ?_
          refine J_istore (L' := [(9, .int r7), (7, .long 1), (5, .long 1), (4, .int r7), (0, .ref 5), (1, .int a1), (2, .int a2), (3, .int a3)]) dX8_by_52 (by decide) rfl ?_
          refine J_iconst (v := 0) dX8_by_54 (by decide) ?_
          refine J_istore (L' := [(10, .int 0), (9, .int r7), (7, .long 1), (5, .long 1), (4, .int r7), (0, .ref 5), (1, .int a1), (2, .int a2), (3, .int a3)]) dX8_by_55 (by decide) rfl ?_
          refine J_sub [5, 7, 8, 4, 3, 2, 1, 0] rfl ?_
          exact Sf_X8_by_57 hd _ _ _ _ _ _ _ _ _ _ _ hF
        · rw [if_neg q6] at hF
          refine J_ldc2 (v := (-9223372036854775808)) (tb 638 (by decide +kernel)) dX8_by_26 ?_
          obtain ⟨e_r, e_z⟩ := someP hF
          subst e_r
          subst e_z
          exact J_lreturn rfl dX8_by_29 ⟨rfl, rfl⟩
