def B_X9_by_107 (v3 : Int32) (v5 : Int64) (v7 : Int64) (m : MM) : Option (Int64 × MM) :=
  ob (f_X9_lowest (v5 - v7) v5 v3) (fun r10 =>
  some (r10, m))
theorem SB_X9_by_107 {g : GC} {d : Nat} {v3 : Int32} {v5 : Int64} {v7 : Int64} {x : MX} {m : MM} {r : Int64} {z : MM} (hd : 108 ≤ d) 
  (hF : B_X9_by_107 v3 v5 v7 m = some (r, z)) : J g m_X9_by d 0 0 107 [(0, .ref 80), (3, .int v3), (5, .long v5), (7, .long v7)] [] (ST x m) 0 0 (EQ (some (.long r)) (ST x z)) := by
  unfold B_X9_by_107 at hF
  refine J_aload_n (j := 0) dX9_by_107 rfl rfl ?_
  refine J_lload (j := 2) dX9_by_108 rfl ?_
  refine J_lload (j := 3) dX9_by_110 rfl ?_
  refine J_lsub dX9_by_112 ?_
  refine J_lload (j := 2) dX9_by_113 rfl ?_
  refine J_iload_n (j := 1) dX9_by_115 rfl rfl ?_
  obtain ⟨r10, h11, hF⟩ := ob_some hF
  refine JM_callVl (As := [.long (v5 - v7), .long v5, .int v3]) (S := []) lkV_WithOneHandModel_303_X9_lowest rfl (by decide) dX9_by_116 c_80 (S_X9_lowest (by omega) h11) (by omega) rfl rfl (Nat.le_of_ble_eq_true rfl) rfl ?_
  obtain ⟨e_r, e_z⟩ := someP hF
  subst e_r
  subst e_z
  exact J_lreturn rfl dX9_by_119 ⟨rfl, rfl⟩
def B_X9_by_57 (K57 : Int32 → Int32 → Int32 → Int64 → Int64 → Int32 → MM → Option (Int64 × MM)) (v2 : Int32) (v3 : Int32) (v4 : Int32) (v5 : Int64) (v7 : Int64) (v9 : Int32) (m : MM) : Option (Int64 × MM) :=
  if 6 < v9 then
  B_X9_by_107 v3 v5 v7 m
  else
  if v2 < ((v9 * v4) + ((v9 - 1) * (mi m 80 4))) then
  B_X9_by_107 v3 v5 v7 m
  else
  letx (v7 * (Int32.toInt64 (mi m 80 3))) (fun y13 =>
  K57 v2 v3 v4 (v5 * 12) y13 (v9 + 1) m)
theorem SB_X9_by_57 {g : GC} {d : Nat} {K57 : Int32 → Int32 → Int32 → Int64 → Int64 → Int32 → MM → Option (Int64 × MM)} {v2 : Int32} {v3 : Int32} {v4 : Int32} {v5 : Int64} {v7 : Int64} {v9 : Int32} {x : MX} {m : MM} {r : Int64} {z : MM} (hd : 108 ≤ d) (hK57 : ∀ (v2 : Int32) (v3 : Int32) (v4 : Int32) (v5 : Int64) (v7 : Int64) (v9 : Int32) (m : MM) (r : Int64) (z : MM), K57 v2 v3 v4 v5 v7 v9 m = some (r, z) → J g m_X9_by d 0 0 57 [(0, .ref 80), (2, .int v2), (3, .int v3), (4, .int v4), (5, .long v5), (7, .long v7), (9, .int v9)] [] (ST x m) 0 0 (EQ (some (.long r)) (ST x z)))
  (hF : B_X9_by_57 K57 v2 v3 v4 v5 v7 v9 m = some (r, z)) : J g m_X9_by d 0 0 57 [(0, .ref 80), (2, .int v2), (3, .int v3), (4, .int v4), (5, .long v5), (7, .long v7), (9, .int v9)] [] (ST x m) 0 0 (EQ (some (.long r)) (ST x z)) := by
  unfold B_X9_by_57 at hF
  refine J_iload (j := 6) dX9_by_57 rfl ?_
  refine J_bipush (v := 6) dX9_by_59 (by decide) ?_
  refine J_icmp_gt (tgt := 107) dX9_by_61 (by decide) (fun q9 => ?_) (fun q9 => ?_)
  · rw [if_pos q9] at hF
    refine J_sub [0, 2, 4, 5] rfl ?_
    exact SB_X9_by_107 hd hF
  · rw [if_neg q9] at hF
    refine J_iload (j := 6) dX9_by_64 rfl ?_
    refine J_iload (j := 3) dX9_by_66 rfl ?_
    refine J_imul dX9_by_68 ?_
    refine J_iload (j := 6) dX9_by_69 rfl ?_
    refine J_iconst (v := 1) dX9_by_71 (by decide) ?_
    refine J_isub dX9_by_72 ?_
    refine J_aload_n (j := 0) dX9_by_73 rfl rfl ?_
    refine JM_getI fl_WithOneHandModel_7_8 dX9_by_74 c_80 rfl ?_
    refine J_imul dX9_by_77 ?_
    refine J_iadd dX9_by_78 ?_
    refine J_iload_n (j := 1) dX9_by_79 rfl rfl ?_
    refine J_icmp_gt (tgt := 107) dX9_by_80 (by decide) (fun q12 => ?_) (fun q12 => ?_)
    · rw [if_pos q12] at hF
      refine J_sub [0, 2, 4, 5] rfl ?_
      exact SB_X9_by_107 hd hF
    · rw [if_neg q12] at hF
      refine J_lload (j := 4) dX9_by_83 rfl ?_
      refine J_ldc2 (v := 12) (tb 1290 (by decide +kernel)) dX9_by_85 ?_
      refine J_lmul dX9_by_88 ?_
      refine J_lstore (L' := [(5, .long (v5 * 12)), (0, .ref 80), (2, .int v2), (3, .int v3), (4, .int v4), (7, .long v7), (9, .int v9)]) dX9_by_89 (by decide) rfl ?_
      refine J_lload (j := 5) dX9_by_91 rfl ?_
      refine J_aload_n (j := 1) dX9_by_93 rfl rfl ?_
      refine JM_getI fl_WithOneHandModel_139_8 dX9_by_94 c_80 rfl ?_
      refine J_i2l dX9_by_97 ?_
      refine J_lmul dX9_by_98 ?_
      obtain ⟨y13, e_y13, hF⟩ := letx_eq hF
      rw [← e_y13]
      refine J_lstore (L' := [(7, .long y13), (5, .long (v5 * 12)), (0, .ref 80), (2, .int v2), (3, .int v3), (4, .int v4), (9, .int v9)]) dX9_by_99 (by decide) rfl ?_
      refine J_iinc (j := 6) (v := v9 + 1) (L' := [(9, .int (v9 + 1)), (7, .long y13), (5, .long (v5 * 12)), (0, .ref 80), (2, .int v2), (3, .int v3), (4, .int v4)]) dX9_by_101 rfl rfl (by decide) rfl ?_
      refine J_goto (tgt := 57) dX9_by_104 (by decide) ?_
      refine J_sub [3, 4, 5, 6, 2, 1, 0] rfl ?_
      exact hK57 _ _ _ _ _ _ _ _ _  hF
def f_X9_by_57  : Nat → Int32 → Int32 → Int32 → Int64 → Int64 → Int32 → MM → Option (Int64 × MM)
  | 0 => fun _ _ _ _ _ _ _ => none
  | n + 1 => fun v2 v3 v4 v5 v7 v9 m => B_X9_by_57 (f_X9_by_57  n) v2 v3 v4 v5 v7 v9 m
theorem Sf_X9_by_57 {g : GC} {d : Nat} {x : MX} (hd : 108 ≤ d)  : ∀ (n : Nat) (v2 : Int32) (v3 : Int32) (v4 : Int32) (v5 : Int64) (v7 : Int64) (v9 : Int32) (m : MM) (r : Int64) (z : MM), f_X9_by_57  n v2 v3 v4 v5 v7 v9 m = some (r, z) → J g m_X9_by d 0 0 57 [(0, .ref 80), (2, .int v2), (3, .int v3), (4, .int v4), (5, .long v5), (7, .long v7), (9, .int v9)] [] (ST x m) 0 0 (EQ (some (.long r)) (ST x z)) := by
  intro n
  induction n with
  | zero => intro v2 v3 v4 v5 v7 v9 m r z  hF; exact absurd hF (fun q => by cases q)
  | succ n ih =>
    intro v2 v3 v4 v5 v7 v9 m r z  hF
    exact SB_X9_by_57 hd (fun v2 v3 v4 v5 v7 v9 m r z  hF => ih v2 v3 v4 v5 v7 v9 m r z  hF) hF
def f_X9_by (a1 : Int32) (a2 : Int32) (a3 : Int32) (m : MM) : Option (Int64 × MM) :=
  ob (f_X9_isPair a1 m) (fun r1 =>
  if r1 = true then
  if (f_X9_isIn a2 0 9999) = true then
  if (f_X9_isIn a3 0 1) = true then
  ob2 (f_X9_takesNow (a1 / 10) (a1 % 10) m) (fun r6 m7 =>
  f_X9_by_57 LF a2 a3 r6 1 1 1 m7)
  else
  some ((-9223372036854775808), m)
  else
  some ((-9223372036854775808), m)
  else
  some ((-9223372036854775808), m))
theorem S_X9_by {g : GC} {d : Nat} {a1 : Int32} {a2 : Int32} {a3 : Int32} {x : MX} {m : MM} {r : Int64} {z : MM} (hd : 108 ≤ d) 
  (hF : f_X9_by a1 a2 a3 m = some (r, z)) : JC g m_X9_by d 0 0 [.ref 80, .int a1, .int a2, .int a3] (ST x m) (EQ (some (.long r)) (ST x z)) := by
  refine JC.of (by decide +kernel) (Nat.le_of_ble_eq_true rfl) ?_
  change J g m_X9_by d 0 0 0 [(0, .ref 80), (1, .int a1), (2, .int a2), (3, .int a3)] [] (ST x m) 0 0 (EQ (some (.long r)) (ST x z))
  unfold f_X9_by at hF
  refine J_aload_n (j := 0) dX9_by_0 rfl rfl ?_
  refine J_iload_n (j := 1) dX9_by_1 rfl rfl ?_
  obtain ⟨r1, h2, hF⟩ := ob_some hF
  refine JM_callVi (As := [.int a1]) (S := []) lkV_WithOneHandModel_261_X9_isPair rfl (by decide) dX9_by_2 c_80 (S_X9_isPair (by omega) h2) (by omega) rfl rfl (Nat.le_of_ble_eq_true rfl) rfl ?_
  refine J_ifb_eq (tgt := 30) dX9_by_5 (by decide) (fun q3 => ?_) (fun q3 => ?_)
  · rw [if_neg q3] at hF
    refine J_ldc2 (v := (-9223372036854775808)) (tb 1289 (by decide +kernel)) dX9_by_30 ?_
    obtain ⟨e_r, e_z⟩ := someP hF
    subst e_r
    subst e_z
    exact J_lreturn rfl dX9_by_33 ⟨rfl, rfl⟩
  · rw [if_pos q3] at hF
    refine J_aload_n (j := 0) dX9_by_8 rfl rfl ?_
    refine J_iload_n (j := 2) dX9_by_9 rfl rfl ?_
    refine J_iconst (v := 0) dX9_by_10 (by decide) ?_
    refine J_sipush (v := 9999) dX9_by_11 (by decide) ?_
    refine JM_callVi (As := [.int a2, .int 0, .int 9999]) (S := []) lkV_WithOneHandModel_114_X9_isIn rfl (by decide) dX9_by_14 c_80 (S_X9_isIn (by omega) rfl) (by omega) rfl rfl (Nat.le_of_ble_eq_true rfl) rfl ?_
    refine J_ifb_eq (tgt := 30) dX9_by_17 (by decide) (fun q4 => ?_) (fun q4 => ?_)
    · rw [if_neg q4] at hF
      refine J_ldc2 (v := (-9223372036854775808)) (tb 1289 (by decide +kernel)) dX9_by_30 ?_
      obtain ⟨e_r, e_z⟩ := someP hF
      subst e_r
      subst e_z
      exact J_lreturn rfl dX9_by_33 ⟨rfl, rfl⟩
    · rw [if_pos q4] at hF
      refine J_aload_n (j := 0) dX9_by_20 rfl rfl ?_
      refine J_iload_n (j := 3) dX9_by_21 rfl rfl ?_
      refine J_iconst (v := 0) dX9_by_22 (by decide) ?_
      refine J_iconst (v := 1) dX9_by_23 (by decide) ?_
      refine JM_callVi (As := [.int a3, .int 0, .int 1]) (S := []) lkV_WithOneHandModel_114_X9_isIn rfl (by decide) dX9_by_24 c_80 (S_X9_isIn (by omega) rfl) (by omega) rfl rfl (Nat.le_of_ble_eq_true rfl) rfl ?_
      refine J_ifb_ne (tgt := 34) dX9_by_27 (by decide) (fun q5 => ?_) (fun q5 => ?_)
      · rw [if_pos q5] at hF
        refine J_aload_n (j := 0) dX9_by_34 rfl rfl ?_
        refine J_iload_n (j := 1) dX9_by_35 rfl rfl ?_
        refine J_bipush (v := 10) dX9_by_36 (by decide) ?_
        refine J_idiv dX9_by_38 (by decide) ?_
        refine J_iload_n (j := 1) dX9_by_39 rfl rfl ?_
        refine J_bipush (v := 10) dX9_by_40 (by decide) ?_
        refine J_irem dX9_by_42 (by decide) ?_
        obtain ⟨r6, m7, h8, hF⟩ := ob2_some hF
        refine JM_callVi (As := [.int (a1 / 10), .int (a1 % 10)]) (S := []) lkV_WithOneHandModel_264_X9_takesNow rfl (by decide) dX9_by_43 c_80 (S_X9_takesNow (by omega) h8) (by omega) rfl rfl (Nat.le_of_ble_eq_true rfl) rfl ?_
        refine J_istore (L' := [(4, .int r6), (0, .ref 80), (1, .int a1), (2, .int a2), (3, .int a3)]) dX9_by_46 (by decide) rfl ?_
        refine J_lconst (v := 1) dX9_by_48 (by decide) ?_
        refine J_lstore (L' := [(5, .long 1), (4, .int r6), (0, .ref 80), (1, .int a1), (2, .int a2), (3, .int a3)]) dX9_by_49 (by decide) rfl ?_
        refine J_lconst (v := 1) dX9_by_51 (by decide) ?_
        refine J_lstore (L' := [(7, .long 1), (5, .long 1), (4, .int r6), (0, .ref 80), (1, .int a1), (2, .int a2), (3, .int a3)]) dX9_by_52 (by decide) rfl ?_
        refine J_iconst (v := 1) dX9_by_54 (by decide) ?_
        refine J_istore (L' := [(9, .int 1), (7, .long 1), (5, .long 1), (4, .int r6), (0, .ref 80), (1, .int a1), (2, .int a2), (3, .int a3)]) dX9_by_55 (by decide) rfl ?_
        refine J_sub [4, 6, 7, 3, 2, 1, 0] rfl ?_
        exact Sf_X9_by_57 hd _ _ _ _ _ _ _ _ _ _ hF
      · rw [if_neg q5] at hF
        refine J_ldc2 (v := (-9223372036854775808)) (tb 1289 (by decide +kernel)) dX9_by_30 ?_
        obtain ⟨e_r, e_z⟩ := someP hF
        subst e_r
        subst e_z
        exact J_lreturn rfl dX9_by_33 ⟨rfl, rfl⟩
def f_X8_takesBySkill (a1 : Int32) (a2 : Int32) (a3 : Int32) (a4 : Int32) (x : MX) : Option (Int32 × MX) :=
  if inb a2 8 = true then
  ob2 (f_X8_takesWith a1 a2 (xi x 9 (ix a2)) a3 a4 x) (fun r2 x3 =>
  some (r2, x3))
  else none
theorem S_X8_takesBySkill {g : GC} {d : Nat} {a1 : Int32} {a2 : Int32} {a3 : Int32} {a4 : Int32} {x : MX} {m : MM} {r : Int32} {z : MX} (hd : 4 ≤ d) 
  (hF : f_X8_takesBySkill a1 a2 a3 a4 x = some (r, z)) : JC g m_X8_takesBySkill d 0 0 [.ref 5, .int a1, .int a2, .int a3, .int a4] (ST x m) (EQ (some (.int r)) (ST z m)) := by
  refine JC.of (by decide +kernel) (Nat.le_of_ble_eq_true rfl) ?_
  change J g m_X8_takesBySkill d 0 0 0 [(0, .ref 5), (1, .int a1), (2, .int a2), (3, .int a3), (4, .int a4)] [] (ST x m) 0 0 (EQ (some (.int r)) (ST z m))
  unfold f_X8_takesBySkill at hF
  refine J_aload_n (j := 0) dX8_takesBySkill_0 rfl rfl ?_
  refine J_iload_n (j := 1) dX8_takesBySkill_1 rfl rfl ?_
  refine J_iload_n (j := 2) dX8_takesBySkill_2 rfl rfl ?_
  refine J_aload_n (j := 0) dX8_takesBySkill_3 rfl rfl ?_
  refine JX_getR (r := 6) fl_WithOneHand_11_7 dX8_takesBySkill_4 c_5 rfl rfl ?_
  refine J_iconst (v := 2) dX8_takesBySkill_7 (by decide) ?_
  refine JX_aald (j := 2) (r := 9) (by decide) dX8_takesBySkill_8 c_6 (by unfold vp_in; decide) (by decide) rfl ?_
  refine J_iload_n (j := 2) dX8_takesBySkill_9 rfl rfl ?_
  obtain ⟨b1, hF⟩ := chk hF
  refine JX_iald (j := ix a2) dX8_takesBySkill_10 c_9 (inb_vp b1) rfl ?_
  refine J_iload_n (j := 3) dX8_takesBySkill_11 rfl rfl ?_
  refine J_iload (j := 4) dX8_takesBySkill_12 rfl ?_
  obtain ⟨r2, x3, h4, hF⟩ := ob2_some hF
  refine JX_callVi (As := [.int a1, .int a2, .int (xi x 9 (ix a2)), .int a3, .int a4]) (S := []) lkV_WithOneHand_359_X8_takesWith rfl (by decide) dX8_takesBySkill_14 c_5 (S_X8_takesWith (by omega) h4) (by omega) rfl rfl (Nat.le_of_ble_eq_true rfl) rfl ?_
  obtain ⟨e_r, e_z⟩ := someP hF
  subst e_r
  subst e_z
  exact J_ireturn rfl rfl dX8_takesBySkill_17 ⟨rfl, rfl⟩
def B_X8_leastSkill_26 (K26 : Int32 → Int32 → Int32 → Int32 → Int32 → MX → Option (Int32 × MX)) (v1 : Int32) (v2 : Int32) (v3 : Int32) (v4 : Int32) (v5 : Int32) (x : MX) : Option (Int32 × MX) :=
  if ((SA 1).getD 6 0) < v5 then
  some ((-2), x)
  else
  ob2 (f_X8_takesBySkill v1 v2 v5 v4 x) (fun r5 x6 =>
  if v3 < r5 then
  K26 v1 v2 v3 v4 (v5 + 1) x6
  else
  some (v5, x6))
theorem SB_X8_leastSkill_26 {g : GC} {d : Nat} {K26 : Int32 → Int32 → Int32 → Int32 → Int32 → MX → Option (Int32 × MX)} {v1 : Int32} {v2 : Int32} {v3 : Int32} {v4 : Int32} {v5 : Int32} {x : MX} {m : MM} {r : Int32} {z : MX} (hd : 5 ≤ d) (hK26 : ∀ (v1 : Int32) (v2 : Int32) (v3 : Int32) (v4 : Int32) (v5 : Int32) (x : MX) (r : Int32) (z : MX), K26 v1 v2 v3 v4 v5 x = some (r, z) → J g m_X8_leastSkill d 0 0 26 [(0, .ref 5), (1, .int v1), (2, .int v2), (3, .int v3), (4, .int v4), (5, .int v5)] [] (ST x m) 0 0 (EQ (some (.int r)) (ST z m)))
  (hF : B_X8_leastSkill_26 K26 v1 v2 v3 v4 v5 x = some (r, z)) : J g m_X8_leastSkill d 0 0 26 [(0, .ref 5), (1, .int v1), (2, .int v2), (3, .int v3), (4, .int v4), (5, .int v5)] [] (ST x m) 0 0 (EQ (some (.int r)) (ST z m)) := by
  unfold B_X8_leastSkill_26 at hF
  refine J_iload (j := 5) dX8_leastSkill_26 rfl ?_
  refine J_gets (j := 1) (by decide) (tb 365 (by decide +kernel)) dX8_leastSkill_28 ?_
  refine J_bipush (v := 6) dX8_leastSkill_31 (by decide) ?_
  refine J_ialdS (v := (SA 1).getD 6 0) (by decide) dX8_leastSkill_33 (by unfold vp_in; decide) rfl ?_
  refine J_icmp_gt (tgt := 60) dX8_leastSkill_34 (by decide) (fun q4 => ?_) (fun q4 => ?_)
  · rw [if_pos q4] at hF
    refine J_bipush (v := (-2)) dX8_leastSkill_60 (by decide) ?_
    obtain ⟨e_r, e_z⟩ := someP hF
    subst e_r
    subst e_z
    exact J_ireturn rfl rfl dX8_leastSkill_62 ⟨rfl, rfl⟩
  · rw [if_neg q4] at hF
    refine J_aload_n (j := 0) dX8_leastSkill_37 rfl rfl ?_
    refine J_iload_n (j := 1) dX8_leastSkill_38 rfl rfl ?_
    refine J_iload_n (j := 2) dX8_leastSkill_39 rfl rfl ?_
    refine J_iload (j := 5) dX8_leastSkill_40 rfl ?_
    refine J_iload (j := 4) dX8_leastSkill_42 rfl ?_
    obtain ⟨r5, x6, h7, hF⟩ := ob2_some hF
    refine JX_callVi (As := [.int v1, .int v2, .int v5, .int v4]) (S := []) lkV_WithOneHand_210_X8_takesBySkill rfl (by decide) dX8_leastSkill_44 c_5 (S_X8_takesBySkill (by omega) h7) (by omega) rfl rfl (Nat.le_of_ble_eq_true rfl) rfl ?_
    refine J_iload_n (j := 3) dX8_leastSkill_47 rfl rfl ?_
    refine J_icmp_gt (tgt := 54) dX8_leastSkill_48 (by decide) (fun q8 => ?_) (fun q8 => ?_)
    · rw [if_pos q8] at hF
      refine J_iinc (j := 5) (v := v5 + 1) (L' := [(5, .int (v5 + 1)), (0, .ref 5), (1, .int v1), (2, .int v2), (3, .int v3), (4, .int v4)]) dX8_leastSkill_54 rfl rfl (by decide) rfl ?_
      refine J_goto (tgt := 26) dX8_leastSkill_57 (by decide) ?_
      refine J_sub [1, 2, 3, 4, 5, 0] rfl ?_
      exact hK26 _ _ _ _ _ _ _ _  hF
    · rw [if_neg q8] at hF
      refine J_iload (j := 5) dX8_leastSkill_51 rfl ?_
      obtain ⟨e_r, e_z⟩ := someP hF
      subst e_r
      subst e_z
      exact J_ireturn rfl rfl dX8_leastSkill_53 ⟨rfl, rfl⟩
def f_X8_leastSkill_26  : Nat → Int32 → Int32 → Int32 → Int32 → Int32 → MX → Option (Int32 × MX)
  | 0 => fun _ _ _ _ _ _ => none
  | n + 1 => fun v1 v2 v3 v4 v5 x => B_X8_leastSkill_26 (f_X8_leastSkill_26  n) v1 v2 v3 v4 v5 x
theorem Sf_X8_leastSkill_26 {g : GC} {d : Nat} {m : MM} (hd : 5 ≤ d)  : ∀ (n : Nat) (v1 : Int32) (v2 : Int32) (v3 : Int32) (v4 : Int32) (v5 : Int32) (x : MX) (r : Int32) (z : MX), f_X8_leastSkill_26  n v1 v2 v3 v4 v5 x = some (r, z) → J g m_X8_leastSkill d 0 0 26 [(0, .ref 5), (1, .int v1), (2, .int v2), (3, .int v3), (4, .int v4), (5, .int v5)] [] (ST x m) 0 0 (EQ (some (.int r)) (ST z m)) := by
  intro n
  induction n with
  | zero => intro v1 v2 v3 v4 v5 x r z  hF; exact absurd hF (fun q => by cases q)
  | succ n ih =>
    intro v1 v2 v3 v4 v5 x r z  hF
    exact SB_X8_leastSkill_26 hd (fun v1 v2 v3 v4 v5 x r z  hF => ih v1 v2 v3 v4 v5 x r z  hF) hF
def f_X8_leastSkill (a1 : Int32) (a2 : Int32) (a3 : Int32) (x : MX) : Option (Int32 × MX) :=
  if inb a2 8 = true then
  if inb (xi x 11 (ix a2)) 8 = true then
  letx (xi x 15 (ix (xi x 11 (ix a2)))) (fun y3 =>
  f_X8_leastSkill_26 LF a1 a2 a3 y3 ((SA 0).getD 6 0) x)
  else none
  else none
theorem S_X8_leastSkill {g : GC} {d : Nat} {a1 : Int32} {a2 : Int32} {a3 : Int32} {x : MX} {m : MM} {r : Int32} {z : MX} (hd : 5 ≤ d) 
  (hF : f_X8_leastSkill a1 a2 a3 x = some (r, z)) : JC g m_X8_leastSkill d 0 0 [.ref 5, .int a1, .int a2, .int a3] (ST x m) (EQ (some (.int r)) (ST z m)) := by
  refine JC.of (by decide +kernel) (Nat.le_of_ble_eq_true rfl) ?_
  change J g m_X8_leastSkill d 0 0 0 [(0, .ref 5), (1, .int a1), (2, .int a2), (3, .int a3)] [] (ST x m) 0 0 (EQ (some (.int r)) (ST z m))
  unfold f_X8_leastSkill at hF
  refine J_aload_n (j := 0) dX8_leastSkill_0 rfl rfl ?_
  refine JX_getR (r := 6) fl_WithOneHand_11_7 dX8_leastSkill_1 c_5 rfl rfl ?_
  refine J_bipush (v := 8) dX8_leastSkill_4 (by decide) ?_
  refine JX_aald (j := 8) (r := 15) (by decide) dX8_leastSkill_6 c_6 (by unfold vp_in; decide) (by decide) rfl ?_
  refine J_aload_n (j := 0) dX8_leastSkill_7 rfl rfl ?_
  refine JX_getR (r := 6) fl_WithOneHand_11_7 dX8_leastSkill_8 c_5 rfl rfl ?_
  refine J_iconst (v := 4) dX8_leastSkill_11 (by decide) ?_
  refine JX_aald (j := 4) (r := 11) (by decide) dX8_leastSkill_12 c_6 (by unfold vp_in; decide) (by decide) rfl ?_
  refine J_iload_n (j := 2) dX8_leastSkill_13 rfl rfl ?_
  obtain ⟨b1, hF⟩ := chk hF
  refine JX_iald (j := ix a2) dX8_leastSkill_14 c_11 (inb_vp b1) rfl ?_
  obtain ⟨b2, hF⟩ := chk hF
  refine JX_iald (j := ix (xi x 11 (ix a2))) dX8_leastSkill_15 c_15 (inb_vp b2) rfl ?_
  obtain ⟨y3, e_y3, hF⟩ := letx_eq hF
  rw [← e_y3]
  refine J_istore (L' := [(4, .int y3), (0, .ref 5), (1, .int a1), (2, .int a2), (3, .int a3)]) dX8_leastSkill_16 (by decide) rfl ?_
  refine J_gets (j := 0) (by decide) (tb 363 (by decide +kernel)) dX8_leastSkill_18 ?_
  refine J_bipush (v := 6) dX8_leastSkill_21 (by decide) ?_
  refine J_ialdS (v := (SA 0).getD 6 0) (by decide) dX8_leastSkill_23 (by unfold vp_in; decide) rfl ?_
  refine J_istore (L' := [(5, .int ((SA 0).getD 6 0)), (4, .int y3), (0, .ref 5), (1, .int a1), (2, .int a2), (3, .int a3)]) dX8_leastSkill_24 (by decide) rfl ?_
  refine J_sub [2, 3, 4, 5, 1, 0] rfl ?_
  exact Sf_X8_leastSkill_26 hd _ _ _ _ _ _ _ _ _ hF
def B_X8_timesMore_3 (K3 : Int32 → Int32 → Int32 → Int32 → MX → Option (Int32 × MX)) (v1 : Int32) (v2 : Int32) (v3 : Int32) (v4 : Int32) (x : MX) : Option (Int32 × MX) :=
  if 99 < v4 then
  some ((-2), x)
  else
  if inb v2 8 = true then
  ob2 (f_X8_takesByHand v1 v2 (xi x 11 (ix v2)) v4 x) (fun r3 x4 =>
  if v3 < r3 then
  K3 v1 v2 v3 (v4 + 1) x4
  else
  some (v4, x4))
  else none
theorem SB_X8_timesMore_3 {g : GC} {d : Nat} {K3 : Int32 → Int32 → Int32 → Int32 → MX → Option (Int32 × MX)} {v1 : Int32} {v2 : Int32} {v3 : Int32} {v4 : Int32} {x : MX} {m : MM} {r : Int32} {z : MX} (hd : 5 ≤ d) (hK3 : ∀ (v1 : Int32) (v2 : Int32) (v3 : Int32) (v4 : Int32) (x : MX) (r : Int32) (z : MX), K3 v1 v2 v3 v4 x = some (r, z) → J g m_X8_timesMore d 0 0 3 [(0, .ref 5), (1, .int v1), (2, .int v2), (3, .int v3), (4, .int v4)] [] (ST x m) 0 0 (EQ (some (.int r)) (ST z m)))
  (hF : B_X8_timesMore_3 K3 v1 v2 v3 v4 x = some (r, z)) : J g m_X8_timesMore d 0 0 3 [(0, .ref 5), (1, .int v1), (2, .int v2), (3, .int v3), (4, .int v4)] [] (ST x m) 0 0 (EQ (some (.int r)) (ST z m)) := by
  unfold B_X8_timesMore_3 at hF
  refine J_iload (j := 4) dX8_timesMore_3 rfl ?_
  refine J_bipush (v := 99) dX8_timesMore_5 (by decide) ?_
  refine J_icmp_gt (tgt := 39) dX8_timesMore_7 (by decide) (fun q1 => ?_) (fun q1 => ?_)
  · rw [if_pos q1] at hF
    refine J_bipush (v := (-2)) dX8_timesMore_39 (by decide) ?_
    obtain ⟨e_r, e_z⟩ := someP hF
    subst e_r
    subst e_z
    exact J_ireturn rfl rfl dX8_timesMore_41 ⟨rfl, rfl⟩
  · rw [if_neg q1] at hF
    refine J_aload_n (j := 0) dX8_timesMore_10 rfl rfl ?_
    refine J_iload_n (j := 1) dX8_timesMore_11 rfl rfl ?_
    refine J_iload_n (j := 2) dX8_timesMore_12 rfl rfl ?_
    refine J_aload_n (j := 0) dX8_timesMore_13 rfl rfl ?_
    refine JX_getR (r := 6) fl_WithOneHand_11_7 dX8_timesMore_14 c_5 rfl rfl ?_
    refine J_iconst (v := 4) dX8_timesMore_17 (by decide) ?_
    refine JX_aald (j := 4) (r := 11) (by decide) dX8_timesMore_18 c_6 (by unfold vp_in; decide) (by decide) rfl ?_
    refine J_iload_n (j := 2) dX8_timesMore_19 rfl rfl ?_
    obtain ⟨b2, hF⟩ := chk hF
    refine JX_iald (j := ix v2) dX8_timesMore_20 c_11 (inb_vp b2) rfl ?_
    refine J_iload (j := 4) dX8_timesMore_21 rfl ?_
    obtain ⟨r3, x4, h5, hF⟩ := ob2_some hF
    refine JX_callVi (As := [.int v1, .int v2, .int (xi x 11 (ix v2)), .int v4]) (S := []) lkV_WithOneHand_169_X8_takesByHand rfl (by decide) dX8_timesMore_23 c_5 (S_X8_takesByHand (by omega) h5) (by omega) rfl rfl (Nat.le_of_ble_eq_true rfl) rfl ?_
    refine J_iload_n (j := 3) dX8_timesMore_26 rfl rfl ?_
    refine J_icmp_gt (tgt := 33) dX8_timesMore_27 (by decide) (fun q6 => ?_) (fun q6 => ?_)
    · rw [if_pos q6] at hF
      refine J_iinc (j := 4) (v := v4 + 1) (L' := [(4, .int (v4 + 1)), (0, .ref 5), (1, .int v1), (2, .int v2), (3, .int v3)]) dX8_timesMore_33 rfl rfl (by decide) rfl ?_
      refine J_goto (tgt := 3) dX8_timesMore_36 (by decide) ?_
      refine J_sub [1, 2, 3, 4, 0] rfl ?_
      exact hK3 _ _ _ _ _ _ _  hF
    · rw [if_neg q6] at hF
      refine J_iload (j := 4) dX8_timesMore_30 rfl ?_
      obtain ⟨e_r, e_z⟩ := someP hF
      subst e_r
      subst e_z
      exact J_ireturn rfl rfl dX8_timesMore_32 ⟨rfl, rfl⟩
def f_X8_timesMore_3  : Nat → Int32 → Int32 → Int32 → Int32 → MX → Option (Int32 × MX)
  | 0 => fun _ _ _ _ _ => none
  | n + 1 => fun v1 v2 v3 v4 x => B_X8_timesMore_3 (f_X8_timesMore_3  n) v1 v2 v3 v4 x
theorem Sf_X8_timesMore_3 {g : GC} {d : Nat} {m : MM} (hd : 5 ≤ d)  : ∀ (n : Nat) (v1 : Int32) (v2 : Int32) (v3 : Int32) (v4 : Int32) (x : MX) (r : Int32) (z : MX), f_X8_timesMore_3  n v1 v2 v3 v4 x = some (r, z) → J g m_X8_timesMore d 0 0 3 [(0, .ref 5), (1, .int v1), (2, .int v2), (3, .int v3), (4, .int v4)] [] (ST x m) 0 0 (EQ (some (.int r)) (ST z m)) := by
  intro n
  induction n with
  | zero => intro v1 v2 v3 v4 x r z  hF; exact absurd hF (fun q => by cases q)
  | succ n ih =>
    intro v1 v2 v3 v4 x r z  hF
    exact SB_X8_timesMore_3 hd (fun v1 v2 v3 v4 x r z  hF => ih v1 v2 v3 v4 x r z  hF) hF
def f_X8_timesMore (a1 : Int32) (a2 : Int32) (a3 : Int32) (x : MX) : Option (Int32 × MX) :=
  f_X8_timesMore_3 LF a1 a2 a3 0 x
theorem S_X8_timesMore {g : GC} {d : Nat} {a1 : Int32} {a2 : Int32} {a3 : Int32} {x : MX} {m : MM} {r : Int32} {z : MX} (hd : 5 ≤ d) 
  (hF : f_X8_timesMore a1 a2 a3 x = some (r, z)) : JC g m_X8_timesMore d 0 0 [.ref 5, .int a1, .int a2, .int a3] (ST x m) (EQ (some (.int r)) (ST z m)) := by
  refine JC.of (by decide +kernel) (Nat.le_of_ble_eq_true rfl) ?_
  change J g m_X8_timesMore d 0 0 0 [(0, .ref 5), (1, .int a1), (2, .int a2), (3, .int a3)] [] (ST x m) 0 0 (EQ (some (.int r)) (ST z m))
  unfold f_X8_timesMore at hF
  refine J_iconst (v := 0) dX8_timesMore_0 (by decide) ?_
  refine J_istore (L' := [(4, .int 0), (0, .ref 5), (1, .int a1), (2, .int a2), (3, .int a3)]) dX8_timesMore_1 (by decide) rfl ?_
  refine J_sub [1, 2, 3, 4, 0] rfl ?_
  exact Sf_X8_timesMore_3 hd _ _ _ _ _ _ _ _ hF
def f_X8_practice (a1 : Int32) (a2 : Int32) (a3 : Int32) (x : MX) : Option (Int32 × MX) :=
  ob (f_X8_isLinkAndCuff a1 x) (fun r1 =>
  if r1 = true then
  if a2 < 1 then
  some ((-1), x)
  else
  if 999 < a2 then
  some ((-1), x)
  else
  if (f_X8_isPart a3) = true then
  if a3 = 0 then
  ob2 (f_X8_timesMore (a1 / 10) (a1 % 10) a2 x) (fun r11 x12 =>
  some (r11, x12))
  else
  ob2 (f_X8_leastSkill (a1 / 10) (a1 % 10) a2 x) (fun r8 x9 =>
  some (r8, x9))
  else
  some ((-1), x)
  else
  some ((-1), x))
theorem S_X8_practice {g : GC} {d : Nat} {a1 : Int32} {a2 : Int32} {a3 : Int32} {x : MX} {m : MM} {r : Int32} {z : MX} (hd : 6 ≤ d) 
  (hF : f_X8_practice a1 a2 a3 x = some (r, z)) : JC g m_X8_practice d 0 0 [.ref 5, .int a1, .int a2, .int a3] (ST x m) (EQ (some (.int r)) (ST z m)) := by
  refine JC.of (by decide +kernel) (Nat.le_of_ble_eq_true rfl) ?_
  change J g m_X8_practice d 0 0 0 [(0, .ref 5), (1, .int a1), (2, .int a2), (3, .int a3)] [] (ST x m) 0 0 (EQ (some (.int r)) (ST z m))
  unfold f_X8_practice at hF
  refine J_aload_n (j := 0) dX8_practice_0 rfl rfl ?_
  refine J_iload_n (j := 1) dX8_practice_1 rfl rfl ?_
  obtain ⟨r1, h2, hF⟩ := ob_some hF
  refine JX_callVi (As := [.int a1]) (S := []) lkV_WithOneHand_132_X8_isLinkAndCuff rfl (by decide) dX8_practice_2 c_5 (S_X8_isLinkAndCuff (by omega) h2) (by omega) rfl rfl (Nat.le_of_ble_eq_true rfl) rfl ?_
  refine J_ifb_eq (tgt := 27) dX8_practice_5 (by decide) (fun q3 => ?_) (fun q3 => ?_)
  · rw [if_neg q3] at hF
    refine J_iconst (v := (-1)) dX8_practice_27 (by decide) ?_
    obtain ⟨e_r, e_z⟩ := someP hF
    subst e_r
    subst e_z
    exact J_ireturn rfl rfl dX8_practice_28 ⟨rfl, rfl⟩
  · rw [if_pos q3] at hF
    refine J_iload_n (j := 2) dX8_practice_8 rfl rfl ?_
    refine J_iconst (v := 1) dX8_practice_9 (by decide) ?_
    refine J_icmp_lt (tgt := 27) dX8_practice_10 (by decide) (fun q4 => ?_) (fun q4 => ?_)
    · rw [if_pos q4] at hF
      refine J_iconst (v := (-1)) dX8_practice_27 (by decide) ?_
      obtain ⟨e_r, e_z⟩ := someP hF
      subst e_r
      subst e_z
      exact J_ireturn rfl rfl dX8_practice_28 ⟨rfl, rfl⟩
    · rw [if_neg q4] at hF
      refine J_iload_n (j := 2) dX8_practice_13 rfl rfl ?_
      refine J_sipush (v := 999) dX8_practice_14 (by decide) ?_
      refine J_icmp_gt (tgt := 27) dX8_practice_17 (by decide) (fun q5 => ?_) (fun q5 => ?_)
      · rw [if_pos q5] at hF
        refine J_iconst (v := (-1)) dX8_practice_27 (by decide) ?_
        obtain ⟨e_r, e_z⟩ := someP hF
        subst e_r
        subst e_z
        exact J_ireturn rfl rfl dX8_practice_28 ⟨rfl, rfl⟩
      · rw [if_neg q5] at hF
        refine J_iload_n (j := 3) dX8_practice_20 rfl rfl ?_
        refine J_callSi (As := [.int a3]) (S := []) lkS_WithOneHand_179_X8_isPart dX8_practice_21 (S_X8_isPart (by omega) rfl) (by omega) rfl rfl (Nat.le_of_ble_eq_true rfl) rfl ?_
        refine J_ifb_ne (tgt := 29) dX8_practice_24 (by decide) (fun q6 => ?_) (fun q6 => ?_)
        · rw [if_pos q6] at hF
          refine J_iload_n (j := 1) dX8_practice_29 rfl rfl ?_
          refine J_bipush (v := 10) dX8_practice_30 (by decide) ?_
          refine J_idiv dX8_practice_32 (by decide) ?_
          refine J_istore (L' := [(4, .int (a1 / 10)), (0, .ref 5), (1, .int a1), (2, .int a2), (3, .int a3)]) dX8_practice_33 (by decide) rfl ?_
          refine J_iload_n (j := 2) dX8_practice_35 rfl rfl ?_
          refine J_bipush (v := 10) dX8_practice_36 (by decide) ?_
          refine J_irem dX8_practice_38 (by decide) ?_
          refine J_istore (L' := [(5, .int (a1 % 10)), (4, .int (a1 / 10)), (0, .ref 5), (1, .int a1), (2, .int a2), (3, .int a3)]) dX8_practice_39 (by decide) rfl ?_
          refine J_iload_n (j := 5) dX8_practice_41 rfl rfl ?_
          refine J_if_ne (tgt := 57) dX8_practice_42 (by decide) (fun q7 => ?_) (fun q7 => ?_)
          · rw [if_neg q7] at hF
            refine J_aload_n (j := 2) dX8_practice_57 rfl rfl ?_
            refine J_iload (j := 1) dX8_practice_58 rfl ?_
            refine J_iload (j := 0) dX8_practice_60 rfl ?_
            refine J_iload_n (j := 4) dX8_practice_62 rfl rfl ?_
            obtain ⟨r8, x9, h10, hF⟩ := ob2_some hF
            refine JX_callVi (As := [.int (a1 / 10), .int (a1 % 10), .int a2]) (S := []) lkV_WithOneHand_193_X8_leastSkill rfl (by decide) dX8_practice_63 c_5 (S_X8_leastSkill (by omega) h10) (by omega) rfl rfl (Nat.le_of_ble_eq_true rfl) rfl ?_
            obtain ⟨e_r, e_z⟩ := someP hF
            subst e_r
            subst e_z
            exact J_ireturn rfl rfl dX8_practice_66 ⟨rfl, rfl⟩
          · rw [if_pos q7] at hF
            refine J_aload_n (j := 2) dX8_practice_45 rfl rfl ?_
            refine J_iload (j := 1) dX8_practice_46 rfl ?_
            refine J_iload (j := 0) dX8_practice_48 rfl ?_
            refine J_iload_n (j := 4) dX8_practice_50 rfl rfl ?_
            obtain ⟨r11, x12, h13, hF⟩ := ob2_some hF
            refine JX_callVi (As := [.int (a1 / 10), .int (a1 % 10), .int a2]) (S := []) lkV_WithOneHand_190_X8_timesMore rfl (by decide) dX8_practice_51 c_5 (S_X8_timesMore (by omega) h13) (by omega) rfl rfl (Nat.le_of_ble_eq_true rfl) rfl ?_
            refine J_goto (tgt := 66) dX8_practice_54 (by decide) ?_
            obtain ⟨e_r, e_z⟩ := someP hF
            subst e_r
            subst e_z
            exact J_ireturn rfl rfl dX8_practice_66 ⟨rfl, rfl⟩
        · rw [if_neg q6] at hF
          refine J_iconst (v := (-1)) dX8_practice_27 (by decide) ?_
          obtain ⟨e_r, e_z⟩ := someP hF
          subst e_r
          subst e_z
          exact J_ireturn rfl rfl dX8_practice_28 ⟨rfl, rfl⟩
def B_X9_practice_121 (K56 : Int32 → Int32 → Int32 → Int32 → Int32 → Int32 → MM → Option (Int32 × MM)) (v2 : Int32) (v3 : Int32) (v4 : Int32) (v5 : Int32) (v6 : Int32) (v7 : Int32) (t0 : Int32) (m : MM) : Option (Int32 × MM) :=
  if v2 < t0 then
  K56 v2 v3 v4 v5 v6 (v7 + 1) m
  else
  some (v7, m)
theorem SB_X9_practice_121 {g : GC} {d : Nat} {K56 : Int32 → Int32 → Int32 → Int32 → Int32 → Int32 → MM → Option (Int32 × MM)} {v2 : Int32} {v3 : Int32} {v4 : Int32} {v5 : Int32} {v6 : Int32} {v7 : Int32} {t0 : Int32} {x : MX} {m : MM} {r : Int32} {z : MM} (hd : 107 ≤ d) (hK56 : ∀ (v2 : Int32) (v3 : Int32) (v4 : Int32) (v5 : Int32) (v6 : Int32) (v7 : Int32) (m : MM) (r : Int32) (z : MM), K56 v2 v3 v4 v5 v6 v7 m = some (r, z) → J g m_X9_practice d 0 0 56 [(0, .ref 80), (2, .int v2), (3, .int v3), (4, .int v4), (5, .int v5), (6, .int v6), (7, .int v7)] [] (ST x m) 0 0 (EQ (some (.int r)) (ST x z)))
  (hF : B_X9_practice_121 K56 v2 v3 v4 v5 v6 v7 t0 m = some (r, z)) : J g m_X9_practice d 0 0 121 [(0, .ref 80), (2, .int v2), (3, .int v3), (4, .int v4), (5, .int v5), (6, .int v6), (7, .int v7)] [.int t0] (ST x m) 0 0 (EQ (some (.int r)) (ST x z)) := by
  unfold B_X9_practice_121 at hF
  refine J_iload_n (j := 1) dX9_practice_121 rfl rfl ?_
  refine J_icmp_gt (tgt := 128) dX9_practice_122 (by decide) (fun q14 => ?_) (fun q14 => ?_)
  · rw [if_pos q14] at hF
    refine J_iinc (j := 6) (v := v7 + 1) (L' := [(7, .int (v7 + 1)), (0, .ref 80), (2, .int v2), (3, .int v3), (4, .int v4), (5, .int v5), (6, .int v6)]) dX9_practice_128 rfl rfl (by decide) rfl ?_
    refine J_goto (tgt := 56) dX9_practice_131 (by decide) ?_
    refine J_sub [1, 2, 3, 4, 5, 6, 0] rfl ?_
    exact hK56 _ _ _ _ _ _ _ _ _  hF
  · rw [if_neg q14] at hF
    refine J_iload (j := 6) dX9_practice_125 rfl ?_
    obtain ⟨e_r, e_z⟩ := someP hF
    subst e_r
    subst e_z
    exact J_ireturn rfl rfl dX9_practice_127 ⟨rfl, rfl⟩
def B_X9_practice_69 (K56 : Int32 → Int32 → Int32 → Int32 → Int32 → Int32 → MM → Option (Int32 × MM)) (v2 : Int32) (v3 : Int32) (v4 : Int32) (v5 : Int32) (v6 : Int32) (v7 : Int32) (t0 : Int32) (t1 : Int32) (m : MM) : Option (Int32 × MM) :=
  if t0 < t1 then
  some ((-2), m)
  else
  if v3 = 0 then
  if inb v6 2 = true then
  ob2 (f_X9_takes v4 v5 (mi m 88 (ix v6)) ((mi m 90 (ix v6)) + v7) m) (fun r16 m17 =>
  B_X9_practice_121 K56 v2 v3 v4 v5 v6 v7 r16 m17)
  else none
  else
  if inb v6 2 = true then
  ob2 (f_X9_takes v4 v5 v7 (mi m 90 (ix v6)) m) (fun r11 m12 =>
  B_X9_practice_121 K56 v2 v3 v4 v5 v6 v7 r11 m12)
  else none
theorem SB_X9_practice_69 {g : GC} {d : Nat} {K56 : Int32 → Int32 → Int32 → Int32 → Int32 → Int32 → MM → Option (Int32 × MM)} {v2 : Int32} {v3 : Int32} {v4 : Int32} {v5 : Int32} {v6 : Int32} {v7 : Int32} {t0 : Int32} {t1 : Int32} {x : MX} {m : MM} {r : Int32} {z : MM} (hd : 107 ≤ d) (hK56 : ∀ (v2 : Int32) (v3 : Int32) (v4 : Int32) (v5 : Int32) (v6 : Int32) (v7 : Int32) (m : MM) (r : Int32) (z : MM), K56 v2 v3 v4 v5 v6 v7 m = some (r, z) → J g m_X9_practice d 0 0 56 [(0, .ref 80), (2, .int v2), (3, .int v3), (4, .int v4), (5, .int v5), (6, .int v6), (7, .int v7)] [] (ST x m) 0 0 (EQ (some (.int r)) (ST x z)))
  (hF : B_X9_practice_69 K56 v2 v3 v4 v5 v6 v7 t0 t1 m = some (r, z)) : J g m_X9_practice d 0 0 69 [(0, .ref 80), (2, .int v2), (3, .int v3), (4, .int v4), (5, .int v5), (6, .int v6), (7, .int v7)] [.int t0, .int t1] (ST x m) 0 0 (EQ (some (.int r)) (ST x z)) := by
  unfold B_X9_practice_69 at hF
  refine J_icmp_gt (tgt := 134) dX9_practice_69 (by decide) (fun q8 => ?_) (fun q8 => ?_)
  · rw [if_pos q8] at hF
    refine J_bipush (v := (-2)) dX9_practice_134 (by decide) ?_
    obtain ⟨e_r, e_z⟩ := someP hF
    subst e_r
    subst e_z
    exact J_ireturn rfl rfl dX9_practice_136 ⟨rfl, rfl⟩
  · rw [if_neg q8] at hF
    refine J_iload_n (j := 2) dX9_practice_72 rfl rfl ?_
    refine J_if_ne (tgt := 104) dX9_practice_73 (by decide) (fun q9 => ?_) (fun q9 => ?_)
    · rw [if_neg q9] at hF
      refine J_aload_n (j := 0) dX9_practice_104 rfl rfl ?_
      refine J_iload (j := 3) dX9_practice_105 rfl ?_
      refine J_iload (j := 4) dX9_practice_107 rfl ?_
      refine J_iload (j := 6) dX9_practice_109 rfl ?_
      refine J_aload_n (j := 0) dX9_practice_111 rfl rfl ?_
      refine JM_getR (r := 90) fl_WithOneHandModel_41_8 dX9_practice_112 c_80 rfl rfl ?_
      refine J_iload (j := 5) dX9_practice_115 rfl ?_
      obtain ⟨b10, hF⟩ := chk hF
      refine JM_iald (j := ix v6) dX9_practice_117 c_90 (inb_vp b10) rfl ?_
      obtain ⟨r11, m12, h13, hF⟩ := ob2_some hF
      refine JM_callVi (As := [.int v4, .int v5, .int v7, .int (mi m 90 (ix v6))]) (S := []) lkV_WithOneHandModel_257_X9_takes rfl (by decide) dX9_practice_118 c_80 (S_X9_takes (by omega) h13) (by omega) rfl rfl (Nat.le_of_ble_eq_true rfl) rfl ?_
      exact SB_X9_practice_121 hd hK56 hF
    · rw [if_pos q9] at hF
      refine J_aload_n (j := 0) dX9_practice_76 rfl rfl ?_
      refine J_iload (j := 3) dX9_practice_77 rfl ?_
      refine J_iload (j := 4) dX9_practice_79 rfl ?_
      refine J_aload_n (j := 0) dX9_practice_81 rfl rfl ?_
      refine JM_getR (r := 88) fl_WithOneHandModel_35_8 dX9_practice_82 c_80 rfl rfl ?_
      refine J_iload (j := 5) dX9_practice_85 rfl ?_
      obtain ⟨b15, hF⟩ := chk hF
      refine JM_iald (j := ix v6) dX9_practice_87 c_88 (inb_vp b15) rfl ?_
      refine J_aload_n (j := 0) dX9_practice_88 rfl rfl ?_
      refine JM_getR (r := 90) fl_WithOneHandModel_41_8 dX9_practice_89 c_80 rfl rfl ?_
      refine J_iload (j := 5) dX9_practice_92 rfl ?_
      refine JM_iald (j := ix v6) dX9_practice_94 c_90 (inb_vp b15) rfl ?_
      refine J_iload (j := 6) dX9_practice_95 rfl ?_
      refine J_iadd dX9_practice_97 ?_
      obtain ⟨r16, m17, h18, hF⟩ := ob2_some hF
      refine JM_callVi (As := [.int v4, .int v5, .int (mi m 88 (ix v6)), .int ((mi m 90 (ix v6)) + v7)]) (S := []) lkV_WithOneHandModel_257_X9_takes rfl (by decide) dX9_practice_98 c_80 (S_X9_takes (by omega) h18) (by omega) rfl rfl (Nat.le_of_ble_eq_true rfl) rfl ?_
      refine J_goto (tgt := 121) dX9_practice_101 (by decide) ?_
      exact SB_X9_practice_121 hd hK56 hF
def B_X9_practice_56 (K56 : Int32 → Int32 → Int32 → Int32 → Int32 → Int32 → MM → Option (Int32 × MM)) (v2 : Int32) (v3 : Int32) (v4 : Int32) (v5 : Int32) (v6 : Int32) (v7 : Int32) (m : MM) : Option (Int32 × MM) :=
  if v3 = 0 then
  B_X9_practice_69 K56 v2 v3 v4 v5 v6 v7 99 v7 m
  else
  B_X9_practice_69 K56 v2 v3 v4 v5 v6 v7 9 v7 m
theorem SB_X9_practice_56 {g : GC} {d : Nat} {K56 : Int32 → Int32 → Int32 → Int32 → Int32 → Int32 → MM → Option (Int32 × MM)} {v2 : Int32} {v3 : Int32} {v4 : Int32} {v5 : Int32} {v6 : Int32} {v7 : Int32} {x : MX} {m : MM} {r : Int32} {z : MM} (hd : 107 ≤ d) (hK56 : ∀ (v2 : Int32) (v3 : Int32) (v4 : Int32) (v5 : Int32) (v6 : Int32) (v7 : Int32) (m : MM) (r : Int32) (z : MM), K56 v2 v3 v4 v5 v6 v7 m = some (r, z) → J g m_X9_practice d 0 0 56 [(0, .ref 80), (2, .int v2), (3, .int v3), (4, .int v4), (5, .int v5), (6, .int v6), (7, .int v7)] [] (ST x m) 0 0 (EQ (some (.int r)) (ST x z)))
  (hF : B_X9_practice_56 K56 v2 v3 v4 v5 v6 v7 m = some (r, z)) : J g m_X9_practice d 0 0 56 [(0, .ref 80), (2, .int v2), (3, .int v3), (4, .int v4), (5, .int v5), (6, .int v6), (7, .int v7)] [] (ST x m) 0 0 (EQ (some (.int r)) (ST x z)) := by
  unfold B_X9_practice_56 at hF
  refine J_iload (j := 6) dX9_practice_56 rfl ?_
  refine J_iload_n (j := 2) dX9_practice_58 rfl rfl ?_
  refine J_if_ne (tgt := 67) dX9_practice_59 (by decide) (fun q7 => ?_) (fun q7 => ?_)
  · rw [if_neg q7] at hF
    refine J_bipush (v := 9) dX9_practice_67 (by decide) ?_
    exact SB_X9_practice_69 hd hK56 hF
  · rw [if_pos q7] at hF
    refine J_bipush (v := 99) dX9_practice_62 (by decide) ?_
    refine J_goto (tgt := 69) dX9_practice_64 (by decide) ?_
    exact SB_X9_practice_69 hd hK56 hF
def f_X9_practice_56  : Nat → Int32 → Int32 → Int32 → Int32 → Int32 → Int32 → MM → Option (Int32 × MM)
  | 0 => fun _ _ _ _ _ _ _ => none
  | n + 1 => fun v2 v3 v4 v5 v6 v7 m => B_X9_practice_56 (f_X9_practice_56  n) v2 v3 v4 v5 v6 v7 m
theorem Sf_X9_practice_56 {g : GC} {d : Nat} {x : MX} (hd : 107 ≤ d)  : ∀ (n : Nat) (v2 : Int32) (v3 : Int32) (v4 : Int32) (v5 : Int32) (v6 : Int32) (v7 : Int32) (m : MM) (r : Int32) (z : MM), f_X9_practice_56  n v2 v3 v4 v5 v6 v7 m = some (r, z) → J g m_X9_practice d 0 0 56 [(0, .ref 80), (2, .int v2), (3, .int v3), (4, .int v4), (5, .int v5), (6, .int v6), (7, .int v7)] [] (ST x m) 0 0 (EQ (some (.int r)) (ST x z)) := by
  intro n
  induction n with
  | zero => intro v2 v3 v4 v5 v6 v7 m r z  hF; exact absurd hF (fun q => by cases q)
  | succ n ih =>
    intro v2 v3 v4 v5 v6 v7 m r z  hF
    exact SB_X9_practice_56 hd (fun v2 v3 v4 v5 v6 v7 m r z  hF => ih v2 v3 v4 v5 v6 v7 m r z  hF) hF
def f_X9_practice (a1 : Int32) (a2 : Int32) (a3 : Int32) (m : MM) : Option (Int32 × MM) :=
  ob (f_X9_isPair a1 m) (fun r1 =>
  if r1 = true then
  if (f_X9_isIn a2 1 999) = true then
  if (f_X9_isIn a3 0 1) = true then
  if inb (a1 % 10) 6 = true then
  f_X9_practice_56 LF a2 a3 (a1 / 10) (a1 % 10) (mi m 85 (ix (a1 % 10))) 0 m
  else none
  else
  some ((-1), m)
  else
  some ((-1), m)
  else
  some ((-1), m))
theorem S_X9_practice {g : GC} {d : Nat} {a1 : Int32} {a2 : Int32} {a3 : Int32} {x : MX} {m : MM} {r : Int32} {z : MM} (hd : 107 ≤ d) 
  (hF : f_X9_practice a1 a2 a3 m = some (r, z)) : JC g m_X9_practice d 0 0 [.ref 80, .int a1, .int a2, .int a3] (ST x m) (EQ (some (.int r)) (ST x z)) := by
  refine JC.of (by decide +kernel) (Nat.le_of_ble_eq_true rfl) ?_
  change J g m_X9_practice d 0 0 0 [(0, .ref 80), (1, .int a1), (2, .int a2), (3, .int a3)] [] (ST x m) 0 0 (EQ (some (.int r)) (ST x z))
  unfold f_X9_practice at hF
  refine J_aload_n (j := 0) dX9_practice_0 rfl rfl ?_
  refine J_iload_n (j := 1) dX9_practice_1 rfl rfl ?_
  obtain ⟨r1, h2, hF⟩ := ob_some hF
  refine JM_callVi (As := [.int a1]) (S := []) lkV_WithOneHandModel_261_X9_isPair rfl (by decide) dX9_practice_2 c_80 (S_X9_isPair (by omega) h2) (by omega) rfl rfl (Nat.le_of_ble_eq_true rfl) rfl ?_
  refine J_ifb_eq (tgt := 30) dX9_practice_5 (by decide) (fun q3 => ?_) (fun q3 => ?_)
  · rw [if_neg q3] at hF
    refine J_iconst (v := (-1)) dX9_practice_30 (by decide) ?_
    obtain ⟨e_r, e_z⟩ := someP hF
    subst e_r
    subst e_z
    exact J_ireturn rfl rfl dX9_practice_31 ⟨rfl, rfl⟩
  · rw [if_pos q3] at hF
    refine J_aload_n (j := 0) dX9_practice_8 rfl rfl ?_
    refine J_iload_n (j := 2) dX9_practice_9 rfl rfl ?_
    refine J_iconst (v := 1) dX9_practice_10 (by decide) ?_
    refine J_sipush (v := 999) dX9_practice_11 (by decide) ?_
    refine JM_callVi (As := [.int a2, .int 1, .int 999]) (S := []) lkV_WithOneHandModel_114_X9_isIn rfl (by decide) dX9_practice_14 c_80 (S_X9_isIn (by omega) rfl) (by omega) rfl rfl (Nat.le_of_ble_eq_true rfl) rfl ?_
    refine J_ifb_eq (tgt := 30) dX9_practice_17 (by decide) (fun q4 => ?_) (fun q4 => ?_)
    · rw [if_neg q4] at hF
      refine J_iconst (v := (-1)) dX9_practice_30 (by decide) ?_
      obtain ⟨e_r, e_z⟩ := someP hF
      subst e_r
      subst e_z
      exact J_ireturn rfl rfl dX9_practice_31 ⟨rfl, rfl⟩
    · rw [if_pos q4] at hF
      refine J_aload_n (j := 0) dX9_practice_20 rfl rfl ?_
      refine J_iload_n (j := 3) dX9_practice_21 rfl rfl ?_
      refine J_iconst (v := 0) dX9_practice_22 (by decide) ?_
      refine J_iconst (v := 1) dX9_practice_23 (by decide) ?_
      refine JM_callVi (As := [.int a3, .int 0, .int 1]) (S := []) lkV_WithOneHandModel_114_X9_isIn rfl (by decide) dX9_practice_24 c_80 (S_X9_isIn (by omega) rfl) (by omega) rfl rfl (Nat.le_of_ble_eq_true rfl) rfl ?_
      refine J_ifb_ne (tgt := 32) dX9_practice_27 (by decide) (fun q5 => ?_) (fun q5 => ?_)
      · rw [if_pos q5] at hF
        refine J_iload_n (j := 1) dX9_practice_32 rfl rfl ?_
        refine J_bipush (v := 10) dX9_practice_33 (by decide) ?_
        refine J_idiv dX9_practice_35 (by decide) ?_
        refine J_istore (L' := [(4, .int (a1 / 10)), (0, .ref 80), (1, .int a1), (2, .int a2), (3, .int a3)]) dX9_practice_36 (by decide) rfl ?_
        refine J_iload_n (j := 2) dX9_practice_38 rfl rfl ?_
        refine J_bipush (v := 10) dX9_practice_39 (by decide) ?_
        refine J_irem dX9_practice_41 (by decide) ?_
        refine J_istore (L' := [(5, .int (a1 % 10)), (4, .int (a1 / 10)), (0, .ref 80), (1, .int a1), (2, .int a2), (3, .int a3)]) dX9_practice_42 (by decide) rfl ?_
        refine J_aload_n (j := 2) dX9_practice_44 rfl rfl ?_
        refine JM_getR (r := 85) fl_WithOneHandModel_26_8 dX9_practice_45 c_80 rfl rfl ?_
        refine J_iload (j := 0) dX9_practice_48 rfl ?_
        obtain ⟨b6, hF⟩ := chk hF
        refine JM_iald (j := ix (a1 % 10)) dX9_practice_50 c_85 (inb_vp b6) rfl ?_
        refine J_istore (L' := [(6, .int (mi m 85 (ix (a1 % 10)))), (5, .int (a1 % 10)), (4, .int (a1 / 10)), (0, .ref 80), (1, .int a1), (2, .int a2), (3, .int a3)]) dX9_practice_51 (by decide) rfl ?_
        refine J_iconst (v := 0) dX9_practice_53 (by decide) ?_
        refine J_istore (L' := [(7, .int 0), (6, .int (mi m 85 (ix (a1 % 10)))), (5, .int (a1 % 10)), (4, .int (a1 / 10)), (0, .ref 80), (1, .int a1), (2, .int a2), (3, .int a3)]) dX9_practice_54 (by decide) rfl ?_
        refine J_sub [4, 6, 7, 3, 2, 1, 0] rfl ?_
        exact Sf_X9_practice_56 hd _ _ _ _ _ _ _ _ _ _ hF
      · rw [if_neg q5] at hF
        refine J_iconst (v := (-1)) dX9_practice_30 (by decide) ?_
        obtain ⟨e_r, e_z⟩ := someP hF
        subst e_r
        subst e_z
        exact J_ireturn rfl rfl dX9_practice_31 ⟨rfl, rfl⟩
def f_X8_isSooner (a1 : Int32) (a2 : Int32) (x : MX) : Option Bool :=
  if inb a1 8 = true then
  if inb a2 8 = true then
  if ((xi x 19 (ix a2)) * (xi x 18 (ix a1))) ≤ ((xi x 19 (ix a1)) * (xi x 18 (ix a2))) then
  some false
  else
  some true
  else none
  else none
theorem S_X8_isSooner {g : GC} {d : Nat} {a1 : Int32} {a2 : Int32} {x : MX} {m : MM} {r : Bool} (hd : 1 ≤ d) 
  (hF : f_X8_isSooner a1 a2 x = some r) : JC g m_X8_isSooner d 0 0 [.ref 5, .int a1, .int a2] (ST x m) (EQ (some (.int (b2i r))) (ST x m)) := by
  refine JC.of (by decide +kernel) (Nat.le_of_ble_eq_true rfl) ?_
  change J g m_X8_isSooner d 0 0 0 [(0, .ref 5), (1, .int a1), (2, .int a2)] [] (ST x m) 0 0 (EQ (some (.int (b2i r))) (ST x m))
  unfold f_X8_isSooner at hF
  refine J_aload_n (j := 0) dX8_isSooner_0 rfl rfl ?_
  refine JX_getR (r := 6) fl_WithOneHand_11_7 dX8_isSooner_1 c_5 rfl rfl ?_
  refine J_bipush (v := 12) dX8_isSooner_4 (by decide) ?_
  refine JX_aald (j := 12) (r := 19) (by decide) dX8_isSooner_6 c_6 (by unfold vp_in; decide) (by decide) rfl ?_
  refine J_iload_n (j := 1) dX8_isSooner_7 rfl rfl ?_
  obtain ⟨b1, hF⟩ := chk hF
  refine JX_iald (j := ix a1) dX8_isSooner_8 c_19 (inb_vp b1) rfl ?_
  refine J_aload_n (j := 0) dX8_isSooner_9 rfl rfl ?_
  refine JX_getR (r := 6) fl_WithOneHand_11_7 dX8_isSooner_10 c_5 rfl rfl ?_
  refine J_bipush (v := 11) dX8_isSooner_13 (by decide) ?_
  refine JX_aald (j := 11) (r := 18) (by decide) dX8_isSooner_15 c_6 (by unfold vp_in; decide) (by decide) rfl ?_
  refine J_iload_n (j := 2) dX8_isSooner_16 rfl rfl ?_
  obtain ⟨b2, hF⟩ := chk hF
  refine JX_iald (j := ix a2) dX8_isSooner_17 c_18 (inb_vp b2) rfl ?_
  refine J_imul dX8_isSooner_18 ?_
  refine J_aload_n (j := 0) dX8_isSooner_19 rfl rfl ?_
  refine JX_getR (r := 6) fl_WithOneHand_11_7 dX8_isSooner_20 c_5 rfl rfl ?_
  refine J_bipush (v := 12) dX8_isSooner_23 (by decide) ?_
  refine JX_aald (j := 12) (r := 19) (by decide) dX8_isSooner_25 c_6 (by unfold vp_in; decide) (by decide) rfl ?_
  refine J_iload_n (j := 2) dX8_isSooner_26 rfl rfl ?_
  refine JX_iald (j := ix a2) dX8_isSooner_27 c_19 (inb_vp b2) rfl ?_
  refine J_aload_n (j := 0) dX8_isSooner_28 rfl rfl ?_
  refine JX_getR (r := 6) fl_WithOneHand_11_7 dX8_isSooner_29 c_5 rfl rfl ?_
  refine J_bipush (v := 11) dX8_isSooner_32 (by decide) ?_
  refine JX_aald (j := 11) (r := 18) (by decide) dX8_isSooner_34 c_6 (by unfold vp_in; decide) (by decide) rfl ?_
  refine J_iload_n (j := 1) dX8_isSooner_35 rfl rfl ?_
  refine JX_iald (j := ix a1) dX8_isSooner_36 c_18 (inb_vp b1) rfl ?_
  refine J_imul dX8_isSooner_37 ?_
  refine J_icmp_ge (tgt := 45) dX8_isSooner_38 (by decide) (fun q3 => ?_) (fun q3 => ?_)
  · rw [if_pos q3] at hF
    refine J_iconst (v := 0) dX8_isSooner_45 (by decide) ?_
    have e_r := Option.some.inj hF
    subst e_r
    exact J_ireturn rfl rfl dX8_isSooner_46 ⟨rfl, rfl⟩
  · rw [if_neg q3] at hF
    refine J_iconst (v := 1) dX8_isSooner_41 (by decide) ?_
    refine J_goto (tgt := 46) dX8_isSooner_42 (by decide) ?_
    have e_r := Option.some.inj hF
    subst e_r
    exact J_ireturn rfl rfl dX8_isSooner_46 ⟨rfl, rfl⟩
def B_X8_sortSpots_52 (K2 : Int32 → MX → Option MX) (v1 : Int32) (v2 : Int32) (x : MX) : Option MX :=
  if inb v2 8 = true then
  letx (xs x 55 (ix v2) v1) (fun x4 =>
  K2 (v1 + 1) x4)
  else none
theorem SB_X8_sortSpots_52 {g : GC} {d : Nat} {K2 : Int32 → MX → Option MX} {v1 : Int32} {v2 : Int32} {x : MX} {m : MM} {z : MX} (hd : 2 ≤ d) (hK2 : ∀ (v1 : Int32) (x : MX) (z : MX), K2 v1 x = some z → J g m_X8_sortSpots d 0 0 2 [(0, .ref 5), (1, .int v1)] [] (ST x m) 0 0 (EQ (none) (ST z m)))
  (hF : B_X8_sortSpots_52 K2 v1 v2 x = some z) : J g m_X8_sortSpots d 0 0 52 [(0, .ref 5), (1, .int v1), (2, .int v2)] [] (ST x m) 0 0 (EQ (none) (ST z m)) := by
  unfold B_X8_sortSpots_52 at hF
  refine J_aload_n (j := 0) dX8_sortSpots_52 rfl rfl ?_
  refine JX_getR (r := 55) fl_WithOneHand_62_7 dX8_sortSpots_53 c_5 rfl rfl ?_
  refine J_iload_n (j := 2) dX8_sortSpots_56 rfl rfl ?_
  refine J_iload_n (j := 1) dX8_sortSpots_57 rfl rfl ?_
  obtain ⟨b3, hF⟩ := chk hF
  obtain ⟨x4, e_x4, hF⟩ := letx_eq hF
  refine JX_iast (j := ix v2) dX8_sortSpots_58 c_55 (inb_vp b3) rfl ?_
  rw [← e_x4]
  refine J_iinc (j := 1) (v := v1 + 1) (L' := [(1, .int (v1 + 1)), (0, .ref 5), (2, .int v2)]) dX8_sortSpots_59 rfl rfl (by decide) rfl ?_
  refine J_goto (tgt := 2) dX8_sortSpots_62 (by decide) ?_
  refine J_sub [1, 0] rfl ?_
  exact hK2 _ _ _  hF
def B_X8_sortSpots_12 (K2 : Int32 → MX → Option MX) (K12 : Int32 → Int32 → MX → Option MX) (v1 : Int32) (v2 : Int32) (x : MX) : Option MX :=
  if v2 ≤ 0 then
  B_X8_sortSpots_52 K2 v1 v2 x
  else
  if inb (v2 - 1) 8 = true then
  ob (f_X8_isSooner v1 (xi x 55 (ix (v2 - 1))) x) (fun r6 =>
  if r6 = true then
  if inb v2 8 = true then
  letx (xs x 55 (ix v2) (xi x 55 (ix (v2 - 1)))) (fun x10 =>
  K12 v1 (v2 + (-1)) x10)
  else none
  else
  B_X8_sortSpots_52 K2 v1 v2 x)
  else none
theorem SB_X8_sortSpots_12 {g : GC} {d : Nat} {K2 : Int32 → MX → Option MX} {K12 : Int32 → Int32 → MX → Option MX} {v1 : Int32} {v2 : Int32} {x : MX} {m : MM} {z : MX} (hd : 2 ≤ d) (hK2 : ∀ (v1 : Int32) (x : MX) (z : MX), K2 v1 x = some z → J g m_X8_sortSpots d 0 0 2 [(0, .ref 5), (1, .int v1)] [] (ST x m) 0 0 (EQ (none) (ST z m))) (hK12 : ∀ (v1 : Int32) (v2 : Int32) (x : MX) (z : MX), K12 v1 v2 x = some z → J g m_X8_sortSpots d 0 0 12 [(0, .ref 5), (1, .int v1), (2, .int v2)] [] (ST x m) 0 0 (EQ (none) (ST z m)))
  (hF : B_X8_sortSpots_12 K2 K12 v1 v2 x = some z) : J g m_X8_sortSpots d 0 0 12 [(0, .ref 5), (1, .int v1), (2, .int v2)] [] (ST x m) 0 0 (EQ (none) (ST z m)) := by
  unfold B_X8_sortSpots_12 at hF
  refine J_iload_n (j := 2) dX8_sortSpots_12 rfl rfl ?_
  refine J_if_le (tgt := 52) dX8_sortSpots_13 (by decide) (fun q2 => ?_) (fun q2 => ?_)
  · rw [if_pos q2] at hF
    exact SB_X8_sortSpots_52 hd hK2 hF
  · rw [if_neg q2] at hF
    refine J_aload_n (j := 0) dX8_sortSpots_16 rfl rfl ?_
    refine J_iload_n (j := 1) dX8_sortSpots_17 rfl rfl ?_
    refine J_aload_n (j := 0) dX8_sortSpots_18 rfl rfl ?_
    refine JX_getR (r := 55) fl_WithOneHand_62_7 dX8_sortSpots_19 c_5 rfl rfl ?_
    refine J_iload_n (j := 2) dX8_sortSpots_22 rfl rfl ?_
    refine J_iconst (v := 1) dX8_sortSpots_23 (by decide) ?_
    refine J_isub dX8_sortSpots_24 ?_
    obtain ⟨b5, hF⟩ := chk hF
    refine JX_iald (j := ix (v2 - 1)) dX8_sortSpots_25 c_55 (inb_vp b5) rfl ?_
    obtain ⟨r6, h7, hF⟩ := ob_some hF
    refine JX_callVi (As := [.int v1, .int (xi x 55 (ix (v2 - 1)))]) (S := []) lkV_WithOneHand_366_X8_isSooner rfl (by decide) dX8_sortSpots_26 c_5 (S_X8_isSooner (by omega) h7) (by omega) rfl rfl (Nat.le_of_ble_eq_true rfl) rfl ?_
    refine J_ifb_eq (tgt := 52) dX8_sortSpots_29 (by decide) (fun q8 => ?_) (fun q8 => ?_)
    · rw [if_neg q8] at hF
      exact SB_X8_sortSpots_52 hd hK2 hF
    · rw [if_pos q8] at hF
      refine J_aload_n (j := 0) dX8_sortSpots_32 rfl rfl ?_
      refine JX_getR (r := 55) fl_WithOneHand_62_7 dX8_sortSpots_33 c_5 rfl rfl ?_
      refine J_iload_n (j := 2) dX8_sortSpots_36 rfl rfl ?_
      refine J_aload_n (j := 0) dX8_sortSpots_37 rfl rfl ?_
      refine JX_getR (r := 55) fl_WithOneHand_62_7 dX8_sortSpots_38 c_5 rfl rfl ?_
      refine J_iload_n (j := 2) dX8_sortSpots_41 rfl rfl ?_
      refine J_iconst (v := 1) dX8_sortSpots_42 (by decide) ?_
      refine J_isub dX8_sortSpots_43 ?_
      refine JX_iald (j := ix (v2 - 1)) dX8_sortSpots_44 c_55 (inb_vp b5) rfl ?_
      obtain ⟨b9, hF⟩ := chk hF
      obtain ⟨x10, e_x10, hF⟩ := letx_eq hF
      refine JX_iast (j := ix v2) dX8_sortSpots_45 c_55 (inb_vp b9) rfl ?_
      rw [← e_x10]
      refine J_iinc (j := 2) (v := v2 + (-1)) (L' := [(2, .int (v2 + (-1))), (0, .ref 5), (1, .int v1)]) dX8_sortSpots_46 rfl rfl (by decide) rfl ?_
      refine J_goto (tgt := 12) dX8_sortSpots_49 (by decide) ?_
      refine J_sub [1, 2, 0] rfl ?_
      exact hK12 _ _ _ _  hF
def f_X8_sortSpots_12 (K2 : Int32 → MX → Option MX) : Nat → Int32 → Int32 → MX → Option MX
  | 0 => fun _ _ _ => none
  | n + 1 => fun v1 v2 x => B_X8_sortSpots_12 K2 (f_X8_sortSpots_12 K2 n) v1 v2 x
theorem Sf_X8_sortSpots_12 {g : GC} {d : Nat} {m : MM} {K2 : Int32 → MX → Option MX} (hd : 2 ≤ d) (hK2 : ∀ (v1 : Int32) (x : MX) (z : MX), K2 v1 x = some z → J g m_X8_sortSpots d 0 0 2 [(0, .ref 5), (1, .int v1)] [] (ST x m) 0 0 (EQ (none) (ST z m))) : ∀ (n : Nat) (v1 : Int32) (v2 : Int32) (x : MX) (z : MX), f_X8_sortSpots_12 K2 n v1 v2 x = some z → J g m_X8_sortSpots d 0 0 12 [(0, .ref 5), (1, .int v1), (2, .int v2)] [] (ST x m) 0 0 (EQ (none) (ST z m)) := by
  intro n
  induction n with
  | zero => intro v1 v2 x z  hF; exact absurd hF (fun q => by cases q)
  | succ n ih =>
    intro v1 v2 x z  hF
    exact SB_X8_sortSpots_12 hd hK2 (fun v1 v2 x z  hF => ih v1 v2 x z  hF) hF
def B_X8_sortSpots_2 (K2 : Int32 → MX → Option MX) (v1 : Int32) (x : MX) : Option MX :=
  if (xi x 5 14) ≤ v1 then
  some x
  else
  f_X8_sortSpots_12 K2 LF v1 v1 x
theorem SB_X8_sortSpots_2 {g : GC} {d : Nat} {K2 : Int32 → MX → Option MX} {v1 : Int32} {x : MX} {m : MM} {z : MX} (hd : 2 ≤ d) (hK2 : ∀ (v1 : Int32) (x : MX) (z : MX), K2 v1 x = some z → J g m_X8_sortSpots d 0 0 2 [(0, .ref 5), (1, .int v1)] [] (ST x m) 0 0 (EQ (none) (ST z m)))
  (hF : B_X8_sortSpots_2 K2 v1 x = some z) : J g m_X8_sortSpots d 0 0 2 [(0, .ref 5), (1, .int v1)] [] (ST x m) 0 0 (EQ (none) (ST z m)) := by
  unfold B_X8_sortSpots_2 at hF
  refine J_iload_n (j := 1) dX8_sortSpots_2 rfl rfl ?_
  refine J_aload_n (j := 0) dX8_sortSpots_3 rfl rfl ?_
  refine JX_getI fl_WithOneHand_106_7 dX8_sortSpots_4 c_5 rfl ?_
  refine J_icmp_ge (tgt := 65) dX8_sortSpots_7 (by decide) (fun q1 => ?_) (fun q1 => ?_)
  · rw [if_pos q1] at hF
    have e_r := Option.some.inj hF
    subst e_r
    exact J_return rfl dX8_sortSpots_65 ⟨rfl, rfl⟩
  · rw [if_neg q1] at hF
    refine J_iload_n (j := 1) dX8_sortSpots_10 rfl rfl ?_
    refine J_istore_n (L' := [(2, .int v1), (0, .ref 5), (1, .int v1)]) dX8_sortSpots_11 rfl (by decide) rfl ?_
    refine J_sub [1, 2, 0] rfl ?_
    exact Sf_X8_sortSpots_12 hd hK2 _ _ _ _ _ hF
def f_X8_sortSpots_2  : Nat → Int32 → MX → Option MX
  | 0 => fun _ _ => none
  | n + 1 => fun v1 x => B_X8_sortSpots_2 (f_X8_sortSpots_2  n) v1 x
theorem Sf_X8_sortSpots_2 {g : GC} {d : Nat} {m : MM} (hd : 2 ≤ d)  : ∀ (n : Nat) (v1 : Int32) (x : MX) (z : MX), f_X8_sortSpots_2  n v1 x = some z → J g m_X8_sortSpots d 0 0 2 [(0, .ref 5), (1, .int v1)] [] (ST x m) 0 0 (EQ (none) (ST z m)) := by
  intro n
  induction n with
  | zero => intro v1 x z  hF; exact absurd hF (fun q => by cases q)
  | succ n ih =>
    intro v1 x z  hF
    exact SB_X8_sortSpots_2 hd (fun v1 x z  hF => ih v1 x z  hF) hF
def f_X8_sortSpots (x : MX) : Option MX :=
  f_X8_sortSpots_2 LF 0 x
theorem S_X8_sortSpots {g : GC} {d : Nat}  {x : MX} {m : MM} {z : MX} (hd : 2 ≤ d) 
  (hF : f_X8_sortSpots x = some z) : JC g m_X8_sortSpots d 0 0 [.ref 5] (ST x m) (EQ (none) (ST z m)) := by
  refine JC.of (by decide +kernel) (Nat.le_of_ble_eq_true rfl) ?_
  change J g m_X8_sortSpots d 0 0 0 [(0, .ref 5)] [] (ST x m) 0 0 (EQ (none) (ST z m))
  unfold f_X8_sortSpots at hF
  refine J_iconst (v := 0) dX8_sortSpots_0 (by decide) ?_
  refine J_istore_n (L' := [(1, .int 0), (0, .ref 5)]) dX8_sortSpots_1 rfl (by decide) rfl ?_
  refine J_sub [1, 0] rfl ?_
  exact Sf_X8_sortSpots_2 hd _ _ _ _ hF
def B_X8_meanOfLooking_130 (K77 : Int32 → Int32 → Int32 → Int32 → Int32 → Option Int64) (v2 : Int32) (v4 : Int32) (v5 : Int32) (v6 : Int32) (v7 : Int32) (x : MX) : Option Int64 :=
  K77 v2 v4 v5 v6 (v7 + 1)
theorem SB_X8_meanOfLooking_130 {g : GC} {d : Nat} {K77 : Int32 → Int32 → Int32 → Int32 → Int32 → Option Int64} {v2 : Int32} {v4 : Int32} {v5 : Int32} {v6 : Int32} {v7 : Int32} {x : MX} {m : MM} {r : Int64} (hd : 2 ≤ d) (hK77 : ∀ (v2 : Int32) (v4 : Int32) (v5 : Int32) (v6 : Int32) (v7 : Int32) (r : Int64), K77 v2 v4 v5 v6 v7 = some r → J g m_X8_meanOfLooking d 0 0 77 [(0, .ref 5), (2, .int v2), (4, .int v4), (5, .int v5), (6, .int v6), (7, .int v7)] [] (ST x m) 0 0 (EQ (some (.long r)) (ST x m)))
  (hF : B_X8_meanOfLooking_130 K77 v2 v4 v5 v6 v7 x = some r) : J g m_X8_meanOfLooking d 0 0 130 [(0, .ref 5), (2, .int v2), (4, .int v4), (5, .int v5), (6, .int v6), (7, .int v7)] [] (ST x m) 0 0 (EQ (some (.long r)) (ST x m)) := by
  unfold B_X8_meanOfLooking_130 at hF
  refine J_iinc (j := 5) (v := v7 + 1) (L' := [(7, .int (v7 + 1)), (0, .ref 5), (2, .int v2), (4, .int v4), (5, .int v5), (6, .int v6)]) dX8_meanOfLooking_130 rfl rfl (by decide) rfl ?_
  refine J_goto (tgt := 77) dX8_meanOfLooking_133 (by decide) ?_
  refine J_sub [1, 2, 3, 4, 5, 0] rfl ?_
  exact hK77 _ _ _ _ _ _  hF
def B_X8_meanOfLooking_77 (K77 : Int32 → Int32 → Int32 → Int32 → Int32 → Option Int64) (v2 : Int32) (v4 : Int32) (v5 : Int32) (v6 : Int32) (v7 : Int32) (x : MX) : Option Int64 :=
  if (xi x 5 14) ≤ v7 then
  ob (f_X8_inLowestTerms (Int32.toInt64 v6) (Int32.toInt64 v5) v2) (fun r3 =>
  some r3)
  else
  if inb v7 8 = true then
  if ((v4 >>> (v7 &&& 31)) &&& 1) = 0 then
  letx (v6 + ((xi x 18 (ix v7)) * 999)) (fun y7 =>
  B_X8_meanOfLooking_130 K77 v2 v4 (v5 + (xi x 18 (ix v7))) y7 v7 x)
  else
  B_X8_meanOfLooking_130 K77 v2 v4 (v5 + (xi x 18 (ix v7))) v6 v7 x
  else none
theorem SB_X8_meanOfLooking_77 {g : GC} {d : Nat} {K77 : Int32 → Int32 → Int32 → Int32 → Int32 → Option Int64} {v2 : Int32} {v4 : Int32} {v5 : Int32} {v6 : Int32} {v7 : Int32} {x : MX} {m : MM} {r : Int64} (hd : 2 ≤ d) (hK77 : ∀ (v2 : Int32) (v4 : Int32) (v5 : Int32) (v6 : Int32) (v7 : Int32) (r : Int64), K77 v2 v4 v5 v6 v7 = some r → J g m_X8_meanOfLooking d 0 0 77 [(0, .ref 5), (2, .int v2), (4, .int v4), (5, .int v5), (6, .int v6), (7, .int v7)] [] (ST x m) 0 0 (EQ (some (.long r)) (ST x m)))
  (hF : B_X8_meanOfLooking_77 K77 v2 v4 v5 v6 v7 x = some r) : J g m_X8_meanOfLooking d 0 0 77 [(0, .ref 5), (2, .int v2), (4, .int v4), (5, .int v5), (6, .int v6), (7, .int v7)] [] (ST x m) 0 0 (EQ (some (.long r)) (ST x m)) := by
  unfold B_X8_meanOfLooking_77 at hF
  refine J_iload (j := 5) dX8_meanOfLooking_77 rfl ?_
  refine J_aload_n (j := 0) dX8_meanOfLooking_79 rfl rfl ?_
  refine JX_getI fl_WithOneHand_106_7 dX8_meanOfLooking_80 c_5 rfl ?_
  refine J_icmp_ge (tgt := 136) dX8_meanOfLooking_83 (by decide) (fun q2 => ?_) (fun q2 => ?_)
  · rw [if_pos q2] at hF
    refine J_iload (j := 4) dX8_meanOfLooking_136 rfl ?_
    refine J_i2l dX8_meanOfLooking_138 ?_
    refine J_iload (j := 3) dX8_meanOfLooking_139 rfl ?_
    refine J_i2l dX8_meanOfLooking_141 ?_
    refine J_iload_n (j := 1) dX8_meanOfLooking_142 rfl rfl ?_
    obtain ⟨r3, h4, hF⟩ := ob_some hF
    refine J_callSl (As := [.long (Int32.toInt64 v6), .long (Int32.toInt64 v5), .int v2]) (S := []) lkS_WithOneHand_184_X8_inLowestTerms dX8_meanOfLooking_143 (S_X8_inLowestTerms (by omega) h4) (by omega) rfl rfl (Nat.le_of_ble_eq_true rfl) rfl ?_
    have e_r := Option.some.inj hF
    subst e_r
    exact J_lreturn rfl dX8_meanOfLooking_146 ⟨rfl, rfl⟩
  · rw [if_neg q2] at hF
    refine J_iload (j := 3) dX8_meanOfLooking_86 rfl ?_
    refine J_aload_n (j := 0) dX8_meanOfLooking_88 rfl rfl ?_
    refine JX_getR (r := 6) fl_WithOneHand_11_7 dX8_meanOfLooking_89 c_5 rfl rfl ?_
    refine J_bipush (v := 11) dX8_meanOfLooking_92 (by decide) ?_
    refine JX_aald (j := 11) (r := 18) (by decide) dX8_meanOfLooking_94 c_6 (by unfold vp_in; decide) (by decide) rfl ?_
    refine J_iload (j := 5) dX8_meanOfLooking_95 rfl ?_
    obtain ⟨b5, hF⟩ := chk hF
    refine JX_iald (j := ix v7) dX8_meanOfLooking_97 c_18 (inb_vp b5) rfl ?_
    refine J_iadd dX8_meanOfLooking_98 ?_
    refine J_istore (L' := [(5, .int (v5 + (xi x 18 (ix v7)))), (0, .ref 5), (2, .int v2), (4, .int v4), (6, .int v6), (7, .int v7)]) dX8_meanOfLooking_99 (by decide) rfl ?_
    refine J_iload (j := 3) dX8_meanOfLooking_101 rfl ?_
    refine J_iload (j := 5) dX8_meanOfLooking_103 rfl ?_
    refine J_ishr dX8_meanOfLooking_105 ?_
    refine J_iconst (v := 1) dX8_meanOfLooking_106 (by decide) ?_
    refine J_iand dX8_meanOfLooking_107 ?_
    refine J_if_ne (tgt := 130) dX8_meanOfLooking_108 (by decide) (fun q6 => ?_) (fun q6 => ?_)
    · rw [if_neg q6] at hF
      refine J_sub [1, 2, 3, 0, 4, 5] rfl ?_
      exact SB_X8_meanOfLooking_130 hd hK77 hF
    · rw [if_pos q6] at hF
      refine J_iload (j := 4) dX8_meanOfLooking_111 rfl ?_
      refine J_aload_n (j := 1) dX8_meanOfLooking_113 rfl rfl ?_
      refine JX_getR (r := 6) fl_WithOneHand_11_7 dX8_meanOfLooking_114 c_5 rfl rfl ?_
      refine J_bipush (v := 11) dX8_meanOfLooking_117 (by decide) ?_
      refine JX_aald (j := 11) (r := 18) (by decide) dX8_meanOfLooking_119 c_6 (by unfold vp_in; decide) (by decide) rfl ?_
      refine J_iload (j := 5) dX8_meanOfLooking_120 rfl ?_
      refine JX_iald (j := ix v7) dX8_meanOfLooking_122 c_18 (inb_vp b5) rfl ?_
      refine J_sipush (v := 999) dX8_meanOfLooking_123 (by decide) ?_
      refine J_imul dX8_meanOfLooking_126 ?_
      refine J_iadd dX8_meanOfLooking_127 ?_
      obtain ⟨y7, e_y7, hF⟩ := letx_eq hF
      rw [← e_y7]
      refine J_istore (L' := [(6, .int y7), (5, .int (v5 + (xi x 18 (ix v7)))), (0, .ref 5), (2, .int v2), (4, .int v4), (7, .int v7)]) dX8_meanOfLooking_128 (by decide) rfl ?_
      refine J_sub [2, 3, 4, 1, 0, 5] rfl ?_
      exact SB_X8_meanOfLooking_130 hd hK77 hF
def f_X8_meanOfLooking_77 (x : MX) : Nat → Int32 → Int32 → Int32 → Int32 → Int32 → Option Int64
  | 0 => fun _ _ _ _ _ => none
  | n + 1 => fun v2 v4 v5 v6 v7 => B_X8_meanOfLooking_77 (f_X8_meanOfLooking_77 x n) v2 v4 v5 v6 v7 x
theorem Sf_X8_meanOfLooking_77 {g : GC} {d : Nat} {x : MX} {m : MM} (hd : 2 ≤ d)  : ∀ (n : Nat) (v2 : Int32) (v4 : Int32) (v5 : Int32) (v6 : Int32) (v7 : Int32) (r : Int64), f_X8_meanOfLooking_77 x n v2 v4 v5 v6 v7 = some r → J g m_X8_meanOfLooking d 0 0 77 [(0, .ref 5), (2, .int v2), (4, .int v4), (5, .int v5), (6, .int v6), (7, .int v7)] [] (ST x m) 0 0 (EQ (some (.long r)) (ST x m)) := by
  intro n
  induction n with
  | zero => intro v2 v4 v5 v6 v7 r  hF; exact absurd hF (fun q => by cases q)
  | succ n ih =>
    intro v2 v4 v5 v6 v7 r  hF
    exact SB_X8_meanOfLooking_77 hd (fun v2 v4 v5 v6 v7 r  hF => ih v2 v4 v5 v6 v7 r  hF) hF
def B_X8_meanOfLooking_14 (K14 : Int32 → Int32 → Int32 → Int32 → Int32 → Int32 → Int32 → Option Int64) (v1 : Int32) (v2 : Int32) (v3 : Int32) (v4 : Int32) (v5 : Int32) (v6 : Int32) (v7 : Int32) (x : MX) : Option Int64 :=
  if v1 ≤ v7 then
  f_X8_meanOfLooking_77 x LF v2 v4 v5 v6 0
  else
  if inb v7 8 = true then
  if inb (xi x 55 (ix v7)) 8 = true then
  letx (v3 + (xi x 19 (ix (xi x 55 (ix v7))))) (fun y10 =>
  letx (v6 + ((xi x 18 (ix (xi x 55 (ix v7)))) * y10)) (fun y11 =>
  letx (v4 ||| ((1 : Int32) <<< ((xi x 55 (ix v7)) &&& 31))) (fun y12 =>
  K14 v1 v2 y10 y12 v5 y11 (v7 + 1))))
  else none
  else none
theorem SB_X8_meanOfLooking_14 {g : GC} {d : Nat} {K14 : Int32 → Int32 → Int32 → Int32 → Int32 → Int32 → Int32 → Option Int64} {v1 : Int32} {v2 : Int32} {v3 : Int32} {v4 : Int32} {v5 : Int32} {v6 : Int32} {v7 : Int32} {x : MX} {m : MM} {r : Int64} (hd : 2 ≤ d) (hK14 : ∀ (v1 : Int32) (v2 : Int32) (v3 : Int32) (v4 : Int32) (v5 : Int32) (v6 : Int32) (v7 : Int32) (r : Int64), K14 v1 v2 v3 v4 v5 v6 v7 = some r → J g m_X8_meanOfLooking d 0 0 14 [(0, .ref 5), (1, .int v1), (2, .int v2), (3, .int v3), (4, .int v4), (5, .int v5), (6, .int v6), (7, .int v7)] [] (ST x m) 0 0 (EQ (some (.long r)) (ST x m)))
  (hF : B_X8_meanOfLooking_14 K14 v1 v2 v3 v4 v5 v6 v7 x = some r) : J g m_X8_meanOfLooking d 0 0 14 [(0, .ref 5), (1, .int v1), (2, .int v2), (3, .int v3), (4, .int v4), (5, .int v5), (6, .int v6), (7, .int v7)] [] (ST x m) 0 0 (EQ (some (.long r)) (ST x m)) := by
  unfold B_X8_meanOfLooking_14 at hF
  refine J_iload (j := 7) dX8_meanOfLooking_14 rfl ?_
  refine J_iload_n (j := 1) dX8_meanOfLooking_16 rfl rfl ?_
  refine J_icmp_ge (tgt := 74) dX8_meanOfLooking_17 (by decide) (fun q1 => ?_) (fun q1 => ?_)
  · rw [if_pos q1] at hF
    refine J_iconst (v := 0) dX8_meanOfLooking_74 (by decide) ?_
    refine J_istore (L' := [(7, .int 0), (0, .ref 5), (1, .int v1), (2, .int v2), (3, .int v3), (4, .int v4), (5, .int v5), (6, .int v6)]) dX8_meanOfLooking_75 (by decide) rfl ?_
    refine J_sub [1, 3, 5, 6, 7, 0] rfl ?_
    exact Sf_X8_meanOfLooking_77 hd _ _ _ _ _ _ _ hF
  · rw [if_neg q1] at hF
    refine J_aload_n (j := 0) dX8_meanOfLooking_20 rfl rfl ?_
    refine JX_getR (r := 55) fl_WithOneHand_62_7 dX8_meanOfLooking_21 c_5 rfl rfl ?_
    refine J_iload (j := 7) dX8_meanOfLooking_24 rfl ?_
    obtain ⟨b8, hF⟩ := chk hF
    refine JX_iald (j := ix v7) dX8_meanOfLooking_26 c_55 (inb_vp b8) rfl ?_
    refine J_istore (L' := [(8, .int (xi x 55 (ix v7))), (0, .ref 5), (1, .int v1), (2, .int v2), (3, .int v3), (4, .int v4), (5, .int v5), (6, .int v6), (7, .int v7)]) dX8_meanOfLooking_27 (by decide) rfl ?_
    refine J_iload_n (j := 4) dX8_meanOfLooking_29 rfl rfl ?_
    refine J_aload_n (j := 1) dX8_meanOfLooking_30 rfl rfl ?_
    refine JX_getR (r := 6) fl_WithOneHand_11_7 dX8_meanOfLooking_31 c_5 rfl rfl ?_
    refine J_bipush (v := 12) dX8_meanOfLooking_34 (by decide) ?_
    refine JX_aald (j := 12) (r := 19) (by decide) dX8_meanOfLooking_36 c_6 (by unfold vp_in; decide) (by decide) rfl ?_
    refine J_iload (j := 0) dX8_meanOfLooking_37 rfl ?_
    obtain ⟨b9, hF⟩ := chk hF
    refine JX_iald (j := ix (xi x 55 (ix v7))) dX8_meanOfLooking_39 c_19 (inb_vp b9) rfl ?_
    refine J_iadd dX8_meanOfLooking_40 ?_
    obtain ⟨y10, e_y10, hF⟩ := letx_eq hF
    rw [← e_y10]
    refine J_istore_n (L' := [(3, .int y10), (8, .int (xi x 55 (ix v7))), (0, .ref 5), (1, .int v1), (2, .int v2), (4, .int v4), (5, .int v5), (6, .int v6), (7, .int v7)]) dX8_meanOfLooking_41 rfl (by decide) rfl ?_
    refine J_iload (j := 7) dX8_meanOfLooking_42 rfl ?_
    refine J_aload_n (j := 2) dX8_meanOfLooking_44 rfl rfl ?_
    refine JX_getR (r := 6) fl_WithOneHand_11_7 dX8_meanOfLooking_45 c_5 rfl rfl ?_
    refine J_bipush (v := 11) dX8_meanOfLooking_48 (by decide) ?_
    refine JX_aald (j := 11) (r := 18) (by decide) dX8_meanOfLooking_50 c_6 (by unfold vp_in; decide) (by decide) rfl ?_
    refine J_iload (j := 1) dX8_meanOfLooking_51 rfl ?_
    refine JX_iald (j := ix (xi x 55 (ix v7))) dX8_meanOfLooking_53 c_18 (inb_vp b9) rfl ?_
    refine J_iload_n (j := 0) dX8_meanOfLooking_54 rfl rfl ?_
    refine J_imul dX8_meanOfLooking_55 ?_
    refine J_iadd dX8_meanOfLooking_56 ?_
    obtain ⟨y11, e_y11, hF⟩ := letx_eq hF
    rw [← e_y11]
    refine J_istore (L' := [(6, .int y11), (3, .int y10), (8, .int (xi x 55 (ix v7))), (0, .ref 5), (1, .int v1), (2, .int v2), (4, .int v4), (5, .int v5), (7, .int v7)]) dX8_meanOfLooking_57 (by decide) rfl ?_
    refine J_iload (j := 6) dX8_meanOfLooking_59 rfl ?_
    refine J_iconst (v := 1) dX8_meanOfLooking_61 (by decide) ?_
    refine J_iload (j := 2) dX8_meanOfLooking_62 rfl ?_
    refine J_ishl dX8_meanOfLooking_64 ?_
    refine J_ior dX8_meanOfLooking_65 ?_
    obtain ⟨y12, e_y12, hF⟩ := letx_eq hF
    rw [← e_y12]
    refine J_istore (L' := [(4, .int y12), (6, .int y11), (3, .int y10), (8, .int (xi x 55 (ix v7))), (0, .ref 5), (1, .int v1), (2, .int v2), (5, .int v5), (7, .int v7)]) dX8_meanOfLooking_66 (by decide) rfl ?_
    refine J_iinc (j := 8) (v := v7 + 1) (L' := [(7, .int (v7 + 1)), (4, .int y12), (6, .int y11), (3, .int y10), (8, .int (xi x 55 (ix v7))), (0, .ref 5), (1, .int v1), (2, .int v2), (5, .int v5)]) dX8_meanOfLooking_68 rfl rfl (by decide) rfl ?_
    refine J_goto (tgt := 14) dX8_meanOfLooking_71 (by decide) ?_
    refine J_sub [5, 6, 7, 3, 1, 8, 2, 0] rfl ?_
    exact hK14 _ _ _ _ _ _ _ _  hF
def f_X8_meanOfLooking_14 (x : MX) : Nat → Int32 → Int32 → Int32 → Int32 → Int32 → Int32 → Int32 → Option Int64
  | 0 => fun _ _ _ _ _ _ _ => none
  | n + 1 => fun v1 v2 v3 v4 v5 v6 v7 => B_X8_meanOfLooking_14 (f_X8_meanOfLooking_14 x n) v1 v2 v3 v4 v5 v6 v7 x
theorem Sf_X8_meanOfLooking_14 {g : GC} {d : Nat} {x : MX} {m : MM} (hd : 2 ≤ d)  : ∀ (n : Nat) (v1 : Int32) (v2 : Int32) (v3 : Int32) (v4 : Int32) (v5 : Int32) (v6 : Int32) (v7 : Int32) (r : Int64), f_X8_meanOfLooking_14 x n v1 v2 v3 v4 v5 v6 v7 = some r → J g m_X8_meanOfLooking d 0 0 14 [(0, .ref 5), (1, .int v1), (2, .int v2), (3, .int v3), (4, .int v4), (5, .int v5), (6, .int v6), (7, .int v7)] [] (ST x m) 0 0 (EQ (some (.long r)) (ST x m)) := by
  intro n
  induction n with
  | zero => intro v1 v2 v3 v4 v5 v6 v7 r  hF; exact absurd hF (fun q => by cases q)
  | succ n ih =>
    intro v1 v2 v3 v4 v5 v6 v7 r  hF
    exact SB_X8_meanOfLooking_14 hd (fun v1 v2 v3 v4 v5 v6 v7 r  hF => ih v1 v2 v3 v4 v5 v6 v7 r  hF) hF
def f_X8_meanOfLooking (a1 : Int32) (a2 : Int32) (x : MX) : Option Int64 :=
  f_X8_meanOfLooking_14 x LF a1 a2 0 0 0 0 0
theorem S_X8_meanOfLooking {g : GC} {d : Nat} {a1 : Int32} {a2 : Int32} {x : MX} {m : MM} {r : Int64} (hd : 2 ≤ d) 
  (hF : f_X8_meanOfLooking a1 a2 x = some r) : JC g m_X8_meanOfLooking d 0 0 [.ref 5, .int a1, .int a2] (ST x m) (EQ (some (.long r)) (ST x m)) := by
  refine JC.of (by decide +kernel) (Nat.le_of_ble_eq_true rfl) ?_
  change J g m_X8_meanOfLooking d 0 0 0 [(0, .ref 5), (1, .int a1), (2, .int a2)] [] (ST x m) 0 0 (EQ (some (.long r)) (ST x m))
  unfold f_X8_meanOfLooking at hF
  refine J_iconst (v := 0) dX8_meanOfLooking_0 (by decide) ?_
  refine J_istore_n (L' := [(3, .int 0), (0, .ref 5), (1, .int a1), (2, .int a2)]) dX8_meanOfLooking_1 rfl (by decide) rfl ?_
  refine J_iconst (v := 0) dX8_meanOfLooking_2 (by decide) ?_
  refine J_istore (L' := [(4, .int 0), (3, .int 0), (0, .ref 5), (1, .int a1), (2, .int a2)]) dX8_meanOfLooking_3 (by decide) rfl ?_
  refine J_iconst (v := 0) dX8_meanOfLooking_5 (by decide) ?_
  refine J_istore (L' := [(5, .int 0), (4, .int 0), (3, .int 0), (0, .ref 5), (1, .int a1), (2, .int a2)]) dX8_meanOfLooking_6 (by decide) rfl ?_
  refine J_iconst (v := 0) dX8_meanOfLooking_8 (by decide) ?_
  refine J_istore (L' := [(6, .int 0), (5, .int 0), (4, .int 0), (3, .int 0), (0, .ref 5), (1, .int a1), (2, .int a2)]) dX8_meanOfLooking_9 (by decide) rfl ?_
  refine J_iconst (v := 0) dX8_meanOfLooking_11 (by decide) ?_
  refine J_istore (L' := [(7, .int 0), (6, .int 0), (5, .int 0), (4, .int 0), (3, .int 0), (0, .ref 5), (1, .int a1), (2, .int a2)]) dX8_meanOfLooking_12 (by decide) rfl ?_
  refine J_sub [5, 6, 7, 4, 3, 2, 1, 0] rfl ?_
  exact Sf_X8_meanOfLooking_14 hd _ _ _ _ _ _ _ _ _ hF
