def B_X9_given_5 (K5 : MM → Option (Int32 × MM)) (m : MM) : Option (Int32 × MM) :=
  if (mi m 80 6) ≤ (mi m 80 30) then
  some (0, m)
  else
  ob2 (f_X9_takesE m) (fun r3 m4 =>
  ob2 (f_X9_isSeen 63 m4) (fun r6 m7 =>
  if r6 = true then
  ob2 (f_X9_takesE m7) (fun r10 m11 =>
  if r3 = 0 then
  letx (ms m11 80 30 ((mi m11 80 30) + 1)) (fun m14 =>
  K5 m14)
  else
  some (r10, m11))
  else
  some (r3, m7)))
theorem SB_X9_given_5 {g : GC} {d : Nat} {K5 : MM → Option (Int32 × MM)} {x : MX} {m : MM} {r : Int32} {z : MM} (hd : 104 ≤ d) (hK5 : ∀  (m : MM) (r : Int32) (z : MM), K5 m = some (r, z) → J g m_X9_given d 0 0 5 [(0, .ref 80)] [] (ST x m) 0 0 (EQ (some (.int r)) (ST x z)))
  (hF : B_X9_given_5 K5 m = some (r, z)) : J g m_X9_given d 0 0 5 [(0, .ref 80)] [] (ST x m) 0 0 (EQ (some (.int r)) (ST x z)) := by
  unfold B_X9_given_5 at hF
  refine J_aload_n (j := 0) dX9_given_5 rfl rfl ?_
  refine JM_getI fl_WithOneHandModel_171_8 dX9_given_6 c_80 rfl ?_
  refine J_aload_n (j := 0) dX9_given_9 rfl rfl ?_
  refine JM_getI fl_WithOneHandModel_216_8 dX9_given_10 c_80 rfl ?_
  refine J_icmp_ge (tgt := 56) dX9_given_13 (by decide) (fun q2 => ?_) (fun q2 => ?_)
  · rw [if_pos q2] at hF
    refine J_iconst (v := 0) dX9_given_56 (by decide) ?_
    obtain ⟨e_r, e_z⟩ := someP hF
    subst e_r
    subst e_z
    exact J_ireturn rfl rfl dX9_given_57 ⟨rfl, rfl⟩
  · rw [if_neg q2] at hF
    refine J_aload_n (j := 0) dX9_given_16 rfl rfl ?_
    obtain ⟨r3, m4, h5, hF⟩ := ob2_some hF
    refine JM_callVi (As := []) (S := []) lkV_WithOneHandModel_232_X9_takesE rfl (by decide) dX9_given_17 c_80 (S_X9_takesE (by omega) h5) (by omega) rfl rfl (Nat.le_of_ble_eq_true rfl) rfl ?_
    refine J_istore_n (L' := [(1, .int r3), (0, .ref 80)]) dX9_given_20 rfl (by decide) rfl ?_
    refine J_aload_n (j := 1) dX9_given_21 rfl rfl ?_
    refine J_bipush (v := 63) dX9_given_22 (by decide) ?_
    obtain ⟨r6, m7, h8, hF⟩ := ob2_some hF
    refine JM_callVi (As := [.int 63]) (S := []) lkV_WithOneHandModel_235_X9_isSeen rfl (by decide) dX9_given_24 c_80 (S_X9_isSeen (by omega) h8) (by omega) rfl rfl (Nat.le_of_ble_eq_true rfl) rfl ?_
    refine J_ifb_ne (tgt := 32) dX9_given_27 (by decide) (fun q9 => ?_) (fun q9 => ?_)
    · rw [if_pos q9] at hF
      refine J_aload_n (j := 1) dX9_given_32 rfl rfl ?_
      obtain ⟨r10, m11, h12, hF⟩ := ob2_some hF
      refine JM_callVi (As := []) (S := []) lkV_WithOneHandModel_232_X9_takesE rfl (by decide) dX9_given_33 c_80 (S_X9_takesE (by omega) h12) (by omega) rfl rfl (Nat.le_of_ble_eq_true rfl) rfl ?_
      refine J_istore_n (L' := [(2, .int r10), (1, .int r3), (0, .ref 80)]) dX9_given_36 rfl (by decide) rfl ?_
      refine J_iload_n (j := 1) dX9_given_37 rfl rfl ?_
      refine J_if_eq (tgt := 43) dX9_given_38 (by decide) (fun q13 => ?_) (fun q13 => ?_)
      · rw [if_pos q13] at hF
        refine J_aload_n (j := 2) dX9_given_43 rfl rfl ?_
        refine J_dup dX9_given_44 rfl ?_
        refine JM_getI fl_WithOneHandModel_171_8 dX9_given_45 c_80 rfl ?_
        refine J_iconst (v := 1) dX9_given_48 (by decide) ?_
        refine J_iadd dX9_given_49 ?_
        obtain ⟨m14, e_m14, hF⟩ := letx_eq hF
        refine JM_putI fl_WithOneHandModel_171_8 dX9_given_50 c_80 rfl rfl rfl ?_
        rw [← e_m14]
        refine J_goto (tgt := 5) dX9_given_53 (by decide) ?_
        refine J_sub [2] rfl ?_
        exact hK5 _ _ _  hF
      · rw [if_neg q13] at hF
        refine J_iload_n (j := 0) dX9_given_41 rfl rfl ?_
        obtain ⟨e_r, e_z⟩ := someP hF
        subst e_r
        subst e_z
        exact J_ireturn rfl rfl dX9_given_42 ⟨rfl, rfl⟩
    · rw [if_neg q9] at hF
      refine J_iload_n (j := 0) dX9_given_30 rfl rfl ?_
      obtain ⟨e_r, e_z⟩ := someP hF
      subst e_r
      subst e_z
      exact J_ireturn rfl rfl dX9_given_31 ⟨rfl, rfl⟩
def f_X9_given_5  : Nat → MM → Option (Int32 × MM)
  | 0 => fun _ => none
  | n + 1 => fun  m => B_X9_given_5 (f_X9_given_5  n)  m
theorem Sf_X9_given_5 {g : GC} {d : Nat} {x : MX} (hd : 104 ≤ d)  : ∀ (n : Nat)  (m : MM) (r : Int32) (z : MM), f_X9_given_5  n  m = some (r, z) → J g m_X9_given d 0 0 5 [(0, .ref 80)] [] (ST x m) 0 0 (EQ (some (.int r)) (ST x z)) := by
  intro n
  induction n with
  | zero => intro m r z  hF; exact absurd hF (fun q => by cases q)
  | succ n ih =>
    intro m r z  hF
    exact SB_X9_given_5 hd (fun m r z  hF => ih m r z  hF) hF
def f_X9_given (m : MM) : Option (Int32 × MM) :=
  letx (ms m 80 30 0) (fun m1 =>
  f_X9_given_5 LF m1)
theorem S_X9_given {g : GC} {d : Nat}  {x : MX} {m : MM} {r : Int32} {z : MM} (hd : 104 ≤ d) 
  (hF : f_X9_given m = some (r, z)) : JC g m_X9_given d 0 0 [.ref 80] (ST x m) (EQ (some (.int r)) (ST x z)) := by
  refine JC.of (by decide +kernel) (Nat.le_of_ble_eq_true rfl) ?_
  change J g m_X9_given d 0 0 0 [(0, .ref 80)] [] (ST x m) 0 0 (EQ (some (.int r)) (ST x z))
  unfold f_X9_given at hF
  refine J_aload_n (j := 0) dX9_given_0 rfl rfl ?_
  refine J_iconst (v := 0) dX9_given_1 (by decide) ?_
  obtain ⟨m1, e_m1, hF⟩ := letx_eq hF
  refine JM_putI fl_WithOneHandModel_171_8 dX9_given_2 c_80 rfl rfl rfl ?_
  rw [← e_m1]
  exact Sf_X9_given_5 hd _ _ _ _ hF
def B_X9_takesSo_130 (v6 : Int32) (m : MM) : Option (Int32 × MM) :=
  if 1 ≤ v6 then
  if v6 ≤ 999 then
  some (v6, m)
  else
  some (999, m)
  else
  some (1, m)
theorem SB_X9_takesSo_130 {g : GC} {d : Nat} {v6 : Int32} {x : MX} {m : MM} {r : Int32} {z : MM} (hd : 105 ≤ d) 
  (hF : B_X9_takesSo_130 v6 m = some (r, z)) : J g m_X9_takesSo d 0 0 130 [(6, .int v6)] [] (ST x m) 0 0 (EQ (some (.int r)) (ST x z)) := by
  unfold B_X9_takesSo_130 at hF
  refine J_iload (j := 0) dX9_takesSo_130 rfl ?_
  refine J_iconst (v := 1) dX9_takesSo_132 (by decide) ?_
  refine J_icmp_ge (tgt := 140) dX9_takesSo_133 (by decide) (fun q6 => ?_) (fun q6 => ?_)
  · rw [if_pos q6] at hF
    refine J_iload (j := 0) dX9_takesSo_140 rfl ?_
    refine J_sipush (v := 999) dX9_takesSo_142 (by decide) ?_
    refine J_icmp_le (tgt := 154) dX9_takesSo_145 (by decide) (fun q7 => ?_) (fun q7 => ?_)
    · rw [if_pos q7] at hF
      refine J_iload (j := 0) dX9_takesSo_154 rfl ?_
      obtain ⟨e_r, e_z⟩ := someP hF
      subst e_r
      subst e_z
      exact J_ireturn rfl rfl dX9_takesSo_156 ⟨rfl, rfl⟩
    · rw [if_neg q7] at hF
      refine J_sipush (v := 999) dX9_takesSo_148 (by decide) ?_
      refine J_goto (tgt := 156) dX9_takesSo_151 (by decide) ?_
      obtain ⟨e_r, e_z⟩ := someP hF
      subst e_r
      subst e_z
      exact J_ireturn rfl rfl dX9_takesSo_156 ⟨rfl, rfl⟩
  · rw [if_neg q6] at hF
    refine J_iconst (v := 1) dX9_takesSo_136 (by decide) ?_
    refine J_goto (tgt := 156) dX9_takesSo_137 (by decide) ?_
    obtain ⟨e_r, e_z⟩ := someP hF
    subst e_r
    subst e_z
    exact J_ireturn rfl rfl dX9_takesSo_156 ⟨rfl, rfl⟩
def B_X9_takesSo_32 (v2 : Int32) (v3 : Int32) (v4 : Int32) (v5 : Int32) (t0 : Int32) (m : MM) : Option (Int32 × MM) :=
  if (mi m 80 9) = 0 then
  if inb v2 6 = true then
  letx (((((10 - v3) * t0) + v5) + (2 * (mi m 84 (ix v2)))) - v4) (fun y5 =>
  B_X9_takesSo_130 y5 m)
  else none
  else
  letx (ms m 99 104 v3) (fun m8 =>
  letx (ms m8 99 108 t0) (fun m9 =>
  if inb v2 6 = true then
  letx (ms m9 99 111 (mi m9 84 (ix v2))) (fun m11 =>
  letx (ms m11 99 115 v5) (fun m12 =>
  letx (ms m12 99 110 v4) (fun m13 =>
  letx (ms m13 99 99 v2) (fun m14 =>
  ob2 (f_X9_given m14) (fun r15 m16 =>
  B_X9_takesSo_130 r15 m16)))))
  else none))
theorem SB_X9_takesSo_32 {g : GC} {d : Nat} {v2 : Int32} {v3 : Int32} {v4 : Int32} {v5 : Int32} {t0 : Int32} {x : MX} {m : MM} {r : Int32} {z : MM} (hd : 105 ≤ d) 
  (hF : B_X9_takesSo_32 v2 v3 v4 v5 t0 m = some (r, z)) : J g m_X9_takesSo d 0 0 32 [(0, .ref 80), (2, .int v2), (3, .int v3), (4, .int v4), (5, .int v5)] [.int t0] (ST x m) 0 0 (EQ (some (.int r)) (ST x z)) := by
  unfold B_X9_takesSo_32 at hF
  refine J_istore (L' := [(7, .int t0), (0, .ref 80), (2, .int v2), (3, .int v3), (4, .int v4), (5, .int v5)]) dX9_takesSo_32 (by decide) rfl ?_
  refine J_aload_n (j := 1) dX9_takesSo_34 rfl rfl ?_
  refine JM_getI fl_WithOneHandModel_219_8 dX9_takesSo_35 c_80 rfl ?_
  refine J_if_eq (tgt := 106) dX9_takesSo_38 (by decide) (fun q3 => ?_) (fun q3 => ?_)
  · rw [if_pos q3] at hF
    refine J_bipush (v := 10) dX9_takesSo_106 (by decide) ?_
    refine J_iload_n (j := 3) dX9_takesSo_108 rfl rfl ?_
    refine J_isub dX9_takesSo_109 ?_
    refine J_iload (j := 0) dX9_takesSo_110 rfl ?_
    refine J_imul dX9_takesSo_112 ?_
    refine J_iload (j := 5) dX9_takesSo_113 rfl ?_
    refine J_iadd dX9_takesSo_115 ?_
    refine J_iconst (v := 2) dX9_takesSo_116 (by decide) ?_
    refine J_aload_n (j := 1) dX9_takesSo_117 rfl rfl ?_
    refine JM_getR (r := 84) fl_WithOneHandModel_23_8 dX9_takesSo_118 c_80 rfl rfl ?_
    refine J_iload_n (j := 2) dX9_takesSo_121 rfl rfl ?_
    obtain ⟨b4, hF⟩ := chk hF
    refine JM_iald (j := ix v2) dX9_takesSo_122 c_84 (inb_vp b4) rfl ?_
    refine J_imul dX9_takesSo_123 ?_
    refine J_iadd dX9_takesSo_124 ?_
    refine J_iload (j := 4) dX9_takesSo_125 rfl ?_
    refine J_isub dX9_takesSo_127 ?_
    obtain ⟨y5, e_y5, hF⟩ := letx_eq hF
    rw [← e_y5]
    refine J_istore (L' := [(6, .int y5), (7, .int t0), (0, .ref 80), (2, .int v2), (3, .int v3), (4, .int v4), (5, .int v5)]) dX9_takesSo_128 (by decide) rfl ?_
    refine J_sub [0] rfl ?_
    exact SB_X9_takesSo_130 hd hF
  · rw [if_neg q3] at hF
    refine J_aload_n (j := 1) dX9_takesSo_41 rfl rfl ?_
    refine JM_getR (r := 99) fl_WithOneHandModel_68_8 dX9_takesSo_42 c_80 rfl rfl ?_
    refine J_bipush (v := 104) dX9_takesSo_45 (by decide) ?_
    refine J_iload_n (j := 3) dX9_takesSo_47 rfl rfl ?_
    obtain ⟨m8, e_m8, hF⟩ := letx_eq hF
    refine JM_iast (j := 104) dX9_takesSo_48 c_99 (by unfold vp_in; decide) (by decide) ?_
    rw [← e_m8]
    refine J_aload_n (j := 1) dX9_takesSo_49 rfl rfl ?_
    refine JM_getR (r := 99) fl_WithOneHandModel_68_8 dX9_takesSo_50 c_80 rfl rfl ?_
    refine J_bipush (v := 108) dX9_takesSo_53 (by decide) ?_
    refine J_iload (j := 0) dX9_takesSo_55 rfl ?_
    obtain ⟨m9, e_m9, hF⟩ := letx_eq hF
    refine JM_iast (j := 108) dX9_takesSo_57 c_99 (by unfold vp_in; decide) (by decide) ?_
    rw [← e_m9]
    refine J_aload_n (j := 1) dX9_takesSo_58 rfl rfl ?_
    refine JM_getR (r := 99) fl_WithOneHandModel_68_8 dX9_takesSo_59 c_80 rfl rfl ?_
    refine J_bipush (v := 111) dX9_takesSo_62 (by decide) ?_
    refine J_aload_n (j := 1) dX9_takesSo_64 rfl rfl ?_
    refine JM_getR (r := 84) fl_WithOneHandModel_23_8 dX9_takesSo_65 c_80 rfl rfl ?_
    refine J_iload_n (j := 2) dX9_takesSo_68 rfl rfl ?_
    obtain ⟨b10, hF⟩ := chk hF
    refine JM_iald (j := ix v2) dX9_takesSo_69 c_84 (inb_vp b10) rfl ?_
    obtain ⟨m11, e_m11, hF⟩ := letx_eq hF
    refine JM_iast (j := 111) dX9_takesSo_70 c_99 (by unfold vp_in; decide) (by decide) ?_
    rw [← e_m11]
    refine J_aload_n (j := 1) dX9_takesSo_71 rfl rfl ?_
    refine JM_getR (r := 99) fl_WithOneHandModel_68_8 dX9_takesSo_72 c_80 rfl rfl ?_
    refine J_bipush (v := 115) dX9_takesSo_75 (by decide) ?_
    refine J_iload (j := 5) dX9_takesSo_77 rfl ?_
    obtain ⟨m12, e_m12, hF⟩ := letx_eq hF
    refine JM_iast (j := 115) dX9_takesSo_79 c_99 (by unfold vp_in; decide) (by decide) ?_
    rw [← e_m12]
    refine J_aload_n (j := 1) dX9_takesSo_80 rfl rfl ?_
    refine JM_getR (r := 99) fl_WithOneHandModel_68_8 dX9_takesSo_81 c_80 rfl rfl ?_
    refine J_bipush (v := 110) dX9_takesSo_84 (by decide) ?_
    refine J_iload (j := 4) dX9_takesSo_86 rfl ?_
    obtain ⟨m13, e_m13, hF⟩ := letx_eq hF
    refine JM_iast (j := 110) dX9_takesSo_88 c_99 (by unfold vp_in; decide) (by decide) ?_
    rw [← e_m13]
    refine J_aload_n (j := 1) dX9_takesSo_89 rfl rfl ?_
    refine JM_getR (r := 99) fl_WithOneHandModel_68_8 dX9_takesSo_90 c_80 rfl rfl ?_
    refine J_bipush (v := 99) dX9_takesSo_93 (by decide) ?_
    refine J_iload_n (j := 2) dX9_takesSo_95 rfl rfl ?_
    obtain ⟨m14, e_m14, hF⟩ := letx_eq hF
    refine JM_iast (j := 99) dX9_takesSo_96 c_99 (by unfold vp_in; decide) (by decide) ?_
    rw [← e_m14]
    refine J_aload_n (j := 1) dX9_takesSo_97 rfl rfl ?_
    obtain ⟨r15, m16, h17, hF⟩ := ob2_some hF
    refine JM_callVi (As := []) (S := []) lkV_WithOneHandModel_254_X9_given rfl (by decide) dX9_takesSo_98 c_80 (S_X9_given (by omega) h17) (by omega) rfl rfl (Nat.le_of_ble_eq_true rfl) rfl ?_
    refine J_istore (L' := [(6, .int r15), (7, .int t0), (0, .ref 80), (2, .int v2), (3, .int v3), (4, .int v4), (5, .int v5)]) dX9_takesSo_101 (by decide) rfl ?_
    refine J_goto (tgt := 130) dX9_takesSo_103 (by decide) ?_
    refine J_sub [0] rfl ?_
    exact SB_X9_takesSo_130 hd hF
def f_X9_takesSo (a1 : Int32) (a2 : Int32) (a3 : Int32) (a4 : Int32) (a5 : Int32) (m : MM) : Option (Int32 × MM) :=
  if inb a1 6 = true then
  if (mi m 81 (ix a1)) ≤ (mi m 82 (ix a1)) then
  B_X9_takesSo_32 a2 a3 a4 a5 0 m
  else
  B_X9_takesSo_32 a2 a3 a4 a5 ((mi m 81 (ix a1)) - (mi m 82 (ix a1))) m
  else none
theorem S_X9_takesSo {g : GC} {d : Nat} {a1 : Int32} {a2 : Int32} {a3 : Int32} {a4 : Int32} {a5 : Int32} {x : MX} {m : MM} {r : Int32} {z : MM} (hd : 105 ≤ d) 
  (hF : f_X9_takesSo a1 a2 a3 a4 a5 m = some (r, z)) : JC g m_X9_takesSo d 0 0 [.ref 80, .int a1, .int a2, .int a3, .int a4, .int a5] (ST x m) (EQ (some (.int r)) (ST x z)) := by
  refine JC.of (by decide +kernel) (Nat.le_of_ble_eq_true rfl) ?_
  change J g m_X9_takesSo d 0 0 0 [(0, .ref 80), (1, .int a1), (2, .int a2), (3, .int a3), (4, .int a4), (5, .int a5)] [] (ST x m) 0 0 (EQ (some (.int r)) (ST x z))
  unfold f_X9_takesSo at hF
  refine J_aload_n (j := 0) dX9_takesSo_0 rfl rfl ?_
  refine JM_getR (r := 81) fl_WithOneHandModel_13_8 dX9_takesSo_1 c_80 rfl rfl ?_
  refine J_iload_n (j := 1) dX9_takesSo_4 rfl rfl ?_
  obtain ⟨b1, hF⟩ := chk hF
  refine JM_iald (j := ix a1) dX9_takesSo_5 c_81 (inb_vp b1) rfl ?_
  refine J_aload_n (j := 0) dX9_takesSo_6 rfl rfl ?_
  refine JM_getR (r := 82) fl_WithOneHandModel_17_8 dX9_takesSo_7 c_80 rfl rfl ?_
  refine J_iload_n (j := 1) dX9_takesSo_10 rfl rfl ?_
  refine JM_iald (j := ix a1) dX9_takesSo_11 c_82 (inb_vp b1) rfl ?_
  refine J_icmp_le (tgt := 31) dX9_takesSo_12 (by decide) (fun q2 => ?_) (fun q2 => ?_)
  · rw [if_pos q2] at hF
    refine J_iconst (v := 0) dX9_takesSo_31 (by decide) ?_
    refine J_sub [0, 2, 3, 4, 5] rfl ?_
    exact SB_X9_takesSo_32 hd hF
  · rw [if_neg q2] at hF
    refine J_aload_n (j := 0) dX9_takesSo_15 rfl rfl ?_
    refine JM_getR (r := 81) fl_WithOneHandModel_13_8 dX9_takesSo_16 c_80 rfl rfl ?_
    refine J_iload_n (j := 1) dX9_takesSo_19 rfl rfl ?_
    refine JM_iald (j := ix a1) dX9_takesSo_20 c_81 (inb_vp b1) rfl ?_
    refine J_aload_n (j := 0) dX9_takesSo_21 rfl rfl ?_
    refine JM_getR (r := 82) fl_WithOneHandModel_17_8 dX9_takesSo_22 c_80 rfl rfl ?_
    refine J_iload_n (j := 1) dX9_takesSo_25 rfl rfl ?_
    refine JM_iald (j := ix a1) dX9_takesSo_26 c_82 (inb_vp b1) rfl ?_
    refine J_isub dX9_takesSo_27 ?_
    refine J_goto (tgt := 32) dX9_takesSo_28 (by decide) ?_
    refine J_sub [0, 2, 3, 4, 5] rfl ?_
    exact SB_X9_takesSo_32 hd hF
def f_X9_takes (a1 : Int32) (a2 : Int32) (a3 : Int32) (a4 : Int32) (m : MM) : Option (Int32 × MM) :=
  if inb a2 6 = true then
  ob2 (f_X9_takesSo a1 a2 a3 a4 (mi m 83 (ix a2)) m) (fun r2 m3 =>
  some (r2, m3))
  else none
theorem S_X9_takes {g : GC} {d : Nat} {a1 : Int32} {a2 : Int32} {a3 : Int32} {a4 : Int32} {x : MX} {m : MM} {r : Int32} {z : MM} (hd : 106 ≤ d) 
  (hF : f_X9_takes a1 a2 a3 a4 m = some (r, z)) : JC g m_X9_takes d 0 0 [.ref 80, .int a1, .int a2, .int a3, .int a4] (ST x m) (EQ (some (.int r)) (ST x z)) := by
  refine JC.of (by decide +kernel) (Nat.le_of_ble_eq_true rfl) ?_
  change J g m_X9_takes d 0 0 0 [(0, .ref 80), (1, .int a1), (2, .int a2), (3, .int a3), (4, .int a4)] [] (ST x m) 0 0 (EQ (some (.int r)) (ST x z))
  unfold f_X9_takes at hF
  refine J_aload_n (j := 0) dX9_takes_0 rfl rfl ?_
  refine J_iload_n (j := 1) dX9_takes_1 rfl rfl ?_
  refine J_iload_n (j := 2) dX9_takes_2 rfl rfl ?_
  refine J_iload_n (j := 3) dX9_takes_3 rfl rfl ?_
  refine J_iload (j := 4) dX9_takes_4 rfl ?_
  refine J_aload_n (j := 0) dX9_takes_6 rfl rfl ?_
  refine JM_getR (r := 83) fl_WithOneHandModel_20_8 dX9_takes_7 c_80 rfl rfl ?_
  refine J_iload_n (j := 2) dX9_takes_10 rfl rfl ?_
  obtain ⟨b1, hF⟩ := chk hF
  refine JM_iald (j := ix a2) dX9_takes_11 c_83 (inb_vp b1) rfl ?_
  obtain ⟨r2, m3, h4, hF⟩ := ob2_some hF
  refine JM_callVi (As := [.int a1, .int a2, .int a3, .int a4, .int (mi m 83 (ix a2))]) (S := []) lkV_WithOneHandModel_250_X9_takesSo rfl (by decide) dX9_takes_12 c_80 (S_X9_takesSo (by omega) h4) (by omega) rfl rfl (Nat.le_of_ble_eq_true rfl) rfl ?_
  obtain ⟨e_r, e_z⟩ := someP hF
  subst e_r
  subst e_z
  exact J_ireturn rfl rfl dX9_takes_15 ⟨rfl, rfl⟩
def f_X9_takesNow (a1 : Int32) (a2 : Int32) (m : MM) : Option (Int32 × MM) :=
  if inb a2 6 = true then
  if inb (mi m 85 (ix a2)) 2 = true then
  ob2 (f_X9_takes a1 a2 (mi m 88 (ix (mi m 85 (ix a2)))) (mi m 90 (ix (mi m 85 (ix a2)))) m) (fun r3 m4 =>
  some (r3, m4))
  else none
  else none
theorem S_X9_takesNow {g : GC} {d : Nat} {a1 : Int32} {a2 : Int32} {x : MX} {m : MM} {r : Int32} {z : MM} (hd : 107 ≤ d) 
  (hF : f_X9_takesNow a1 a2 m = some (r, z)) : JC g m_X9_takesNow d 0 0 [.ref 80, .int a1, .int a2] (ST x m) (EQ (some (.int r)) (ST x z)) := by
  refine JC.of (by decide +kernel) (Nat.le_of_ble_eq_true rfl) ?_
  change J g m_X9_takesNow d 0 0 0 [(0, .ref 80), (1, .int a1), (2, .int a2)] [] (ST x m) 0 0 (EQ (some (.int r)) (ST x z))
  unfold f_X9_takesNow at hF
  refine J_aload_n (j := 0) dX9_takesNow_0 rfl rfl ?_
  refine J_iload_n (j := 1) dX9_takesNow_1 rfl rfl ?_
  refine J_iload_n (j := 2) dX9_takesNow_2 rfl rfl ?_
  refine J_aload_n (j := 0) dX9_takesNow_3 rfl rfl ?_
  refine JM_getR (r := 88) fl_WithOneHandModel_35_8 dX9_takesNow_4 c_80 rfl rfl ?_
  refine J_aload_n (j := 0) dX9_takesNow_7 rfl rfl ?_
  refine JM_getR (r := 85) fl_WithOneHandModel_26_8 dX9_takesNow_8 c_80 rfl rfl ?_
  refine J_iload_n (j := 2) dX9_takesNow_11 rfl rfl ?_
  obtain ⟨b1, hF⟩ := chk hF
  refine JM_iald (j := ix a2) dX9_takesNow_12 c_85 (inb_vp b1) rfl ?_
  obtain ⟨b2, hF⟩ := chk hF
  refine JM_iald (j := ix (mi m 85 (ix a2))) dX9_takesNow_13 c_88 (inb_vp b2) rfl ?_
  refine J_aload_n (j := 0) dX9_takesNow_14 rfl rfl ?_
  refine JM_getR (r := 90) fl_WithOneHandModel_41_8 dX9_takesNow_15 c_80 rfl rfl ?_
  refine J_aload_n (j := 0) dX9_takesNow_18 rfl rfl ?_
  refine JM_getR (r := 85) fl_WithOneHandModel_26_8 dX9_takesNow_19 c_80 rfl rfl ?_
  refine J_iload_n (j := 2) dX9_takesNow_22 rfl rfl ?_
  refine JM_iald (j := ix a2) dX9_takesNow_23 c_85 (inb_vp b1) rfl ?_
  refine JM_iald (j := ix (mi m 85 (ix a2))) dX9_takesNow_24 c_90 (inb_vp b2) rfl ?_
  obtain ⟨r3, m4, h5, hF⟩ := ob2_some hF
  refine JM_callVi (As := [.int a1, .int a2, .int (mi m 88 (ix (mi m 85 (ix a2)))), .int (mi m 90 (ix (mi m 85 (ix a2))))]) (S := []) lkV_WithOneHandModel_257_X9_takes rfl (by decide) dX9_takesNow_25 c_80 (S_X9_takes (by omega) h5) (by omega) rfl rfl (Nat.le_of_ble_eq_true rfl) rfl ?_
  obtain ⟨e_r, e_z⟩ := someP hF
  subst e_r
  subst e_z
  exact J_ireturn rfl rfl dX9_takesNow_28 ⟨rfl, rfl⟩
def f_X9_goes (a1 : Int32) (a2 : Int32) (m : MM) : Option Bool :=
  if inb a2 6 = true then
  if inb (1 - (mi m 85 (ix a2))) 2 = true then
  if inb a1 6 = true then
  if ((mi m 86 (ix a2)) + (2 * (mi m 82 (ix a1)))) < (mi m 89 (ix (1 - (mi m 85 (ix a2))))) then
  some false
  else
  some true
  else none
  else none
  else none
theorem S_X9_goes {g : GC} {d : Nat} {a1 : Int32} {a2 : Int32} {x : MX} {m : MM} {r : Bool} (hd : 1 ≤ d) 
  (hF : f_X9_goes a1 a2 m = some r) : JC g m_X9_goes d 0 0 [.ref 80, .int a1, .int a2] (ST x m) (EQ (some (.int (b2i r))) (ST x m)) := by
  refine JC.of (by decide +kernel) (Nat.le_of_ble_eq_true rfl) ?_
  change J g m_X9_goes d 0 0 0 [(0, .ref 80), (1, .int a1), (2, .int a2)] [] (ST x m) 0 0 (EQ (some (.int (b2i r))) (ST x m))
  unfold f_X9_goes at hF
  refine J_aload_n (j := 0) dX9_goes_0 rfl rfl ?_
  refine JM_getR (r := 89) fl_WithOneHandModel_38_8 dX9_goes_1 c_80 rfl rfl ?_
  refine J_iconst (v := 1) dX9_goes_4 (by decide) ?_
  refine J_aload_n (j := 0) dX9_goes_5 rfl rfl ?_
  refine JM_getR (r := 85) fl_WithOneHandModel_26_8 dX9_goes_6 c_80 rfl rfl ?_
  refine J_iload_n (j := 2) dX9_goes_9 rfl rfl ?_
  obtain ⟨b1, hF⟩ := chk hF
  refine JM_iald (j := ix a2) dX9_goes_10 c_85 (inb_vp b1) rfl ?_
  refine J_isub dX9_goes_11 ?_
  obtain ⟨b2, hF⟩ := chk hF
  refine JM_iald (j := ix (1 - (mi m 85 (ix a2)))) dX9_goes_12 c_89 (inb_vp b2) rfl ?_
  refine J_aload_n (j := 0) dX9_goes_13 rfl rfl ?_
  refine JM_getR (r := 86) fl_WithOneHandModel_29_8 dX9_goes_14 c_80 rfl rfl ?_
  refine J_iload_n (j := 2) dX9_goes_17 rfl rfl ?_
  refine JM_iald (j := ix a2) dX9_goes_18 c_86 (inb_vp b1) rfl ?_
  refine J_iconst (v := 2) dX9_goes_19 (by decide) ?_
  refine J_aload_n (j := 0) dX9_goes_20 rfl rfl ?_
  refine JM_getR (r := 82) fl_WithOneHandModel_17_8 dX9_goes_21 c_80 rfl rfl ?_
  refine J_iload_n (j := 1) dX9_goes_24 rfl rfl ?_
  obtain ⟨b3, hF⟩ := chk hF
  refine JM_iald (j := ix a1) dX9_goes_25 c_82 (inb_vp b3) rfl ?_
  refine J_imul dX9_goes_26 ?_
  refine J_iadd dX9_goes_27 ?_
  refine J_icmp_gt (tgt := 35) dX9_goes_28 (by decide) (fun q4 => ?_) (fun q4 => ?_)
  · rw [if_pos q4] at hF
    refine J_iconst (v := 0) dX9_goes_35 (by decide) ?_
    have e_r := Option.some.inj hF
    subst e_r
    exact J_ireturn rfl rfl dX9_goes_36 ⟨rfl, rfl⟩
  · rw [if_neg q4] at hF
    refine J_iconst (v := 1) dX9_goes_31 (by decide) ?_
    refine J_goto (tgt := 36) dX9_goes_32 (by decide) ?_
    have e_r := Option.some.inj hF
    subst e_r
    exact J_ireturn rfl rfl dX9_goes_36 ⟨rfl, rfl⟩
def B_X9_ahead_20 (v1 : Int32) (v2 : Int32) (t0 : Int32) (m : MM) : Option (Int32 × MM) :=
  if inb t0 2 = true then
  ob2 (f_X9_takes v1 v2 (mi m 88 (ix t0)) (mi m 90 (ix t0)) m) (fun r3 m4 =>
  if 1 ≤ (r3 / 2) then
  some (r3 / 2, m4)
  else
  some (1, m4))
  else none
theorem SB_X9_ahead_20 {g : GC} {d : Nat} {v1 : Int32} {v2 : Int32} {t0 : Int32} {x : MX} {m : MM} {r : Int32} {z : MM} (hd : 107 ≤ d) 
  (hF : B_X9_ahead_20 v1 v2 t0 m = some (r, z)) : J g m_X9_ahead d 0 0 20 [(0, .ref 80), (1, .int v1), (2, .int v2)] [.int t0] (ST x m) 0 0 (EQ (some (.int r)) (ST x z)) := by
  unfold B_X9_ahead_20 at hF
  refine J_istore_n (L' := [(3, .int t0), (0, .ref 80), (1, .int v1), (2, .int v2)]) dX9_ahead_20 rfl (by decide) rfl ?_
  refine J_aload_n (j := 1) dX9_ahead_21 rfl rfl ?_
  refine J_iload_n (j := 2) dX9_ahead_22 rfl rfl ?_
  refine J_iload_n (j := 3) dX9_ahead_23 rfl rfl ?_
  refine J_aload_n (j := 1) dX9_ahead_24 rfl rfl ?_
  refine JM_getR (r := 88) fl_WithOneHandModel_35_8 dX9_ahead_25 c_80 rfl rfl ?_
  refine J_iload_n (j := 0) dX9_ahead_28 rfl rfl ?_
  obtain ⟨b2, hF⟩ := chk hF
  refine JM_iald (j := ix t0) dX9_ahead_29 c_88 (inb_vp b2) rfl ?_
  refine J_aload_n (j := 1) dX9_ahead_30 rfl rfl ?_
  refine JM_getR (r := 90) fl_WithOneHandModel_41_8 dX9_ahead_31 c_80 rfl rfl ?_
  refine J_iload_n (j := 0) dX9_ahead_34 rfl rfl ?_
  refine JM_iald (j := ix t0) dX9_ahead_35 c_90 (inb_vp b2) rfl ?_
  obtain ⟨r3, m4, h5, hF⟩ := ob2_some hF
  refine JM_callVi (As := [.int v1, .int v2, .int (mi m 88 (ix t0)), .int (mi m 90 (ix t0))]) (S := []) lkV_WithOneHandModel_257_X9_takes rfl (by decide) dX9_ahead_36 c_80 (S_X9_takes (by omega) h5) (by omega) rfl rfl (Nat.le_of_ble_eq_true rfl) rfl ?_
  refine J_iconst (v := 2) dX9_ahead_39 (by decide) ?_
  refine J_idiv dX9_ahead_40 (by decide) ?_
  refine J_istore (L' := [(4, .int (r3 / 2)), (3, .int t0), (0, .ref 80), (1, .int v1), (2, .int v2)]) dX9_ahead_41 (by decide) rfl ?_
  refine J_iload (j := 0) dX9_ahead_43 rfl ?_
  refine J_iconst (v := 1) dX9_ahead_45 (by decide) ?_
  refine J_icmp_ge (tgt := 53) dX9_ahead_46 (by decide) (fun q6 => ?_) (fun q6 => ?_)
  · rw [if_pos q6] at hF
    refine J_iload (j := 0) dX9_ahead_53 rfl ?_
    obtain ⟨e_r, e_z⟩ := someP hF
    subst e_r
    subst e_z
    exact J_ireturn rfl rfl dX9_ahead_55 ⟨rfl, rfl⟩
  · rw [if_neg q6] at hF
    refine J_iconst (v := 1) dX9_ahead_49 (by decide) ?_
    refine J_goto (tgt := 55) dX9_ahead_50 (by decide) ?_
    obtain ⟨e_r, e_z⟩ := someP hF
    subst e_r
    subst e_z
    exact J_ireturn rfl rfl dX9_ahead_55 ⟨rfl, rfl⟩
def f_X9_ahead (a1 : Int32) (a2 : Int32) (m : MM) : Option (Int32 × MM) :=
  if (mi m 88 1) ≤ (mi m 88 0) then
  B_X9_ahead_20 a1 a2 0 m
  else
  B_X9_ahead_20 a1 a2 1 m
theorem S_X9_ahead {g : GC} {d : Nat} {a1 : Int32} {a2 : Int32} {x : MX} {m : MM} {r : Int32} {z : MM} (hd : 107 ≤ d) 
  (hF : f_X9_ahead a1 a2 m = some (r, z)) : JC g m_X9_ahead d 0 0 [.ref 80, .int a1, .int a2] (ST x m) (EQ (some (.int r)) (ST x z)) := by
  refine JC.of (by decide +kernel) (Nat.le_of_ble_eq_true rfl) ?_
  change J g m_X9_ahead d 0 0 0 [(0, .ref 80), (1, .int a1), (2, .int a2)] [] (ST x m) 0 0 (EQ (some (.int r)) (ST x z))
  unfold f_X9_ahead at hF
  refine J_aload_n (j := 0) dX9_ahead_0 rfl rfl ?_
  refine JM_getR (r := 88) fl_WithOneHandModel_35_8 dX9_ahead_1 c_80 rfl rfl ?_
  refine J_iconst (v := 1) dX9_ahead_4 (by decide) ?_
  refine JM_iald (j := 1) dX9_ahead_5 c_88 (by unfold vp_in; decide) (by decide) ?_
  refine J_aload_n (j := 0) dX9_ahead_6 rfl rfl ?_
  refine JM_getR (r := 88) fl_WithOneHandModel_35_8 dX9_ahead_7 c_80 rfl rfl ?_
  refine J_iconst (v := 0) dX9_ahead_10 (by decide) ?_
  refine JM_iald (j := 0) dX9_ahead_11 c_88 (by unfold vp_in; decide) (by decide) ?_
  refine J_icmp_le (tgt := 19) dX9_ahead_12 (by decide) (fun q1 => ?_) (fun q1 => ?_)
  · rw [if_pos q1] at hF
    refine J_iconst (v := 0) dX9_ahead_19 (by decide) ?_
    exact SB_X9_ahead_20 hd hF
  · rw [if_neg q1] at hF
    refine J_iconst (v := 1) dX9_ahead_15 (by decide) ?_
    refine J_goto (tgt := 20) dX9_ahead_16 (by decide) ?_
    exact SB_X9_ahead_20 hd hF
def f_X9_seconds (a1 : Int32) (a2 : Int32) (m : MM) : Option (Int32 × MM) :=
  ob (f_X9_isPair a1 m) (fun r1 =>
  if r1 = true then
  if (f_X9_isIn a2 0 3) = true then
  ob2 (f_X9_takesNow (a1 / 10) (a1 % 10) m) (fun r5 m6 =>
  if a2 = 0 then
  some (r5, m6)
  else
  if a2 = 1 then
  ob2 (f_X9_ahead (a1 / 10) (a1 % 10) m6) (fun r23 m24 =>
  some (r23, m24))
  else
  if a2 = 2 then
  ob (f_X9_goes (a1 / 10) (a1 % 10) m6) (fun r21 =>
  some (f_X9_one (b2i r21), m6))
  else
  ob (f_X9_goes (a1 / 10) (a1 % 10) m6) (fun r11 =>
  if r11 = true then
  ob2 (f_X9_ahead (a1 / 10) (a1 % 10) m6) (fun r14 m15 =>
  if r5 ≤ r14 then
  some (r5, m15)
  else
  ob2 (f_X9_ahead (a1 / 10) (a1 % 10) m15) (fun r18 m19 =>
  some (r18, m19)))
  else
  some (r5, m6)))
  else
  some ((-1), m)
  else
  some ((-1), m))
theorem S_X9_seconds {g : GC} {d : Nat} {a1 : Int32} {a2 : Int32} {x : MX} {m : MM} {r : Int32} {z : MM} (hd : 108 ≤ d) 
  (hF : f_X9_seconds a1 a2 m = some (r, z)) : JC g m_X9_seconds d 0 0 [.ref 80, .int a1, .int a2] (ST x m) (EQ (some (.int r)) (ST x z)) := by
  refine JC.of (by decide +kernel) (Nat.le_of_ble_eq_true rfl) ?_
  change J g m_X9_seconds d 0 0 0 [(0, .ref 80), (1, .int a1), (2, .int a2)] [] (ST x m) 0 0 (EQ (some (.int r)) (ST x z))
  unfold f_X9_seconds at hF
  refine J_aload_n (j := 0) dX9_seconds_0 rfl rfl ?_
  refine J_iload_n (j := 1) dX9_seconds_1 rfl rfl ?_
  obtain ⟨r1, h2, hF⟩ := ob_some hF
  refine JM_callVi (As := [.int a1]) (S := []) lkV_WithOneHandModel_261_X9_isPair rfl (by decide) dX9_seconds_2 c_80 (S_X9_isPair (by omega) h2) (by omega) rfl rfl (Nat.le_of_ble_eq_true rfl) rfl ?_
  refine J_ifb_eq (tgt := 18) dX9_seconds_5 (by decide) (fun q3 => ?_) (fun q3 => ?_)
  · rw [if_neg q3] at hF
    refine J_iconst (v := (-1)) dX9_seconds_18 (by decide) ?_
    obtain ⟨e_r, e_z⟩ := someP hF
    subst e_r
    subst e_z
    exact J_ireturn rfl rfl dX9_seconds_19 ⟨rfl, rfl⟩
  · rw [if_pos q3] at hF
    refine J_aload_n (j := 0) dX9_seconds_8 rfl rfl ?_
    refine J_iload_n (j := 2) dX9_seconds_9 rfl rfl ?_
    refine J_iconst (v := 0) dX9_seconds_10 (by decide) ?_
    refine J_iconst (v := 3) dX9_seconds_11 (by decide) ?_
    refine JM_callVi (As := [.int a2, .int 0, .int 3]) (S := []) lkV_WithOneHandModel_114_X9_isIn rfl (by decide) dX9_seconds_12 c_80 (S_X9_isIn (by omega) rfl) (by omega) rfl rfl (Nat.le_of_ble_eq_true rfl) rfl ?_
    refine J_ifb_ne (tgt := 20) dX9_seconds_15 (by decide) (fun q4 => ?_) (fun q4 => ?_)
    · rw [if_pos q4] at hF
      refine J_iload_n (j := 1) dX9_seconds_20 rfl rfl ?_
      refine J_bipush (v := 10) dX9_seconds_21 (by decide) ?_
      refine J_idiv dX9_seconds_23 (by decide) ?_
      refine J_istore_n (L' := [(3, .int (a1 / 10)), (0, .ref 80), (1, .int a1), (2, .int a2)]) dX9_seconds_24 rfl (by decide) rfl ?_
      refine J_iload_n (j := 2) dX9_seconds_25 rfl rfl ?_
      refine J_bipush (v := 10) dX9_seconds_26 (by decide) ?_
      refine J_irem dX9_seconds_28 (by decide) ?_
      refine J_istore (L' := [(4, .int (a1 % 10)), (3, .int (a1 / 10)), (0, .ref 80), (1, .int a1), (2, .int a2)]) dX9_seconds_29 (by decide) rfl ?_
      refine J_aload_n (j := 2) dX9_seconds_31 rfl rfl ?_
      refine J_iload_n (j := 1) dX9_seconds_32 rfl rfl ?_
      refine J_iload (j := 0) dX9_seconds_33 rfl ?_
      obtain ⟨r5, m6, h7, hF⟩ := ob2_some hF
      refine JM_callVi (As := [.int (a1 / 10), .int (a1 % 10)]) (S := []) lkV_WithOneHandModel_264_X9_takesNow rfl (by decide) dX9_seconds_35 c_80 (S_X9_takesNow (by omega) h7) (by omega) rfl rfl (Nat.le_of_ble_eq_true rfl) rfl ?_
      refine J_istore (L' := [(5, .int r5), (4, .int (a1 % 10)), (3, .int (a1 / 10)), (0, .ref 80), (1, .int a1), (2, .int a2)]) dX9_seconds_38 (by decide) rfl ?_
      refine J_iload_n (j := 5) dX9_seconds_40 rfl rfl ?_
      refine J_if_ne (tgt := 47) dX9_seconds_41 (by decide) (fun q8 => ?_) (fun q8 => ?_)
      · rw [if_neg q8] at hF
        refine J_iload_n (j := 5) dX9_seconds_47 rfl rfl ?_
        refine J_iconst (v := 1) dX9_seconds_48 (by decide) ?_
        refine J_icmp_ne (tgt := 60) dX9_seconds_49 (by decide) (fun q9 => ?_) (fun q9 => ?_)
        · rw [if_neg q9] at hF
          refine J_iload_n (j := 5) dX9_seconds_60 rfl rfl ?_
          refine J_iconst (v := 2) dX9_seconds_61 (by decide) ?_
          refine J_icmp_ne (tgt := 77) dX9_seconds_62 (by decide) (fun q10 => ?_) (fun q10 => ?_)
          · rw [if_neg q10] at hF
            refine J_aload_n (j := 3) dX9_seconds_77 rfl rfl ?_
            refine J_iload_n (j := 2) dX9_seconds_78 rfl rfl ?_
            refine J_iload (j := 1) dX9_seconds_79 rfl ?_
            obtain ⟨r11, h12, hF⟩ := ob_some hF
            refine JM_callVi (As := [.int (a1 / 10), .int (a1 % 10)]) (S := []) lkV_WithOneHandModel_270_X9_goes rfl (by decide) dX9_seconds_81 c_80 (S_X9_goes (by omega) h12) (by omega) rfl rfl (Nat.le_of_ble_eq_true rfl) rfl ?_
            refine J_ifb_eq (tgt := 109) dX9_seconds_84 (by decide) (fun q13 => ?_) (fun q13 => ?_)
            · rw [if_neg q13] at hF
              refine J_iload (j := 0) dX9_seconds_109 rfl ?_
              obtain ⟨e_r, e_z⟩ := someP hF
              subst e_r
              subst e_z
              exact J_ireturn rfl rfl dX9_seconds_111 ⟨rfl, rfl⟩
            · rw [if_pos q13] at hF
              refine J_aload_n (j := 3) dX9_seconds_87 rfl rfl ?_
              refine J_iload_n (j := 2) dX9_seconds_88 rfl rfl ?_
              refine J_iload (j := 1) dX9_seconds_89 rfl ?_
              obtain ⟨r14, m15, h16, hF⟩ := ob2_some hF
              refine JM_callVi (As := [.int (a1 / 10), .int (a1 % 10)]) (S := []) lkV_WithOneHandModel_267_X9_ahead rfl (by decide) dX9_seconds_91 c_80 (S_X9_ahead (by omega) h16) (by omega) rfl rfl (Nat.le_of_ble_eq_true rfl) rfl ?_
              refine J_iload (j := 0) dX9_seconds_94 rfl ?_
              refine J_icmp_ge (tgt := 109) dX9_seconds_96 (by decide) (fun q17 => ?_) (fun q17 => ?_)
              · rw [if_pos q17] at hF
                refine J_iload (j := 0) dX9_seconds_109 rfl ?_
                obtain ⟨e_r, e_z⟩ := someP hF
                subst e_r
                subst e_z
                exact J_ireturn rfl rfl dX9_seconds_111 ⟨rfl, rfl⟩
              · rw [if_neg q17] at hF
                refine J_aload_n (j := 3) dX9_seconds_99 rfl rfl ?_
                refine J_iload_n (j := 2) dX9_seconds_100 rfl rfl ?_
                refine J_iload (j := 1) dX9_seconds_101 rfl ?_
                obtain ⟨r18, m19, h20, hF⟩ := ob2_some hF
                refine JM_callVi (As := [.int (a1 / 10), .int (a1 % 10)]) (S := []) lkV_WithOneHandModel_267_X9_ahead rfl (by decide) dX9_seconds_103 c_80 (S_X9_ahead (by omega) h20) (by omega) rfl rfl (Nat.le_of_ble_eq_true rfl) rfl ?_
                refine J_goto (tgt := 111) dX9_seconds_106 (by decide) ?_
                obtain ⟨e_r, e_z⟩ := someP hF
                subst e_r
                subst e_z
                exact J_ireturn rfl rfl dX9_seconds_111 ⟨rfl, rfl⟩
          · rw [if_pos q10] at hF
            refine J_aload_n (j := 3) dX9_seconds_65 rfl rfl ?_
            refine J_aload_n (j := 3) dX9_seconds_66 rfl rfl ?_
            refine J_iload_n (j := 2) dX9_seconds_67 rfl rfl ?_
            refine J_iload (j := 1) dX9_seconds_68 rfl ?_
            obtain ⟨r21, h22, hF⟩ := ob_some hF
            refine JM_callVi (As := [.int (a1 / 10), .int (a1 % 10)]) (S := [.ref 80]) lkV_WithOneHandModel_270_X9_goes rfl (by decide) dX9_seconds_70 c_80 (S_X9_goes (by omega) h22) (by omega) rfl rfl (Nat.le_of_ble_eq_true rfl) rfl ?_
            refine JM_callVi (As := [.int (b2i r21)]) (S := []) lkV_WithOneHandModel_228_X9_one rfl (by decide) dX9_seconds_73 c_80 (S_X9_one (by omega) rfl) (by omega) rfl rfl (Nat.le_of_ble_eq_true rfl) rfl ?_
            obtain ⟨e_r, e_z⟩ := someP hF
            subst e_r
            subst e_z
            exact J_ireturn rfl rfl dX9_seconds_76 ⟨rfl, rfl⟩
        · rw [if_pos q9] at hF
          refine J_aload_n (j := 3) dX9_seconds_52 rfl rfl ?_
          refine J_iload_n (j := 2) dX9_seconds_53 rfl rfl ?_
          refine J_iload (j := 1) dX9_seconds_54 rfl ?_
          obtain ⟨r23, m24, h25, hF⟩ := ob2_some hF
          refine JM_callVi (As := [.int (a1 / 10), .int (a1 % 10)]) (S := []) lkV_WithOneHandModel_267_X9_ahead rfl (by decide) dX9_seconds_56 c_80 (S_X9_ahead (by omega) h25) (by omega) rfl rfl (Nat.le_of_ble_eq_true rfl) rfl ?_
          obtain ⟨e_r, e_z⟩ := someP hF
          subst e_r
          subst e_z
          exact J_ireturn rfl rfl dX9_seconds_59 ⟨rfl, rfl⟩
      · rw [if_pos q8] at hF
        refine J_iload (j := 0) dX9_seconds_44 rfl ?_
        obtain ⟨e_r, e_z⟩ := someP hF
        subst e_r
        subst e_z
        exact J_ireturn rfl rfl dX9_seconds_46 ⟨rfl, rfl⟩
    · rw [if_neg q4] at hF
      refine J_iconst (v := (-1)) dX9_seconds_18 (by decide) ?_
      obtain ⟨e_r, e_z⟩ := someP hF
      subst e_r
      subst e_z
      exact J_ireturn rfl rfl dX9_seconds_19 ⟨rfl, rfl⟩
def B_X8_best_50 (K20 : Int32 → Int32 → Int32 → Int32 → MX → Option (Int32 × MX)) (v1 : Int32) (v2 : Int32) (v3 : Int32) (v4 : Int32) (x : MX) : Option (Int32 × MX) :=
  K20 v1 v2 v3 (v4 + 1) x
theorem SB_X8_best_50 {g : GC} {d : Nat} {K20 : Int32 → Int32 → Int32 → Int32 → MX → Option (Int32 × MX)} {v1 : Int32} {v2 : Int32} {v3 : Int32} {v4 : Int32} {x : MX} {m : MM} {r : Int32} {z : MX} (hd : 6 ≤ d) (hK20 : ∀ (v1 : Int32) (v2 : Int32) (v3 : Int32) (v4 : Int32) (x : MX) (r : Int32) (z : MX), K20 v1 v2 v3 v4 x = some (r, z) → J g m_X8_best d 0 0 20 [(0, .ref 5), (1, .int v1), (2, .int v2), (3, .int v3), (4, .int v4)] [] (ST x m) 0 0 (EQ (some (.int r)) (ST z m)))
  (hF : B_X8_best_50 K20 v1 v2 v3 v4 x = some (r, z)) : J g m_X8_best d 0 0 50 [(0, .ref 5), (1, .int v1), (2, .int v2), (3, .int v3), (4, .int v4)] [] (ST x m) 0 0 (EQ (some (.int r)) (ST z m)) := by
  unfold B_X8_best_50 at hF
  refine J_iinc (j := 4) (v := v4 + 1) (L' := [(4, .int (v4 + 1)), (0, .ref 5), (1, .int v1), (2, .int v2), (3, .int v3)]) dX8_best_50 rfl rfl (by decide) rfl ?_
  refine J_goto (tgt := 20) dX8_best_53 (by decide) ?_
  refine J_sub [1, 2, 3, 4, 0] rfl ?_
  exact hK20 _ _ _ _ _ _ _  hF
def B_X8_best_20 (K20 : Int32 → Int32 → Int32 → Int32 → MX → Option (Int32 × MX)) (v1 : Int32) (v2 : Int32) (v3 : Int32) (v4 : Int32) (x : MX) : Option (Int32 × MX) :=
  if (xi x 5 12) ≤ v4 then
  some (v2, x)
  else
  ob2 (f_X8_takesNow v4 v1 x) (fun r3 x4 =>
  if v3 ≤ r3 then
  B_X8_best_50 K20 v1 v2 v3 v4 x4
  else
  B_X8_best_50 K20 v1 v4 r3 v4 x4)
theorem SB_X8_best_20 {g : GC} {d : Nat} {K20 : Int32 → Int32 → Int32 → Int32 → MX → Option (Int32 × MX)} {v1 : Int32} {v2 : Int32} {v3 : Int32} {v4 : Int32} {x : MX} {m : MM} {r : Int32} {z : MX} (hd : 6 ≤ d) (hK20 : ∀ (v1 : Int32) (v2 : Int32) (v3 : Int32) (v4 : Int32) (x : MX) (r : Int32) (z : MX), K20 v1 v2 v3 v4 x = some (r, z) → J g m_X8_best d 0 0 20 [(0, .ref 5), (1, .int v1), (2, .int v2), (3, .int v3), (4, .int v4)] [] (ST x m) 0 0 (EQ (some (.int r)) (ST z m)))
  (hF : B_X8_best_20 K20 v1 v2 v3 v4 x = some (r, z)) : J g m_X8_best d 0 0 20 [(0, .ref 5), (1, .int v1), (2, .int v2), (3, .int v3), (4, .int v4)] [] (ST x m) 0 0 (EQ (some (.int r)) (ST z m)) := by
  unfold B_X8_best_20 at hF
  refine J_iload (j := 4) dX8_best_20 rfl ?_
  refine J_aload_n (j := 0) dX8_best_22 rfl rfl ?_
  refine JX_getI fl_WithOneHand_80_7 dX8_best_23 c_5 rfl ?_
  refine J_icmp_ge (tgt := 56) dX8_best_26 (by decide) (fun q2 => ?_) (fun q2 => ?_)
  · rw [if_pos q2] at hF
    refine J_iload_n (j := 2) dX8_best_56 rfl rfl ?_
    obtain ⟨e_r, e_z⟩ := someP hF
    subst e_r
    subst e_z
    exact J_ireturn rfl rfl dX8_best_57 ⟨rfl, rfl⟩
  · rw [if_neg q2] at hF
    refine J_aload_n (j := 0) dX8_best_29 rfl rfl ?_
    refine J_iload (j := 4) dX8_best_30 rfl ?_
    refine J_iload_n (j := 1) dX8_best_32 rfl rfl ?_
    obtain ⟨r3, x4, h5, hF⟩ := ob2_some hF
    refine JX_callVi (As := [.int v4, .int v1]) (S := []) lkV_WithOneHand_135_X8_takesNow rfl (by decide) dX8_best_33 c_5 (S_X8_takesNow (by omega) h5) (by omega) rfl rfl (Nat.le_of_ble_eq_true rfl) rfl ?_
    refine J_istore (L' := [(5, .int r3), (0, .ref 5), (1, .int v1), (2, .int v2), (3, .int v3), (4, .int v4)]) dX8_best_36 (by decide) rfl ?_
    refine J_iload (j := 0) dX8_best_38 rfl ?_
    refine J_iload_n (j := 4) dX8_best_40 rfl rfl ?_
    refine J_icmp_ge (tgt := 50) dX8_best_41 (by decide) (fun q6 => ?_) (fun q6 => ?_)
    · rw [if_pos q6] at hF
      refine J_sub [1, 2, 3, 4, 5] rfl ?_
      exact SB_X8_best_50 hd hK20 hF
    · rw [if_neg q6] at hF
      refine J_iload (j := 5) dX8_best_44 rfl ?_
      refine J_istore_n (L' := [(2, .int v4), (5, .int r3), (0, .ref 5), (1, .int v1), (3, .int v3), (4, .int v4)]) dX8_best_46 rfl (by decide) rfl ?_
      refine J_iload (j := 1) dX8_best_47 rfl ?_
      refine J_istore_n (L' := [(3, .int r3), (2, .int v4), (5, .int r3), (0, .ref 5), (1, .int v1), (4, .int v4)]) dX8_best_49 rfl (by decide) rfl ?_
      refine J_sub [3, 4, 1, 0, 5] rfl ?_
      exact SB_X8_best_50 hd hK20 hF
def f_X8_best_20  : Nat → Int32 → Int32 → Int32 → Int32 → MX → Option (Int32 × MX)
  | 0 => fun _ _ _ _ _ => none
  | n + 1 => fun v1 v2 v3 v4 x => B_X8_best_20 (f_X8_best_20  n) v1 v2 v3 v4 x
theorem Sf_X8_best_20 {g : GC} {d : Nat} {m : MM} (hd : 6 ≤ d)  : ∀ (n : Nat) (v1 : Int32) (v2 : Int32) (v3 : Int32) (v4 : Int32) (x : MX) (r : Int32) (z : MX), f_X8_best_20  n v1 v2 v3 v4 x = some (r, z) → J g m_X8_best d 0 0 20 [(0, .ref 5), (1, .int v1), (2, .int v2), (3, .int v3), (4, .int v4)] [] (ST x m) 0 0 (EQ (some (.int r)) (ST z m)) := by
  intro n
  induction n with
  | zero => intro v1 v2 v3 v4 x r z  hF; exact absurd hF (fun q => by cases q)
  | succ n ih =>
    intro v1 v2 v3 v4 x r z  hF
    exact SB_X8_best_20 hd (fun v1 v2 v3 v4 x r z  hF => ih v1 v2 v3 v4 x r z  hF) hF
def f_X8_best (a1 : Int32) (x : MX) : Option (Int32 × MX) :=
  if (f_X8_isCuff a1 x) = true then
  f_X8_best_20 LF a1 (-2) 1000 0 x
  else
  some ((-1), x)
theorem S_X8_best {g : GC} {d : Nat} {a1 : Int32} {x : MX} {m : MM} {r : Int32} {z : MX} (hd : 6 ≤ d) 
  (hF : f_X8_best a1 x = some (r, z)) : JC g m_X8_best d 0 0 [.ref 5, .int a1] (ST x m) (EQ (some (.int r)) (ST z m)) := by
  refine JC.of (by decide +kernel) (Nat.le_of_ble_eq_true rfl) ?_
  change J g m_X8_best d 0 0 0 [(0, .ref 5), (1, .int a1)] [] (ST x m) 0 0 (EQ (some (.int r)) (ST z m))
  unfold f_X8_best at hF
  refine J_aload_n (j := 0) dX8_best_0 rfl rfl ?_
  refine J_iload_n (j := 1) dX8_best_1 rfl rfl ?_
  refine JX_callVi (As := [.int a1]) (S := []) lkV_WithOneHand_116_X8_isCuff rfl (by decide) dX8_best_2 c_5 (S_X8_isCuff (by omega) rfl) (by omega) rfl rfl (Nat.le_of_ble_eq_true rfl) rfl ?_
  refine J_ifb_ne (tgt := 10) dX8_best_5 (by decide) (fun q1 => ?_) (fun q1 => ?_)
  · rw [if_pos q1] at hF
    refine J_bipush (v := (-2)) dX8_best_10 (by decide) ?_
    refine J_istore_n (L' := [(2, .int (-2)), (0, .ref 5), (1, .int a1)]) dX8_best_12 rfl (by decide) rfl ?_
    refine J_sipush (v := 1000) dX8_best_13 (by decide) ?_
    refine J_istore_n (L' := [(3, .int 1000), (2, .int (-2)), (0, .ref 5), (1, .int a1)]) dX8_best_16 rfl (by decide) rfl ?_
    refine J_iconst (v := 0) dX8_best_17 (by decide) ?_
    refine J_istore (L' := [(4, .int 0), (3, .int 1000), (2, .int (-2)), (0, .ref 5), (1, .int a1)]) dX8_best_18 (by decide) rfl ?_
    refine J_sub [3, 4, 2, 1, 0] rfl ?_
    exact Sf_X8_best_20 hd _ _ _ _ _ _ _ _ hF
  · rw [if_neg q1] at hF
    refine J_iconst (v := (-1)) dX8_best_8 (by decide) ?_
    obtain ⟨e_r, e_z⟩ := someP hF
    subst e_r
    subst e_z
    exact J_ireturn rfl rfl dX8_best_9 ⟨rfl, rfl⟩
def B_X9_best_46 (K15 : Int32 → Int32 → Int32 → MM → Option (Int32 × MM)) (v1 : Int32) (v2 : Int32) (v3 : Int32) (m : MM) : Option (Int32 × MM) :=
  K15 v1 v2 (v3 + 1) m
theorem SB_X9_best_46 {g : GC} {d : Nat} {K15 : Int32 → Int32 → Int32 → MM → Option (Int32 × MM)} {v1 : Int32} {v2 : Int32} {v3 : Int32} {x : MX} {m : MM} {r : Int32} {z : MM} (hd : 108 ≤ d) (hK15 : ∀ (v1 : Int32) (v2 : Int32) (v3 : Int32) (m : MM) (r : Int32) (z : MM), K15 v1 v2 v3 m = some (r, z) → J g m_X9_best d 0 0 15 [(0, .ref 80), (1, .int v1), (2, .int v2), (3, .int v3)] [] (ST x m) 0 0 (EQ (some (.int r)) (ST x z)))
  (hF : B_X9_best_46 K15 v1 v2 v3 m = some (r, z)) : J g m_X9_best d 0 0 46 [(0, .ref 80), (1, .int v1), (2, .int v2), (3, .int v3)] [] (ST x m) 0 0 (EQ (some (.int r)) (ST x z)) := by
  unfold B_X9_best_46 at hF
  refine J_iinc (j := 3) (v := v3 + 1) (L' := [(3, .int (v3 + 1)), (0, .ref 80), (1, .int v1), (2, .int v2)]) dX9_best_46 rfl rfl (by decide) rfl ?_
  refine J_goto (tgt := 15) dX9_best_49 (by decide) ?_
  refine J_sub [1, 2, 3, 0] rfl ?_
  exact hK15 _ _ _ _ _ _  hF
def B_X9_best_44 (K15 : Int32 → Int32 → Int32 → MM → Option (Int32 × MM)) (v1 : Int32) (v3 : Int32) (m : MM) : Option (Int32 × MM) :=
  B_X9_best_46 K15 v1 v3 v3 m
theorem SB_X9_best_44 {g : GC} {d : Nat} {K15 : Int32 → Int32 → Int32 → MM → Option (Int32 × MM)} {v1 : Int32} {v3 : Int32} {x : MX} {m : MM} {r : Int32} {z : MM} (hd : 108 ≤ d) (hK15 : ∀ (v1 : Int32) (v2 : Int32) (v3 : Int32) (m : MM) (r : Int32) (z : MM), K15 v1 v2 v3 m = some (r, z) → J g m_X9_best d 0 0 15 [(0, .ref 80), (1, .int v1), (2, .int v2), (3, .int v3)] [] (ST x m) 0 0 (EQ (some (.int r)) (ST x z)))
  (hF : B_X9_best_44 K15 v1 v3 m = some (r, z)) : J g m_X9_best d 0 0 44 [(0, .ref 80), (1, .int v1), (3, .int v3)] [] (ST x m) 0 0 (EQ (some (.int r)) (ST x z)) := by
  unfold B_X9_best_44 at hF
  refine J_iload_n (j := 2) dX9_best_44 rfl rfl ?_
  refine J_istore_n (L' := [(2, .int v3), (0, .ref 80), (1, .int v1), (3, .int v3)]) dX9_best_45 rfl (by decide) rfl ?_
  refine J_sub [1, 2, 0, 3] rfl ?_
  exact SB_X9_best_46 hd hK15 hF
def B_X9_best_15 (K15 : Int32 → Int32 → Int32 → MM → Option (Int32 × MM)) (v1 : Int32) (v2 : Int32) (v3 : Int32) (m : MM) : Option (Int32 × MM) :=
  if (mi m 80 0) ≤ v3 then
  some (v2, m)
  else
  if v2 = (-2) then
  B_X9_best_44 K15 v1 v3 m
  else
  ob2 (f_X9_takesNow v3 v1 m) (fun r4 m5 =>
  ob2 (f_X9_takesNow v2 v1 m5) (fun r7 m8 =>
  if r7 ≤ r4 then
  B_X9_best_46 K15 v1 v2 v3 m8
  else
  B_X9_best_44 K15 v1 v3 m8))
theorem SB_X9_best_15 {g : GC} {d : Nat} {K15 : Int32 → Int32 → Int32 → MM → Option (Int32 × MM)} {v1 : Int32} {v2 : Int32} {v3 : Int32} {x : MX} {m : MM} {r : Int32} {z : MM} (hd : 108 ≤ d) (hK15 : ∀ (v1 : Int32) (v2 : Int32) (v3 : Int32) (m : MM) (r : Int32) (z : MM), K15 v1 v2 v3 m = some (r, z) → J g m_X9_best d 0 0 15 [(0, .ref 80), (1, .int v1), (2, .int v2), (3, .int v3)] [] (ST x m) 0 0 (EQ (some (.int r)) (ST x z)))
  (hF : B_X9_best_15 K15 v1 v2 v3 m = some (r, z)) : J g m_X9_best d 0 0 15 [(0, .ref 80), (1, .int v1), (2, .int v2), (3, .int v3)] [] (ST x m) 0 0 (EQ (some (.int r)) (ST x z)) := by
  unfold B_X9_best_15 at hF
  refine J_iload_n (j := 3) dX9_best_15 rfl rfl ?_
  refine J_aload_n (j := 0) dX9_best_16 rfl rfl ?_
  refine JM_getI fl_WithOneHandModel_108_8 dX9_best_17 c_80 rfl ?_
  refine J_icmp_ge (tgt := 52) dX9_best_20 (by decide) (fun q2 => ?_) (fun q2 => ?_)
  · rw [if_pos q2] at hF
    refine J_iload_n (j := 2) dX9_best_52 rfl rfl ?_
    obtain ⟨e_r, e_z⟩ := someP hF
    subst e_r
    subst e_z
    exact J_ireturn rfl rfl dX9_best_53 ⟨rfl, rfl⟩
  · rw [if_neg q2] at hF
    refine J_iload_n (j := 2) dX9_best_23 rfl rfl ?_
    refine J_bipush (v := (-2)) dX9_best_24 (by decide) ?_
    refine J_icmp_eq (tgt := 44) dX9_best_26 (by decide) (fun q3 => ?_) (fun q3 => ?_)
    · rw [if_pos q3] at hF
      refine J_sub [0, 1, 3] rfl ?_
      exact SB_X9_best_44 hd hK15 hF
    · rw [if_neg q3] at hF
      refine J_aload_n (j := 0) dX9_best_29 rfl rfl ?_
      refine J_iload_n (j := 3) dX9_best_30 rfl rfl ?_
      refine J_iload_n (j := 1) dX9_best_31 rfl rfl ?_
      obtain ⟨r4, m5, h6, hF⟩ := ob2_some hF
      refine JM_callVi (As := [.int v3, .int v1]) (S := []) lkV_WithOneHandModel_264_X9_takesNow rfl (by decide) dX9_best_32 c_80 (S_X9_takesNow (by omega) h6) (by omega) rfl rfl (Nat.le_of_ble_eq_true rfl) rfl ?_
      refine J_aload_n (j := 0) dX9_best_35 rfl rfl ?_
      refine J_iload_n (j := 2) dX9_best_36 rfl rfl ?_
      refine J_iload_n (j := 1) dX9_best_37 rfl rfl ?_
      obtain ⟨r7, m8, h9, hF⟩ := ob2_some hF
      refine JM_callVi (As := [.int v2, .int v1]) (S := [.int r4]) lkV_WithOneHandModel_264_X9_takesNow rfl (by decide) dX9_best_38 c_80 (S_X9_takesNow (by omega) h9) (by omega) rfl rfl (Nat.le_of_ble_eq_true rfl) rfl ?_
      refine J_icmp_ge (tgt := 46) dX9_best_41 (by decide) (fun q10 => ?_) (fun q10 => ?_)
      · rw [if_pos q10] at hF
        exact SB_X9_best_46 hd hK15 hF
      · rw [if_neg q10] at hF
        refine J_sub [0, 1, 3] rfl ?_
        exact SB_X9_best_44 hd hK15 hF
def f_X9_best_15  : Nat → Int32 → Int32 → Int32 → MM → Option (Int32 × MM)
  | 0 => fun _ _ _ _ => none
  | n + 1 => fun v1 v2 v3 m => B_X9_best_15 (f_X9_best_15  n) v1 v2 v3 m
theorem Sf_X9_best_15 {g : GC} {d : Nat} {x : MX} (hd : 108 ≤ d)  : ∀ (n : Nat) (v1 : Int32) (v2 : Int32) (v3 : Int32) (m : MM) (r : Int32) (z : MM), f_X9_best_15  n v1 v2 v3 m = some (r, z) → J g m_X9_best d 0 0 15 [(0, .ref 80), (1, .int v1), (2, .int v2), (3, .int v3)] [] (ST x m) 0 0 (EQ (some (.int r)) (ST x z)) := by
  intro n
  induction n with
  | zero => intro v1 v2 v3 m r z  hF; exact absurd hF (fun q => by cases q)
  | succ n ih =>
    intro v1 v2 v3 m r z  hF
    exact SB_X9_best_15 hd (fun v1 v2 v3 m r z  hF => ih v1 v2 v3 m r z  hF) hF
def f_X9_best (a1 : Int32) (m : MM) : Option (Int32 × MM) :=
  if (f_X9_isCuff a1 m) = true then
  f_X9_best_15 LF a1 (-2) 0 m
  else
  some ((-1), m)
theorem S_X9_best {g : GC} {d : Nat} {a1 : Int32} {x : MX} {m : MM} {r : Int32} {z : MM} (hd : 108 ≤ d) 
  (hF : f_X9_best a1 m = some (r, z)) : JC g m_X9_best d 0 0 [.ref 80, .int a1] (ST x m) (EQ (some (.int r)) (ST x z)) := by
  refine JC.of (by decide +kernel) (Nat.le_of_ble_eq_true rfl) ?_
  change J g m_X9_best d 0 0 0 [(0, .ref 80), (1, .int a1)] [] (ST x m) 0 0 (EQ (some (.int r)) (ST x z))
  unfold f_X9_best at hF
  refine J_aload_n (j := 0) dX9_best_0 rfl rfl ?_
  refine J_iload_n (j := 1) dX9_best_1 rfl rfl ?_
  refine JM_callVi (As := [.int a1]) (S := []) lkV_WithOneHandModel_136_X9_isCuff rfl (by decide) dX9_best_2 c_80 (S_X9_isCuff (by omega) rfl) (by omega) rfl rfl (Nat.le_of_ble_eq_true rfl) rfl ?_
  refine J_ifb_ne (tgt := 10) dX9_best_5 (by decide) (fun q1 => ?_) (fun q1 => ?_)
  · rw [if_pos q1] at hF
    refine J_bipush (v := (-2)) dX9_best_10 (by decide) ?_
    refine J_istore_n (L' := [(2, .int (-2)), (0, .ref 80), (1, .int a1)]) dX9_best_12 rfl (by decide) rfl ?_
    refine J_iconst (v := 0) dX9_best_13 (by decide) ?_
    refine J_istore_n (L' := [(3, .int 0), (2, .int (-2)), (0, .ref 80), (1, .int a1)]) dX9_best_14 rfl (by decide) rfl ?_
    refine J_sub [2, 3, 1, 0] rfl ?_
    exact Sf_X9_best_15 hd _ _ _ _ _ _ _ hF
  · rw [if_neg q1] at hF
    refine J_iconst (v := (-1)) dX9_best_8 (by decide) ?_
    obtain ⟨e_r, e_z⟩ := someP hF
    subst e_r
    subst e_z
    exact J_ireturn rfl rfl dX9_best_9 ⟨rfl, rfl⟩
def f_J6_bitCount_0f7a4 (a0 : Int32) : Int32 :=
  letx (a0 - ((iush a0 1) &&& 1431655765)) (fun y1 =>
  letx ((y1 &&& 858993459) + ((iush y1 2) &&& 858993459)) (fun y2 =>
  letx ((y2 + (iush y2 4)) &&& 252645135) (fun y3 =>
  letx ((y3 + (iush y3 8)) + (iush (y3 + (iush y3 8)) 16)) (fun y4 =>
  y4 &&& 63))))
theorem S_J6_bitCount_0f7a4 {g : GC} {d : Nat} {a0 : Int32} {σ : Sto} {r : Int32} (hd : 1 ≤ d) 
  (hF : f_J6_bitCount_0f7a4 a0 = r) : JC g m_J6_bitCount_0f7a4 d 0 0 [.int a0] (σ) (EQ (some (.int r)) (σ)) := by
  refine JC.of (by decide +kernel) (Nat.le_of_ble_eq_true rfl) ?_
  change J g m_J6_bitCount_0f7a4 d 0 0 0 [(0, .int a0)] [] (σ) 0 0 (EQ (some (.int r)) (σ))
  unfold f_J6_bitCount_0f7a4 at hF
  refine J_iload_n (j := 0) dJ6_bitCount_0f7a4_0 rfl rfl ?_
  refine J_iload_n (j := 0) dJ6_bitCount_0f7a4_1 rfl rfl ?_
  refine J_iconst (v := 1) dJ6_bitCount_0f7a4_2 (by decide) ?_
  refine J_iushr dJ6_bitCount_0f7a4_3 ?_
  refine J_ldc_w (v := 1431655765) (tb 565 (by decide +kernel)) dJ6_bitCount_0f7a4_4 ?_
  refine J_iand dJ6_bitCount_0f7a4_7 ?_
  refine J_isub dJ6_bitCount_0f7a4_8 ?_
  obtain ⟨y1, e_y1, hF⟩ := letx_eq hF
  rw [← e_y1]
  refine J_istore_n (L' := [(0, .int y1)]) dJ6_bitCount_0f7a4_9 rfl (by decide) rfl ?_
  refine J_iload_n (j := 0) dJ6_bitCount_0f7a4_10 rfl rfl ?_
  refine J_ldc_w (v := 858993459) (tb 566 (by decide +kernel)) dJ6_bitCount_0f7a4_11 ?_
  refine J_iand dJ6_bitCount_0f7a4_14 ?_
  refine J_iload_n (j := 0) dJ6_bitCount_0f7a4_15 rfl rfl ?_
  refine J_iconst (v := 2) dJ6_bitCount_0f7a4_16 (by decide) ?_
  refine J_iushr dJ6_bitCount_0f7a4_17 ?_
  refine J_ldc_w (v := 858993459) (tb 566 (by decide +kernel)) dJ6_bitCount_0f7a4_18 ?_
  refine J_iand dJ6_bitCount_0f7a4_21 ?_
  refine J_iadd dJ6_bitCount_0f7a4_22 ?_
  obtain ⟨y2, e_y2, hF⟩ := letx_eq hF
  rw [← e_y2]
  refine J_istore_n (L' := [(0, .int y2)]) dJ6_bitCount_0f7a4_23 rfl (by decide) rfl ?_
  refine J_iload_n (j := 0) dJ6_bitCount_0f7a4_24 rfl rfl ?_
  refine J_iload_n (j := 0) dJ6_bitCount_0f7a4_25 rfl rfl ?_
  refine J_iconst (v := 4) dJ6_bitCount_0f7a4_26 (by decide) ?_
  refine J_iushr dJ6_bitCount_0f7a4_27 ?_
  refine J_iadd dJ6_bitCount_0f7a4_28 ?_
  refine J_ldc_w (v := 252645135) (tb 567 (by decide +kernel)) dJ6_bitCount_0f7a4_29 ?_
  refine J_iand dJ6_bitCount_0f7a4_32 ?_
  obtain ⟨y3, e_y3, hF⟩ := letx_eq hF
  rw [← e_y3]
  refine J_istore_n (L' := [(0, .int y3)]) dJ6_bitCount_0f7a4_33 rfl (by decide) rfl ?_
  refine J_iload_n (j := 0) dJ6_bitCount_0f7a4_34 rfl rfl ?_
  refine J_iload_n (j := 0) dJ6_bitCount_0f7a4_35 rfl rfl ?_
  refine J_bipush (v := 8) dJ6_bitCount_0f7a4_36 (by decide) ?_
  refine J_iushr dJ6_bitCount_0f7a4_38 ?_
  refine J_iadd dJ6_bitCount_0f7a4_39 ?_
  refine J_istore_n (L' := [(0, .int (y3 + (iush y3 8)))]) dJ6_bitCount_0f7a4_40 rfl (by decide) rfl ?_
  refine J_iload_n (j := 0) dJ6_bitCount_0f7a4_41 rfl rfl ?_
  refine J_iload_n (j := 0) dJ6_bitCount_0f7a4_42 rfl rfl ?_
  refine J_bipush (v := 16) dJ6_bitCount_0f7a4_43 (by decide) ?_
  refine J_iushr dJ6_bitCount_0f7a4_45 ?_
  refine J_iadd dJ6_bitCount_0f7a4_46 ?_
  obtain ⟨y4, e_y4, hF⟩ := letx_eq hF
  rw [← e_y4]
  refine J_istore_n (L' := [(0, .int y4)]) dJ6_bitCount_0f7a4_47 rfl (by decide) rfl ?_
  refine J_iload_n (j := 0) dJ6_bitCount_0f7a4_48 rfl rfl ?_
  refine J_bipush (v := 63) dJ6_bitCount_0f7a4_49 (by decide) ?_
  refine J_iand dJ6_bitCount_0f7a4_51 ?_
  subst hF
  exact J_ireturn rfl rfl dJ6_bitCount_0f7a4_52 ⟨rfl, rfl⟩
def f_X4_takesBehind_32 (a1 : Int32) (a2 : Int32) (x : MX) : Option Int32 :=
  if 6 ≤ (f_J6_bitCount_0f7a4 a1) then
  some 0
  else
  if inb (f_J6_bitCount_0f7a4 a1) 6 = true then
  if inb a2 6 = true then
  some (xi x (34 + ix (f_J6_bitCount_0f7a4 a1)) (ix a2))
  else none
  else none
theorem S_X4_takesBehind_32 {g : GC} {d : Nat} {a1 : Int32} {a2 : Int32} {x : MX} {m : MM} {r : Int32} (hd : 2 ≤ d) 
  (hF : f_X4_takesBehind_32 a1 a2 x = some r) : JC g m_X4_takesBehind d 0 0 [.ref 32, .int a1, .int a2] (ST x m) (EQ (some (.int r)) (ST x m)) := by
  refine JC.of (by decide +kernel) (Nat.le_of_ble_eq_true rfl) ?_
  change J g m_X4_takesBehind d 0 0 0 [(0, .ref 32), (1, .int a1), (2, .int a2)] [] (ST x m) 0 0 (EQ (some (.int r)) (ST x m))
  unfold f_X4_takesBehind_32 at hF
  refine J_iload_n (j := 1) dX4_takesBehind_0 rfl rfl ?_
  refine J_callSi (As := [.int a1]) (S := []) lkS_Pairs_7_J6_bitCount_0f7a4 dX4_takesBehind_1 (S_J6_bitCount_0f7a4 (by omega) rfl) (by omega) rfl rfl (Nat.le_of_ble_eq_true rfl) rfl ?_
  refine J_istore_n (L' := [(3, .int (f_J6_bitCount_0f7a4 a1)), (0, .ref 32), (1, .int a1), (2, .int a2)]) dX4_takesBehind_4 rfl (by decide) rfl ?_
  refine J_iload_n (j := 0) dX4_takesBehind_5 rfl rfl ?_
  refine J_bipush (v := 6) dX4_takesBehind_6 (by decide) ?_
  refine J_icmp_ge (tgt := 22) dX4_takesBehind_8 (by decide) (fun q1 => ?_) (fun q1 => ?_)
  · rw [if_pos q1] at hF
    refine J_iconst (v := 0) dX4_takesBehind_22 (by decide) ?_
    have e_r := Option.some.inj hF
    subst e_r
    exact J_ireturn rfl rfl dX4_takesBehind_23 ⟨rfl, rfl⟩
  · rw [if_neg q1] at hF
    refine J_aload_n (j := 1) dX4_takesBehind_11 rfl rfl ?_
    refine JX_getR (r := 33) fl_Pairs_13_4 dX4_takesBehind_12 c_32 rfl rfl ?_
    refine J_iload_n (j := 0) dX4_takesBehind_15 rfl rfl ?_
    obtain ⟨b2, hF⟩ := chk hF
    refine JX_aald (j := ix (f_J6_bitCount_0f7a4 a1)) (r := 34 + ix (f_J6_bitCount_0f7a4 a1)) (by decide) dX4_takesBehind_16 c_33 (inb_vp b2) rfl (rw_33 _ (inb_lt b2)) ?_
    refine J_iload_n (j := 3) dX4_takesBehind_17 rfl rfl ?_
    obtain ⟨b3, hF⟩ := chk hF
    refine JX_iald (j := ix a2) dX4_takesBehind_18 (cr_33 (inb_lt b2)) (inb_vp b3) rfl ?_
    refine J_goto (tgt := 23) dX4_takesBehind_19 (by decide) ?_
    have e_r := Option.some.inj hF
    subst e_r
    exact J_ireturn rfl rfl dX4_takesBehind_23 ⟨rfl, rfl⟩
def f_X5_sumWith_32 (a1 : Int32) (a2 : Int32) (x : MX) : Option Int32 :=
  if 0 ≤ a2 then
  ob (f_X4_takesBehind_32 a1 a2 x) (fun r2 =>
  if inb (a1 ||| ((1 : Int32) <<< (a2 &&& 31))) 64 = true then
  some (r2 + (xi x 40 (ix (a1 ||| ((1 : Int32) <<< (a2 &&& 31))))))
  else none)
  else
  some 1000000
theorem S_X5_sumWith_32 {g : GC} {d : Nat} {a1 : Int32} {a2 : Int32} {x : MX} {m : MM} {r : Int32} (hd : 3 ≤ d) 
  (hF : f_X5_sumWith_32 a1 a2 x = some r) : JC g m_X5_sumWith d 0 0 [.ref 32, .int a1, .int a2] (ST x m) (EQ (some (.int r)) (ST x m)) := by
  refine JC.of (by decide +kernel) (Nat.le_of_ble_eq_true rfl) ?_
  change J g m_X5_sumWith d 0 0 0 [(0, .ref 32), (1, .int a1), (2, .int a2)] [] (ST x m) 0 0 (EQ (some (.int r)) (ST x m))
  unfold f_X5_sumWith_32 at hF
  refine J_iload_n (j := 2) dX5_sumWith_0 rfl rfl ?_
  refine J_if_ge (tgt := 9) dX5_sumWith_1 (by decide) (fun q1 => ?_) (fun q1 => ?_)
  · rw [if_pos q1] at hF
    refine J_aload_n (j := 0) dX5_sumWith_9 rfl rfl ?_
    refine J_iload_n (j := 1) dX5_sumWith_10 rfl rfl ?_
    refine J_iload_n (j := 2) dX5_sumWith_11 rfl rfl ?_
    obtain ⟨r2, h3, hF⟩ := ob_some hF
    refine JX_callAi (As := [.int a1, .int a2]) (S := []) lkA_Plan_47_X4_takesBehind_4 rfl (by decide) dX5_sumWith_12 c_32 (S_X4_takesBehind_32 (by omega) h3) (by omega) rfl rfl (Nat.le_of_ble_eq_true rfl) rfl ?_
    refine J_aload_n (j := 0) dX5_sumWith_15 rfl rfl ?_
    refine JX_getR (r := 40) fl_Plan_14_4 dX5_sumWith_16 c_32 rfl rfl ?_
    refine J_iload_n (j := 1) dX5_sumWith_19 rfl rfl ?_
    refine J_iconst (v := 1) dX5_sumWith_20 (by decide) ?_
    refine J_iload_n (j := 2) dX5_sumWith_21 rfl rfl ?_
    refine J_ishl dX5_sumWith_22 ?_
    refine J_ior dX5_sumWith_23 ?_
    obtain ⟨b4, hF⟩ := chk hF
    refine JX_iald (j := ix (a1 ||| ((1 : Int32) <<< (a2 &&& 31)))) dX5_sumWith_24 c_40 (inb_vp b4) rfl ?_
    refine J_iadd dX5_sumWith_25 ?_
    have e_r := Option.some.inj hF
    subst e_r
    exact J_ireturn rfl rfl dX5_sumWith_26 ⟨rfl, rfl⟩
  · rw [if_neg q1] at hF
    refine J_ldc (v := 1000000) (tb 572 (by decide +kernel)) dX5_sumWith_4 ?_
    refine J_goto (tgt := 26) dX5_sumWith_6 (by decide) ?_
    have e_r := Option.some.inj hF
    subst e_r
    exact J_ireturn rfl rfl dX5_sumWith_26 ⟨rfl, rfl⟩
def B_X5_firstBest_32_50 (K8 : Int32 → Int32 → Int32 → Int32 → Option Int32) (v1 : Int32) (v2 : Int32) (v3 : Int32) (v4 : Int32) (x : MX) : Option Int32 :=
  K8 v1 v2 v3 (v4 + 1)
theorem SB_X5_firstBest_32_50 {g : GC} {d : Nat} {K8 : Int32 → Int32 → Int32 → Int32 → Option Int32} {v1 : Int32} {v2 : Int32} {v3 : Int32} {v4 : Int32} {x : MX} {m : MM} {r : Int32} (hd : 4 ≤ d) (hK8 : ∀ (v1 : Int32) (v2 : Int32) (v3 : Int32) (v4 : Int32) (r : Int32), K8 v1 v2 v3 v4 = some r → J g m_X5_firstBest d 0 0 8 [(0, .ref 32), (1, .int v1), (2, .int v2), (3, .int v3), (4, .int v4)] [] (ST x m) 0 0 (EQ (some (.int r)) (ST x m)))
  (hF : B_X5_firstBest_32_50 K8 v1 v2 v3 v4 x = some r) : J g m_X5_firstBest d 0 0 50 [(0, .ref 32), (1, .int v1), (2, .int v2), (3, .int v3), (4, .int v4)] [] (ST x m) 0 0 (EQ (some (.int r)) (ST x m)) := by
  unfold B_X5_firstBest_32_50 at hF
  refine J_iinc (j := 4) (v := v4 + 1) (L' := [(4, .int (v4 + 1)), (0, .ref 32), (1, .int v1), (2, .int v2), (3, .int v3)]) dX5_firstBest_50 rfl rfl (by decide) rfl ?_
  refine J_goto (tgt := 8) dX5_firstBest_53 (by decide) ?_
  refine J_sub [1, 2, 3, 4, 0] rfl ?_
  exact hK8 _ _ _ _ _  hF
def B_X5_firstBest_32_8 (K8 : Int32 → Int32 → Int32 → Int32 → Option Int32) (v1 : Int32) (v2 : Int32) (v3 : Int32) (v4 : Int32) (x : MX) : Option Int32 :=
  if (xi x 32 2) ≤ v4 then
  some v2
  else
  if ((v1 >>> (v4 &&& 31)) &&& 1) = 0 then
  ob (f_X5_sumWith_32 v1 v4 x) (fun r3 =>
  if v3 ≤ r3 then
  B_X5_firstBest_32_50 K8 v1 v2 v3 v4 x
  else
  B_X5_firstBest_32_50 K8 v1 v4 r3 v4 x)
  else
  B_X5_firstBest_32_50 K8 v1 v2 v3 v4 x
theorem SB_X5_firstBest_32_8 {g : GC} {d : Nat} {K8 : Int32 → Int32 → Int32 → Int32 → Option Int32} {v1 : Int32} {v2 : Int32} {v3 : Int32} {v4 : Int32} {x : MX} {m : MM} {r : Int32} (hd : 4 ≤ d) (hK8 : ∀ (v1 : Int32) (v2 : Int32) (v3 : Int32) (v4 : Int32) (r : Int32), K8 v1 v2 v3 v4 = some r → J g m_X5_firstBest d 0 0 8 [(0, .ref 32), (1, .int v1), (2, .int v2), (3, .int v3), (4, .int v4)] [] (ST x m) 0 0 (EQ (some (.int r)) (ST x m)))
  (hF : B_X5_firstBest_32_8 K8 v1 v2 v3 v4 x = some r) : J g m_X5_firstBest d 0 0 8 [(0, .ref 32), (1, .int v1), (2, .int v2), (3, .int v3), (4, .int v4)] [] (ST x m) 0 0 (EQ (some (.int r)) (ST x m)) := by
  unfold B_X5_firstBest_32_8 at hF
  refine J_iload (j := 4) dX5_firstBest_8 rfl ?_
  refine J_aload_n (j := 0) dX5_firstBest_10 rfl rfl ?_
  refine JX_getI fl_Plan_27_4 dX5_firstBest_11 c_32 rfl ?_
  refine J_icmp_ge (tgt := 56) dX5_firstBest_14 (by decide) (fun q1 => ?_) (fun q1 => ?_)
  · rw [if_pos q1] at hF
    refine J_iload_n (j := 2) dX5_firstBest_56 rfl rfl ?_
    have e_r := Option.some.inj hF
    subst e_r
    exact J_ireturn rfl rfl dX5_firstBest_57 ⟨rfl, rfl⟩
  · rw [if_neg q1] at hF
    refine J_iload_n (j := 1) dX5_firstBest_17 rfl rfl ?_
    refine J_iload (j := 4) dX5_firstBest_18 rfl ?_
    refine J_ishr dX5_firstBest_20 ?_
    refine J_iconst (v := 1) dX5_firstBest_21 (by decide) ?_
    refine J_iand dX5_firstBest_22 ?_
    refine J_if_eq (tgt := 29) dX5_firstBest_23 (by decide) (fun q2 => ?_) (fun q2 => ?_)
    · rw [if_pos q2] at hF
      refine J_aload_n (j := 0) dX5_firstBest_29 rfl rfl ?_
      refine J_iload_n (j := 1) dX5_firstBest_30 rfl rfl ?_
      refine J_iload (j := 4) dX5_firstBest_31 rfl ?_
      obtain ⟨r3, h4, hF⟩ := ob_some hF
      refine JX_callUi (As := [.int v1, .int v4]) (S := []) lkU_Plan_43_X5_sumWith_4 rfl (by decide) dX5_firstBest_33 c_32 (S_X5_sumWith_32 (by omega) h4) (by omega) rfl rfl (Nat.le_of_ble_eq_true rfl) rfl ?_
      refine J_istore (L' := [(5, .int r3), (0, .ref 32), (1, .int v1), (2, .int v2), (3, .int v3), (4, .int v4)]) dX5_firstBest_36 (by decide) rfl ?_
      refine J_iload (j := 0) dX5_firstBest_38 rfl ?_
      refine J_iload_n (j := 4) dX5_firstBest_40 rfl rfl ?_
      refine J_icmp_ge (tgt := 50) dX5_firstBest_41 (by decide) (fun q5 => ?_) (fun q5 => ?_)
      · rw [if_pos q5] at hF
        refine J_sub [1, 2, 3, 4, 5] rfl ?_
        exact SB_X5_firstBest_32_50 hd hK8 hF
      · rw [if_neg q5] at hF
        refine J_iload (j := 5) dX5_firstBest_44 rfl ?_
        refine J_istore_n (L' := [(2, .int v4), (5, .int r3), (0, .ref 32), (1, .int v1), (3, .int v3), (4, .int v4)]) dX5_firstBest_46 rfl (by decide) rfl ?_
        refine J_iload (j := 1) dX5_firstBest_47 rfl ?_
        refine J_istore_n (L' := [(3, .int r3), (2, .int v4), (5, .int r3), (0, .ref 32), (1, .int v1), (4, .int v4)]) dX5_firstBest_49 rfl (by decide) rfl ?_
        refine J_sub [3, 4, 1, 0, 5] rfl ?_
        exact SB_X5_firstBest_32_50 hd hK8 hF
    · rw [if_neg q2] at hF
      refine J_goto (tgt := 50) dX5_firstBest_26 (by decide) ?_
      exact SB_X5_firstBest_32_50 hd hK8 hF
def f_X5_firstBest_32_8 (x : MX) : Nat → Int32 → Int32 → Int32 → Int32 → Option Int32
  | 0 => fun _ _ _ _ => none
  | n + 1 => fun v1 v2 v3 v4 => B_X5_firstBest_32_8 (f_X5_firstBest_32_8 x n) v1 v2 v3 v4 x
theorem Sf_X5_firstBest_32_8 {g : GC} {d : Nat} {x : MX} {m : MM} (hd : 4 ≤ d)  : ∀ (n : Nat) (v1 : Int32) (v2 : Int32) (v3 : Int32) (v4 : Int32) (r : Int32), f_X5_firstBest_32_8 x n v1 v2 v3 v4 = some r → J g m_X5_firstBest d 0 0 8 [(0, .ref 32), (1, .int v1), (2, .int v2), (3, .int v3), (4, .int v4)] [] (ST x m) 0 0 (EQ (some (.int r)) (ST x m)) := by
  intro n
  induction n with
  | zero => intro v1 v2 v3 v4 r  hF; exact absurd hF (fun q => by cases q)
  | succ n ih =>
    intro v1 v2 v3 v4 r  hF
    exact SB_X5_firstBest_32_8 hd (fun v1 v2 v3 v4 r  hF => ih v1 v2 v3 v4 r  hF) hF
def f_X5_firstBest_32 (a1 : Int32) (x : MX) : Option Int32 :=
  f_X5_firstBest_32_8 x LF a1 (-1) 1000000 0
theorem S_X5_firstBest_32 {g : GC} {d : Nat} {a1 : Int32} {x : MX} {m : MM} {r : Int32} (hd : 4 ≤ d) 
  (hF : f_X5_firstBest_32 a1 x = some r) : JC g m_X5_firstBest d 0 0 [.ref 32, .int a1] (ST x m) (EQ (some (.int r)) (ST x m)) := by
  refine JC.of (by decide +kernel) (Nat.le_of_ble_eq_true rfl) ?_
  change J g m_X5_firstBest d 0 0 0 [(0, .ref 32), (1, .int a1)] [] (ST x m) 0 0 (EQ (some (.int r)) (ST x m))
  unfold f_X5_firstBest_32 at hF
  refine J_iconst (v := (-1)) dX5_firstBest_0 (by decide) ?_
  refine J_istore_n (L' := [(2, .int (-1)), (0, .ref 32), (1, .int a1)]) dX5_firstBest_1 rfl (by decide) rfl ?_
  refine J_ldc (v := 1000000) (tb 572 (by decide +kernel)) dX5_firstBest_2 ?_
  refine J_istore_n (L' := [(3, .int 1000000), (2, .int (-1)), (0, .ref 32), (1, .int a1)]) dX5_firstBest_4 rfl (by decide) rfl ?_
  refine J_iconst (v := 0) dX5_firstBest_5 (by decide) ?_
  refine J_istore (L' := [(4, .int 0), (3, .int 1000000), (2, .int (-1)), (0, .ref 32), (1, .int a1)]) dX5_firstBest_6 (by decide) rfl ?_
  refine J_sub [3, 4, 2, 1, 0] rfl ?_
  exact Sf_X5_firstBest_32_8 hd _ _ _ _ _ _ hF
