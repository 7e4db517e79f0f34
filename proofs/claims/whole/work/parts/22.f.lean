def B_X9_drops_2 (K2 : Int32 → MM → Option MM) (v1 : Int32) (m : MM) : Option MM :=
  if 40 ≤ v1 then
  letx (ms m 80 28 ((mi m 80 28) - 1)) (fun m2 =>
  some m2)
  else
  if inb v1 40 = true then
  if inb (v1 - 1) 40 = true then
  letx (ms m 95 (ix (v1 - 1)) (mi m 95 (ix v1))) (fun m5 =>
  letx (ms m5 96 (ix (v1 - 1)) (mi m5 96 (ix v1))) (fun m6 =>
  letx (ms m6 97 (ix (v1 - 1)) (mi m6 97 (ix v1))) (fun m7 =>
  letx (ms m7 98 (ix (v1 - 1)) (mi m7 98 (ix v1))) (fun m8 =>
  K2 (v1 + 1) m8))))
  else none
  else none
theorem SB_X9_drops_2 {g : GC} {d : Nat} {K2 : Int32 → MM → Option MM} {v1 : Int32} {x : MX} {m : MM} {z : MM} (hd : 1 ≤ d) (hK2 : ∀ (v1 : Int32) (m : MM) (z : MM), K2 v1 m = some z → J g m_X9_drops d 0 0 2 [(0, .ref 80), (1, .int v1)] [] (ST x m) 0 0 (EQ (none) (ST x z)))
  (hF : B_X9_drops_2 K2 v1 m = some z) : J g m_X9_drops d 0 0 2 [(0, .ref 80), (1, .int v1)] [] (ST x m) 0 0 (EQ (none) (ST x z)) := by
  unfold B_X9_drops_2 at hF
  refine J_iload_n (j := 1) dX9_drops_2 rfl rfl ?_
  refine J_bipush (v := 40) dX9_drops_3 (by decide) ?_
  refine J_icmp_ge (tgt := 70) dX9_drops_5 (by decide) (fun q1 => ?_) (fun q1 => ?_)
  · rw [if_pos q1] at hF
    refine J_aload_n (j := 0) dX9_drops_70 rfl rfl ?_
    refine J_dup dX9_drops_71 rfl ?_
    refine JM_getI fl_WithOneHandModel_142_8 dX9_drops_72 c_80 rfl ?_
    refine J_iconst (v := 1) dX9_drops_75 (by decide) ?_
    refine J_isub dX9_drops_76 ?_
    obtain ⟨m2, e_m2, hF⟩ := letx_eq hF
    refine JM_putI fl_WithOneHandModel_142_8 dX9_drops_77 c_80 rfl rfl rfl ?_
    rw [← e_m2]
    have e_r := Option.some.inj hF
    subst e_r
    exact J_return rfl dX9_drops_80 ⟨rfl, rfl⟩
  · rw [if_neg q1] at hF
    refine J_aload_n (j := 0) dX9_drops_8 rfl rfl ?_
    refine JM_getR (r := 95) fl_WithOneHandModel_56_8 dX9_drops_9 c_80 rfl rfl ?_
    refine J_iload_n (j := 1) dX9_drops_12 rfl rfl ?_
    refine J_iconst (v := 1) dX9_drops_13 (by decide) ?_
    refine J_isub dX9_drops_14 ?_
    refine J_aload_n (j := 0) dX9_drops_15 rfl rfl ?_
    refine JM_getR (r := 95) fl_WithOneHandModel_56_8 dX9_drops_16 c_80 rfl rfl ?_
    refine J_iload_n (j := 1) dX9_drops_19 rfl rfl ?_
    obtain ⟨b3, hF⟩ := chk hF
    refine JM_iald (j := ix v1) dX9_drops_20 c_95 (inb_vp b3) rfl ?_
    obtain ⟨b4, hF⟩ := chk hF
    obtain ⟨m5, e_m5, hF⟩ := letx_eq hF
    refine JM_iast (j := ix (v1 - 1)) dX9_drops_21 c_95 (inb_vp b4) rfl ?_
    rw [← e_m5]
    refine J_aload_n (j := 0) dX9_drops_22 rfl rfl ?_
    refine JM_getR (r := 96) fl_WithOneHandModel_59_8 dX9_drops_23 c_80 rfl rfl ?_
    refine J_iload_n (j := 1) dX9_drops_26 rfl rfl ?_
    refine J_iconst (v := 1) dX9_drops_27 (by decide) ?_
    refine J_isub dX9_drops_28 ?_
    refine J_aload_n (j := 0) dX9_drops_29 rfl rfl ?_
    refine JM_getR (r := 96) fl_WithOneHandModel_59_8 dX9_drops_30 c_80 rfl rfl ?_
    refine J_iload_n (j := 1) dX9_drops_33 rfl rfl ?_
    refine JM_iald (j := ix v1) dX9_drops_34 c_96 (inb_vp b3) rfl ?_
    obtain ⟨m6, e_m6, hF⟩ := letx_eq hF
    refine JM_iast (j := ix (v1 - 1)) dX9_drops_35 c_96 (inb_vp b4) rfl ?_
    rw [← e_m6]
    refine J_aload_n (j := 0) dX9_drops_36 rfl rfl ?_
    refine JM_getR (r := 97) fl_WithOneHandModel_62_8 dX9_drops_37 c_80 rfl rfl ?_
    refine J_iload_n (j := 1) dX9_drops_40 rfl rfl ?_
    refine J_iconst (v := 1) dX9_drops_41 (by decide) ?_
    refine J_isub dX9_drops_42 ?_
    refine J_aload_n (j := 0) dX9_drops_43 rfl rfl ?_
    refine JM_getR (r := 97) fl_WithOneHandModel_62_8 dX9_drops_44 c_80 rfl rfl ?_
    refine J_iload_n (j := 1) dX9_drops_47 rfl rfl ?_
    refine JM_iald (j := ix v1) dX9_drops_48 c_97 (inb_vp b3) rfl ?_
    obtain ⟨m7, e_m7, hF⟩ := letx_eq hF
    refine JM_iast (j := ix (v1 - 1)) dX9_drops_49 c_97 (inb_vp b4) rfl ?_
    rw [← e_m7]
    refine J_aload_n (j := 0) dX9_drops_50 rfl rfl ?_
    refine JM_getR (r := 98) fl_WithOneHandModel_65_8 dX9_drops_51 c_80 rfl rfl ?_
    refine J_iload_n (j := 1) dX9_drops_54 rfl rfl ?_
    refine J_iconst (v := 1) dX9_drops_55 (by decide) ?_
    refine J_isub dX9_drops_56 ?_
    refine J_aload_n (j := 0) dX9_drops_57 rfl rfl ?_
    refine JM_getR (r := 98) fl_WithOneHandModel_65_8 dX9_drops_58 c_80 rfl rfl ?_
    refine J_iload_n (j := 1) dX9_drops_61 rfl rfl ?_
    refine JM_iald (j := ix v1) dX9_drops_62 c_98 (inb_vp b3) rfl ?_
    obtain ⟨m8, e_m8, hF⟩ := letx_eq hF
    refine JM_iast (j := ix (v1 - 1)) dX9_drops_63 c_98 (inb_vp b4) rfl ?_
    rw [← e_m8]
    refine J_iinc (j := 1) (v := v1 + 1) (L' := [(1, .int (v1 + 1)), (0, .ref 80)]) dX9_drops_64 rfl rfl (by decide) rfl ?_
    refine J_goto (tgt := 2) dX9_drops_67 (by decide) ?_
    refine J_sub [1, 0] rfl ?_
    exact hK2 _ _ _  hF
def f_X9_drops_2  : Nat → Int32 → MM → Option MM
  | 0 => fun _ _ => none
  | n + 1 => fun v1 m => B_X9_drops_2 (f_X9_drops_2  n) v1 m
theorem Sf_X9_drops_2 {g : GC} {d : Nat} {x : MX} (hd : 1 ≤ d)  : ∀ (n : Nat) (v1 : Int32) (m : MM) (z : MM), f_X9_drops_2  n v1 m = some z → J g m_X9_drops d 0 0 2 [(0, .ref 80), (1, .int v1)] [] (ST x m) 0 0 (EQ (none) (ST x z)) := by
  intro n
  induction n with
  | zero => intro v1 m z  hF; exact absurd hF (fun q => by cases q)
  | succ n ih =>
    intro v1 m z  hF
    exact SB_X9_drops_2 hd (fun v1 m z  hF => ih v1 m z  hF) hF
def f_X9_drops (m : MM) : Option MM :=
  f_X9_drops_2 LF 1 m
theorem S_X9_drops {g : GC} {d : Nat}  {x : MX} {m : MM} {z : MM} (hd : 1 ≤ d) 
  (hF : f_X9_drops m = some z) : JC g m_X9_drops d 0 0 [.ref 80] (ST x m) (EQ (none) (ST x z)) := by
  refine JC.of (by decide +kernel) (Nat.le_of_ble_eq_true rfl) ?_
  change J g m_X9_drops d 0 0 0 [(0, .ref 80)] [] (ST x m) 0 0 (EQ (none) (ST x z))
  unfold f_X9_drops at hF
  refine J_iconst (v := 1) dX9_drops_0 (by decide) ?_
  refine J_istore_n (L' := [(1, .int 1), (0, .ref 80)]) dX9_drops_1 rfl (by decide) rfl ?_
  refine J_sub [1, 0] rfl ?_
  exact Sf_X9_drops_2 hd _ _ _ _ hF
def B_X9_mend_59 (v1 : Int32) (v2 : Int32) (v3 : Int32) (v4 : Int32) (m : MM) : Option (Int32 × MM) :=
  if inb (mi m 80 28) 40 = true then
  letx (ms m 95 (ix (mi m 80 28)) v1) (fun m8 =>
  if inb (mi m8 80 28) 40 = true then
  letx (ms m8 96 (ix (mi m8 80 28)) v2) (fun m10 =>
  if inb (mi m10 80 28) 40 = true then
  letx (ms m10 97 (ix (mi m10 80 28)) v4) (fun m12 =>
  if inb (mi m12 80 28) 40 = true then
  letx (ms m12 98 (ix (mi m12 80 28)) v3) (fun m14 =>
  letx (ms m14 80 28 ((mi m14 80 28) + 1)) (fun m15 =>
  letx (ms m15 80 29 (mi m15 80 28)) (fun m16 =>
  ob (f_X9_write v1 v2 v3 m16) (fun m17 =>
  some (v4, m17)))))
  else none)
  else none)
  else none)
  else none
theorem SB_X9_mend_59 {g : GC} {d : Nat} {v1 : Int32} {v2 : Int32} {v3 : Int32} {v4 : Int32} {x : MX} {m : MM} {r : Int32} {z : MM} (hd : 3 ≤ d) 
  (hF : B_X9_mend_59 v1 v2 v3 v4 m = some (r, z)) : J g m_X9_mend d 0 0 59 [(0, .ref 80), (1, .int v1), (2, .int v2), (3, .int v3), (4, .int v4)] [] (ST x m) 0 0 (EQ (some (.int r)) (ST x z)) := by
  unfold B_X9_mend_59 at hF
  refine J_aload_n (j := 0) dX9_mend_59 rfl rfl ?_
  refine JM_getR (r := 95) fl_WithOneHandModel_56_8 dX9_mend_60 c_80 rfl rfl ?_
  refine J_aload_n (j := 0) dX9_mend_63 rfl rfl ?_
  refine JM_getI fl_WithOneHandModel_142_8 dX9_mend_64 c_80 rfl ?_
  refine J_iload_n (j := 1) dX9_mend_67 rfl rfl ?_
  obtain ⟨b7, hF⟩ := chk hF
  obtain ⟨m8, e_m8, hF⟩ := letx_eq hF
  refine JM_iast (j := ix (mi m 80 28)) dX9_mend_68 c_95 (inb_vp b7) rfl ?_
  rw [← e_m8]
  refine J_aload_n (j := 0) dX9_mend_69 rfl rfl ?_
  refine JM_getR (r := 96) fl_WithOneHandModel_59_8 dX9_mend_70 c_80 rfl rfl ?_
  refine J_aload_n (j := 0) dX9_mend_73 rfl rfl ?_
  refine JM_getI fl_WithOneHandModel_142_8 dX9_mend_74 c_80 rfl ?_
  refine J_iload_n (j := 2) dX9_mend_77 rfl rfl ?_
  obtain ⟨b9, hF⟩ := chk hF
  obtain ⟨m10, e_m10, hF⟩ := letx_eq hF
  refine JM_iast (j := ix (mi m8 80 28)) dX9_mend_78 c_96 (inb_vp b9) rfl ?_
  rw [← e_m10]
  refine J_aload_n (j := 0) dX9_mend_79 rfl rfl ?_
  refine JM_getR (r := 97) fl_WithOneHandModel_62_8 dX9_mend_80 c_80 rfl rfl ?_
  refine J_aload_n (j := 0) dX9_mend_83 rfl rfl ?_
  refine JM_getI fl_WithOneHandModel_142_8 dX9_mend_84 c_80 rfl ?_
  refine J_iload (j := 4) dX9_mend_87 rfl ?_
  obtain ⟨b11, hF⟩ := chk hF
  obtain ⟨m12, e_m12, hF⟩ := letx_eq hF
  refine JM_iast (j := ix (mi m10 80 28)) dX9_mend_89 c_97 (inb_vp b11) rfl ?_
  rw [← e_m12]
  refine J_aload_n (j := 0) dX9_mend_90 rfl rfl ?_
  refine JM_getR (r := 98) fl_WithOneHandModel_65_8 dX9_mend_91 c_80 rfl rfl ?_
  refine J_aload_n (j := 0) dX9_mend_94 rfl rfl ?_
  refine JM_getI fl_WithOneHandModel_142_8 dX9_mend_95 c_80 rfl ?_
  refine J_iload_n (j := 3) dX9_mend_98 rfl rfl ?_
  obtain ⟨b13, hF⟩ := chk hF
  obtain ⟨m14, e_m14, hF⟩ := letx_eq hF
  refine JM_iast (j := ix (mi m12 80 28)) dX9_mend_99 c_98 (inb_vp b13) rfl ?_
  rw [← e_m14]
  refine J_aload_n (j := 0) dX9_mend_100 rfl rfl ?_
  refine J_dup dX9_mend_101 rfl ?_
  refine JM_getI fl_WithOneHandModel_142_8 dX9_mend_102 c_80 rfl ?_
  refine J_iconst (v := 1) dX9_mend_105 (by decide) ?_
  refine J_iadd dX9_mend_106 ?_
  obtain ⟨m15, e_m15, hF⟩ := letx_eq hF
  refine JM_putI fl_WithOneHandModel_142_8 dX9_mend_107 c_80 rfl rfl rfl ?_
  rw [← e_m15]
  refine J_aload_n (j := 0) dX9_mend_110 rfl rfl ?_
  refine J_aload_n (j := 0) dX9_mend_111 rfl rfl ?_
  refine JM_getI fl_WithOneHandModel_142_8 dX9_mend_112 c_80 rfl ?_
  obtain ⟨m16, e_m16, hF⟩ := letx_eq hF
  refine JM_putI fl_WithOneHandModel_161_8 dX9_mend_115 c_80 rfl rfl rfl ?_
  rw [← e_m16]
  refine J_aload_n (j := 0) dX9_mend_118 rfl rfl ?_
  refine J_iload_n (j := 1) dX9_mend_119 rfl rfl ?_
  refine J_iload_n (j := 2) dX9_mend_120 rfl rfl ?_
  refine J_iload_n (j := 3) dX9_mend_121 rfl rfl ?_
  obtain ⟨m17, h18, hF⟩ := ob_some hF
  refine JM_callVv (As := [.int v1, .int v2, .int v3]) (S := []) lkV_WithOneHandModel_164_X9_write rfl (by decide) dX9_mend_122 c_80 (S_X9_write (by omega) h18) (by omega) rfl rfl (Nat.le_of_ble_eq_true rfl) rfl ?_
  refine J_iload (j := 4) dX9_mend_125 rfl ?_
  obtain ⟨e_r, e_z⟩ := someP hF
  subst e_r
  subst e_z
  exact J_ireturn rfl rfl dX9_mend_127 ⟨rfl, rfl⟩
def f_X9_mend (a1 : Int32) (a2 : Int32) (a3 : Int32) (m : MM) : Option (Int32 × MM) :=
  if (f_X9_isNumber a1 a2 m) = true then
  if (f_X9_isIn a3 (f_X9_least a2) (f_X9_most a2)) = true then
  ob (f_X9_read a1 a2 m) (fun r3 =>
  if r3 = a3 then
  some (r3, m)
  else
  if (mi m 80 28) = 40 then
  ob (f_X9_drops m) (fun m19 =>
  B_X9_mend_59 a1 a2 a3 r3 m19)
  else
  B_X9_mend_59 a1 a2 a3 r3 m)
  else
  some ((-1), m)
  else
  some ((-1), m)
theorem S_X9_mend {g : GC} {d : Nat} {a1 : Int32} {a2 : Int32} {a3 : Int32} {x : MX} {m : MM} {r : Int32} {z : MM} (hd : 3 ≤ d) 
  (hF : f_X9_mend a1 a2 a3 m = some (r, z)) : JC g m_X9_mend d 0 0 [.ref 80, .int a1, .int a2, .int a3] (ST x m) (EQ (some (.int r)) (ST x z)) := by
  refine JC.of (by decide +kernel) (Nat.le_of_ble_eq_true rfl) ?_
  change J g m_X9_mend d 0 0 0 [(0, .ref 80), (1, .int a1), (2, .int a2), (3, .int a3)] [] (ST x m) 0 0 (EQ (some (.int r)) (ST x z))
  unfold f_X9_mend at hF
  refine J_aload_n (j := 0) dX9_mend_0 rfl rfl ?_
  refine J_iload_n (j := 1) dX9_mend_1 rfl rfl ?_
  refine J_iload_n (j := 2) dX9_mend_2 rfl rfl ?_
  refine JM_callVi (As := [.int a1, .int a2]) (S := []) lkV_WithOneHandModel_145_X9_isNumber rfl (by decide) dX9_mend_3 c_80 (S_X9_isNumber (by omega) rfl) (by omega) rfl rfl (Nat.le_of_ble_eq_true rfl) rfl ?_
  refine J_ifb_eq (tgt := 27) dX9_mend_6 (by decide) (fun q1 => ?_) (fun q1 => ?_)
  · rw [if_neg q1] at hF
    refine J_iconst (v := (-1)) dX9_mend_27 (by decide) ?_
    obtain ⟨e_r, e_z⟩ := someP hF
    subst e_r
    subst e_z
    exact J_ireturn rfl rfl dX9_mend_28 ⟨rfl, rfl⟩
  · rw [if_pos q1] at hF
    refine J_aload_n (j := 0) dX9_mend_9 rfl rfl ?_
    refine J_iload_n (j := 3) dX9_mend_10 rfl rfl ?_
    refine J_aload_n (j := 0) dX9_mend_11 rfl rfl ?_
    refine J_iload_n (j := 2) dX9_mend_12 rfl rfl ?_
    refine JM_callVi (As := [.int a2]) (S := [.int a3, .ref 80]) lkV_WithOneHandModel_149_X9_least rfl (by decide) dX9_mend_13 c_80 (S_X9_least (by omega) rfl) (by omega) rfl rfl (Nat.le_of_ble_eq_true rfl) rfl ?_
    refine J_aload_n (j := 0) dX9_mend_16 rfl rfl ?_
    refine J_iload_n (j := 2) dX9_mend_17 rfl rfl ?_
    refine JM_callVi (As := [.int a2]) (S := [.int (f_X9_least a2), .int a3, .ref 80]) lkV_WithOneHandModel_153_X9_most rfl (by decide) dX9_mend_18 c_80 (S_X9_most (by omega) rfl) (by omega) rfl rfl (Nat.le_of_ble_eq_true rfl) rfl ?_
    refine JM_callVi (As := [.int a3, .int (f_X9_least a2), .int (f_X9_most a2)]) (S := []) lkV_WithOneHandModel_114_X9_isIn rfl (by decide) dX9_mend_21 c_80 (S_X9_isIn (by omega) rfl) (by omega) rfl rfl (Nat.le_of_ble_eq_true rfl) rfl ?_
    refine J_ifb_ne (tgt := 29) dX9_mend_24 (by decide) (fun q2 => ?_) (fun q2 => ?_)
    · rw [if_pos q2] at hF
      refine J_aload_n (j := 0) dX9_mend_29 rfl rfl ?_
      refine J_iload_n (j := 1) dX9_mend_30 rfl rfl ?_
      refine J_iload_n (j := 2) dX9_mend_31 rfl rfl ?_
      obtain ⟨r3, h4, hF⟩ := ob_some hF
      refine JM_callVi (As := [.int a1, .int a2]) (S := []) lkV_WithOneHandModel_156_X9_read rfl (by decide) dX9_mend_32 c_80 (S_X9_read (by omega) h4) (by omega) rfl rfl (Nat.le_of_ble_eq_true rfl) rfl ?_
      refine J_istore (L' := [(4, .int r3), (0, .ref 80), (1, .int a1), (2, .int a2), (3, .int a3)]) dX9_mend_35 (by decide) rfl ?_
      refine J_iload (j := 0) dX9_mend_37 rfl ?_
      refine J_iload_n (j := 4) dX9_mend_39 rfl rfl ?_
      refine J_icmp_ne (tgt := 46) dX9_mend_40 (by decide) (fun q5 => ?_) (fun q5 => ?_)
      · rw [if_neg q5] at hF
        refine J_aload_n (j := 1) dX9_mend_46 rfl rfl ?_
        refine JM_getI fl_WithOneHandModel_142_8 dX9_mend_47 c_80 rfl ?_
        refine J_bipush (v := 40) dX9_mend_50 (by decide) ?_
        refine J_icmp_ne (tgt := 59) dX9_mend_52 (by decide) (fun q6 => ?_) (fun q6 => ?_)
        · rw [if_neg q6] at hF
          refine J_sub [1, 2, 3, 4, 0] rfl ?_
          exact SB_X9_mend_59 hd hF
        · rw [if_pos q6] at hF
          refine J_aload_n (j := 1) dX9_mend_55 rfl rfl ?_
          obtain ⟨m19, h20, hF⟩ := ob_some hF
          refine JM_callVv (As := []) (S := []) lkV_WithOneHandModel_159_X9_drops rfl (by decide) dX9_mend_56 c_80 (S_X9_drops (by omega) h20) (by omega) rfl rfl (Nat.le_of_ble_eq_true rfl) rfl ?_
          refine J_sub [1, 2, 3, 4, 0] rfl ?_
          exact SB_X9_mend_59 hd hF
      · rw [if_pos q5] at hF
        refine J_iload (j := 0) dX9_mend_43 rfl ?_
        obtain ⟨e_r, e_z⟩ := someP hF
        subst e_r
        subst e_z
        exact J_ireturn rfl rfl dX9_mend_45 ⟨rfl, rfl⟩
    · rw [if_neg q2] at hF
      refine J_iconst (v := (-1)) dX9_mend_27 (by decide) ?_
      obtain ⟨e_r, e_z⟩ := someP hF
      subst e_r
      subst e_z
      exact J_ireturn rfl rfl dX9_mend_28 ⟨rfl, rfl⟩
def f_X8_isCuff (a1 : Int32) (x : MX) : Bool :=
  if a1 < 0 then
  false
  else
  if (xi x 5 13) ≤ a1 then
  false
  else
  true
theorem S_X8_isCuff {g : GC} {d : Nat} {a1 : Int32} {x : MX} {m : MM} {r : Bool} (hd : 1 ≤ d) 
  (hF : f_X8_isCuff a1 x = r) : JC g m_X8_isCuff d 0 0 [.ref 5, .int a1] (ST x m) (EQ (some (.int (b2i r))) (ST x m)) := by
  refine JC.of (by decide +kernel) (Nat.le_of_ble_eq_true rfl) ?_
  change J g m_X8_isCuff d 0 0 0 [(0, .ref 5), (1, .int a1)] [] (ST x m) 0 0 (EQ (some (.int (b2i r))) (ST x m))
  unfold f_X8_isCuff at hF
  refine J_iload_n (j := 1) dX8_isCuff_0 rfl rfl ?_
  refine J_if_lt (tgt := 16) dX8_isCuff_1 (by decide) (fun q1 => ?_) (fun q1 => ?_)
  · rw [if_pos q1] at hF
    refine J_iconst (v := 0) dX8_isCuff_16 (by decide) ?_
    subst hF
    exact J_ireturn rfl rfl dX8_isCuff_17 ⟨rfl, rfl⟩
  · rw [if_neg q1] at hF
    refine J_iload_n (j := 1) dX8_isCuff_4 rfl rfl ?_
    refine J_aload_n (j := 0) dX8_isCuff_5 rfl rfl ?_
    refine JX_getI fl_WithOneHand_84_7 dX8_isCuff_6 c_5 rfl ?_
    refine J_icmp_ge (tgt := 16) dX8_isCuff_9 (by decide) (fun q2 => ?_) (fun q2 => ?_)
    · rw [if_pos q2] at hF
      refine J_iconst (v := 0) dX8_isCuff_16 (by decide) ?_
      subst hF
      exact J_ireturn rfl rfl dX8_isCuff_17 ⟨rfl, rfl⟩
    · rw [if_neg q2] at hF
      refine J_iconst (v := 1) dX8_isCuff_12 (by decide) ?_
      refine J_goto (tgt := 17) dX8_isCuff_13 (by decide) ?_
      subst hF
      exact J_ireturn rfl rfl dX8_isCuff_17 ⟨rfl, rfl⟩
def f_X8_of (a1 : Int32) (a2 : Int32) (x : MX) : Option Int32 :=
  if a2 = 13 then
  if (f_X8_isCuff a1 x) = true then
  if inb a1 6 = true then
  some (xi x 26 (ix a1))
  else none
  else
  some (-1)
  else
  if (f_X8_isThere a1 a2 x) = true then
  if inb a2 13 = true then
  if inb a1 8 = true then
  some (xi x (7 + ix a2) (ix a1))
  else none
  else none
  else
  some (-1)
theorem S_X8_of {g : GC} {d : Nat} {a1 : Int32} {a2 : Int32} {x : MX} {m : MM} {r : Int32} (hd : 3 ≤ d) 
  (hF : f_X8_of a1 a2 x = some r) : JC g m_X8_of d 0 0 [.ref 5, .int a1, .int a2] (ST x m) (EQ (some (.int r)) (ST x m)) := by
  refine JC.of (by decide +kernel) (Nat.le_of_ble_eq_true rfl) ?_
  change J g m_X8_of d 0 0 0 [(0, .ref 5), (1, .int a1), (2, .int a2)] [] (ST x m) 0 0 (EQ (some (.int r)) (ST x m))
  unfold f_X8_of at hF
  refine J_iload_n (j := 2) dX8_of_0 rfl rfl ?_
  refine J_bipush (v := 13) dX8_of_1 (by decide) ?_
  refine J_icmp_ne (tgt := 28) dX8_of_3 (by decide) (fun q1 => ?_) (fun q1 => ?_)
  · rw [if_neg q1] at hF
    refine J_aload_n (j := 0) dX8_of_28 rfl rfl ?_
    refine J_iload_n (j := 1) dX8_of_29 rfl rfl ?_
    refine J_iload_n (j := 2) dX8_of_30 rfl rfl ?_
    refine JX_callVi (As := [.int a1, .int a2]) (S := []) lkV_WithOneHand_109_X8_isThere rfl (by decide) dX8_of_31 c_5 (S_X8_isThere (by omega) rfl) (by omega) rfl rfl (Nat.le_of_ble_eq_true rfl) rfl ?_
    refine J_ifb_eq (tgt := 48) dX8_of_34 (by decide) (fun q2 => ?_) (fun q2 => ?_)
    · rw [if_neg q2] at hF
      refine J_iconst (v := (-1)) dX8_of_48 (by decide) ?_
      have e_r := Option.some.inj hF
      subst e_r
      exact J_ireturn rfl rfl dX8_of_49 ⟨rfl, rfl⟩
    · rw [if_pos q2] at hF
      refine J_aload_n (j := 0) dX8_of_37 rfl rfl ?_
      refine JX_getR (r := 6) fl_WithOneHand_11_7 dX8_of_38 c_5 rfl rfl ?_
      refine J_iload_n (j := 2) dX8_of_41 rfl rfl ?_
      obtain ⟨b3, hF⟩ := chk hF
      refine JX_aald (j := ix a2) (r := 7 + ix a2) (by decide) dX8_of_42 c_6 (inb_vp b3) rfl (rw_6 _ (inb_lt b3)) ?_
      refine J_iload_n (j := 1) dX8_of_43 rfl rfl ?_
      obtain ⟨b4, hF⟩ := chk hF
      refine JX_iald (j := ix a1) dX8_of_44 (cr_6 (inb_lt b3)) (inb_vp b4) rfl ?_
      refine J_goto (tgt := 49) dX8_of_45 (by decide) ?_
      have e_r := Option.some.inj hF
      subst e_r
      exact J_ireturn rfl rfl dX8_of_49 ⟨rfl, rfl⟩
  · rw [if_pos q1] at hF
    refine J_aload_n (j := 0) dX8_of_6 rfl rfl ?_
    refine J_iload_n (j := 1) dX8_of_7 rfl rfl ?_
    refine JX_callVi (As := [.int a1]) (S := []) lkV_WithOneHand_116_X8_isCuff rfl (by decide) dX8_of_8 c_5 (S_X8_isCuff (by omega) rfl) (by omega) rfl rfl (Nat.le_of_ble_eq_true rfl) rfl ?_
    refine J_ifb_eq (tgt := 26) dX8_of_11 (by decide) (fun q5 => ?_) (fun q5 => ?_)
    · rw [if_neg q5] at hF
      refine J_iconst (v := (-1)) dX8_of_26 (by decide) ?_
      have e_r := Option.some.inj hF
      subst e_r
      exact J_ireturn rfl rfl dX8_of_27 ⟨rfl, rfl⟩
    · rw [if_pos q5] at hF
      refine J_aload_n (j := 0) dX8_of_14 rfl rfl ?_
      refine JX_getR (r := 25) fl_WithOneHand_24_7 dX8_of_15 c_5 rfl rfl ?_
      refine JX_getR (r := 26) fl_WithOneHand_119_0 dX8_of_18 c_25 rfl rfl ?_
      refine J_iload_n (j := 1) dX8_of_21 rfl rfl ?_
      obtain ⟨b6, hF⟩ := chk hF
      refine JX_iald (j := ix a1) dX8_of_22 c_26 (inb_vp b6) rfl ?_
      refine J_goto (tgt := 27) dX8_of_23 (by decide) ?_
      have e_r := Option.some.inj hF
      subst e_r
      exact J_ireturn rfl rfl dX8_of_27 ⟨rfl, rfl⟩
def B_X9_of_21 (v1 : Int32) (v2 : Int32) (m : MM) : Option Int32 :=
  if (f_X9_isNumber v1 v2 m) = true then
  ob (f_X9_read v1 v2 m) (fun r3 =>
  some r3)
  else
  some (-1)
theorem SB_X9_of_21 {g : GC} {d : Nat} {v1 : Int32} {v2 : Int32} {x : MX} {m : MM} {r : Int32} (hd : 3 ≤ d) 
  (hF : B_X9_of_21 v1 v2 m = some r) : J g m_X9_of d 0 0 21 [(0, .ref 80), (1, .int v1), (2, .int v2)] [] (ST x m) 0 0 (EQ (some (.int r)) (ST x m)) := by
  unfold B_X9_of_21 at hF
  refine J_aload_n (j := 0) dX9_of_21 rfl rfl ?_
  refine J_iload_n (j := 1) dX9_of_22 rfl rfl ?_
  refine J_iload_n (j := 2) dX9_of_23 rfl rfl ?_
  refine JM_callVi (As := [.int v1, .int v2]) (S := []) lkV_WithOneHandModel_145_X9_isNumber rfl (by decide) dX9_of_24 c_80 (S_X9_isNumber (by omega) rfl) (by omega) rfl rfl (Nat.le_of_ble_eq_true rfl) rfl ?_
  refine J_ifb_eq (tgt := 39) dX9_of_27 (by decide) (fun q2 => ?_) (fun q2 => ?_)
  · rw [if_neg q2] at hF
    refine J_iconst (v := (-1)) dX9_of_39 (by decide) ?_
    have e_r := Option.some.inj hF
    subst e_r
    exact J_ireturn rfl rfl dX9_of_40 ⟨rfl, rfl⟩
  · rw [if_pos q2] at hF
    refine J_aload_n (j := 0) dX9_of_30 rfl rfl ?_
    refine J_iload_n (j := 1) dX9_of_31 rfl rfl ?_
    refine J_iload_n (j := 2) dX9_of_32 rfl rfl ?_
    obtain ⟨r3, h4, hF⟩ := ob_some hF
    refine JM_callVi (As := [.int v1, .int v2]) (S := []) lkV_WithOneHandModel_156_X9_read rfl (by decide) dX9_of_33 c_80 (S_X9_read (by omega) h4) (by omega) rfl rfl (Nat.le_of_ble_eq_true rfl) rfl ?_
    refine J_goto (tgt := 40) dX9_of_36 (by decide) ?_
    have e_r := Option.some.inj hF
    subst e_r
    exact J_ireturn rfl rfl dX9_of_40 ⟨rfl, rfl⟩
def f_X9_of (a1 : Int32) (a2 : Int32) (m : MM) : Option Int32 :=
  if a2 = 13 then
  if (f_X9_isCuff a1 m) = true then
  if inb a1 6 = true then
  some (mi m 87 (ix a1))
  else none
  else
  B_X9_of_21 a1 a2 m
  else
  B_X9_of_21 a1 a2 m
theorem S_X9_of {g : GC} {d : Nat} {a1 : Int32} {a2 : Int32} {x : MX} {m : MM} {r : Int32} (hd : 3 ≤ d) 
  (hF : f_X9_of a1 a2 m = some r) : JC g m_X9_of d 0 0 [.ref 80, .int a1, .int a2] (ST x m) (EQ (some (.int r)) (ST x m)) := by
  refine JC.of (by decide +kernel) (Nat.le_of_ble_eq_true rfl) ?_
  change J g m_X9_of d 0 0 0 [(0, .ref 80), (1, .int a1), (2, .int a2)] [] (ST x m) 0 0 (EQ (some (.int r)) (ST x m))
  unfold f_X9_of at hF
  refine J_iload_n (j := 2) dX9_of_0 rfl rfl ?_
  refine J_bipush (v := 13) dX9_of_1 (by decide) ?_
  refine J_icmp_ne (tgt := 21) dX9_of_3 (by decide) (fun q1 => ?_) (fun q1 => ?_)
  · rw [if_neg q1] at hF
    exact SB_X9_of_21 hd hF
  · rw [if_pos q1] at hF
    refine J_aload_n (j := 0) dX9_of_6 rfl rfl ?_
    refine J_iload_n (j := 1) dX9_of_7 rfl rfl ?_
    refine JM_callVi (As := [.int a1]) (S := []) lkV_WithOneHandModel_136_X9_isCuff rfl (by decide) dX9_of_8 c_80 (S_X9_isCuff (by omega) rfl) (by omega) rfl rfl (Nat.le_of_ble_eq_true rfl) rfl ?_
    refine J_ifb_eq (tgt := 21) dX9_of_11 (by decide) (fun q5 => ?_) (fun q5 => ?_)
    · rw [if_neg q5] at hF
      exact SB_X9_of_21 hd hF
    · rw [if_pos q5] at hF
      refine J_aload_n (j := 0) dX9_of_14 rfl rfl ?_
      refine JM_getR (r := 87) fl_WithOneHandModel_32_8 dX9_of_15 c_80 rfl rfl ?_
      refine J_iload_n (j := 1) dX9_of_18 rfl rfl ?_
      obtain ⟨b6, hF⟩ := chk hF
      refine JM_iald (j := ix a1) dX9_of_19 c_87 (inb_vp b6) rfl ?_
      have e_r := Option.some.inj hF
      subst e_r
      exact J_ireturn rfl rfl dX9_of_20 ⟨rfl, rfl⟩
def f_X8_feed (a1 : Int32) (x : MX) : Option (Int32 × MX) :=
  if a1 < 0 then
  some ((-1), x)
  else
  if a1 ≤ 255 then
  if isLawB x.1.2 = true then
  if (xi x x.1.2 8) < 120 then
  if inb (xi x x.1.2 8) 120 = true then
  letx (xs x (x.1.2 + 5) (ix (xi x x.1.2 8)) a1) (fun x6 =>
  if isLawB x6.1.2 = true then
  letx (xs x6 x6.1.2 8 ((xi x6 x6.1.2 8) + 1)) (fun x8 =>
  if isLawB x8.1.2 = true then
  some (xi x8 x8.1.2 8, x8)
  else none)
  else none)
  else none
  else
  some ((-3), x)
  else none
  else
  some ((-1), x)
theorem S_X8_feed {g : GC} {d : Nat} {a1 : Int32} {x : MX} {m : MM} {r : Int32} {z : MX} (hd : 1 ≤ d) 
  (hF : f_X8_feed a1 x = some (r, z)) : JC g m_X8_feed d 0 0 [.ref 5, .int a1] (ST x m) (EQ (some (.int r)) (ST z m)) := by
  refine JC.of (by decide +kernel) (Nat.le_of_ble_eq_true rfl) ?_
  change J g m_X8_feed d 0 0 0 [(0, .ref 5), (1, .int a1)] [] (ST x m) 0 0 (EQ (some (.int r)) (ST z m))
  unfold f_X8_feed at hF
  refine J_iload_n (j := 1) dX8_feed_0 rfl rfl ?_
  refine J_if_lt (tgt := 11) dX8_feed_1 (by decide) (fun q1 => ?_) (fun q1 => ?_)
  · rw [if_pos q1] at hF
    refine J_iconst (v := (-1)) dX8_feed_11 (by decide) ?_
    obtain ⟨e_r, e_z⟩ := someP hF
    subst e_r
    subst e_z
    exact J_ireturn rfl rfl dX8_feed_12 ⟨rfl, rfl⟩
  · rw [if_neg q1] at hF
    refine J_iload_n (j := 1) dX8_feed_4 rfl rfl ?_
    refine J_sipush (v := 255) dX8_feed_5 (by decide) ?_
    refine J_icmp_le (tgt := 13) dX8_feed_8 (by decide) (fun q2 => ?_) (fun q2 => ?_)
    · rw [if_pos q2] at hF
      refine J_aload_n (j := 0) dX8_feed_13 rfl rfl ?_
      obtain ⟨b3, hF⟩ := chk hF
      refine JX_getR (r := x.1.2) fl_WithOneHand_72_7 dX8_feed_14 c_5 rfl rfl ?_
      refine JX_getI fl_WithOneHand_122_3 dX8_feed_17 (c_law (law_of b3)) rfl ?_
      refine J_bipush (v := 120) dX8_feed_20 (by decide) ?_
      refine J_icmp_lt (tgt := 28) dX8_feed_22 (by decide) (fun q4 => ?_) (fun q4 => ?_)
      · rw [if_pos q4] at hF
        refine J_aload_n (j := 0) dX8_feed_28 rfl rfl ?_
        refine JX_getR (r := x.1.2) fl_WithOneHand_72_7 dX8_feed_29 c_5 rfl rfl ?_
        refine JX_getR (r := (x.1.2 + 5)) fl_WithOneHand_125_3 dX8_feed_32 (c_law (law_of b3)) rfl rfl ?_
        refine J_aload_n (j := 0) dX8_feed_35 rfl rfl ?_
        refine JX_getR (r := x.1.2) fl_WithOneHand_72_7 dX8_feed_36 c_5 rfl rfl ?_
        refine JX_getI fl_WithOneHand_122_3 dX8_feed_39 (c_law (law_of b3)) rfl ?_
        refine J_iload_n (j := 1) dX8_feed_42 rfl rfl ?_
        obtain ⟨b5, hF⟩ := chk hF
        obtain ⟨x6, e_x6, hF⟩ := letx_eq hF
        refine JX_iast (j := ix (xi x x.1.2 8)) dX8_feed_43 (c_law5 (law_of b3)) (inb_vp b5) rfl ?_
        rw [← e_x6]
        refine J_aload_n (j := 0) dX8_feed_44 rfl rfl ?_
        obtain ⟨b7, hF⟩ := chk hF
        refine JX_getR (r := x6.1.2) fl_WithOneHand_72_7 dX8_feed_45 c_5 rfl rfl ?_
        refine J_dup dX8_feed_48 rfl ?_
        refine JX_getI fl_WithOneHand_122_3 dX8_feed_49 (c_law (law_of b7)) rfl ?_
        refine J_iconst (v := 1) dX8_feed_52 (by decide) ?_
        refine J_iadd dX8_feed_53 ?_
        obtain ⟨x8, e_x8, hF⟩ := letx_eq hF
        refine JX_putI fl_WithOneHand_122_3 dX8_feed_54 (c_law (law_of b7)) rfl rfl rfl ?_
        rw [← e_x8]
        refine J_aload_n (j := 0) dX8_feed_57 rfl rfl ?_
        obtain ⟨b9, hF⟩ := chk hF
        refine JX_getR (r := x8.1.2) fl_WithOneHand_72_7 dX8_feed_58 c_5 rfl rfl ?_
        refine JX_getI fl_WithOneHand_122_3 dX8_feed_61 (c_law (law_of b9)) rfl ?_
        obtain ⟨e_r, e_z⟩ := someP hF
        subst e_r
        subst e_z
        exact J_ireturn rfl rfl dX8_feed_64 ⟨rfl, rfl⟩
      · rw [if_neg q4] at hF
        refine J_bipush (v := (-3)) dX8_feed_25 (by decide) ?_
        obtain ⟨e_r, e_z⟩ := someP hF
        subst e_r
        subst e_z
        exact J_ireturn rfl rfl dX8_feed_27 ⟨rfl, rfl⟩
    · rw [if_neg q2] at hF
      refine J_iconst (v := (-1)) dX8_feed_11 (by decide) ?_
      obtain ⟨e_r, e_z⟩ := someP hF
      subst e_r
      subst e_z
      exact J_ireturn rfl rfl dX8_feed_12 ⟨rfl, rfl⟩
def f_X9_feed (a1 : Int32) (m : MM) : Option (Int32 × MM) :=
  if (f_X9_isIn a1 0 255) = true then
  if (mi m 80 5) = 120 then
  some ((-3), m)
  else
  if inb (mi m 80 5) 120 = true then
  letx (ms m 93 (ix (mi m 80 5)) a1) (fun m4 =>
  letx (ms m4 80 5 ((mi m4 80 5) + 1)) (fun m5 =>
  some (mi m5 80 5, m5)))
  else none
  else
  some ((-1), m)
theorem S_X9_feed {g : GC} {d : Nat} {a1 : Int32} {x : MX} {m : MM} {r : Int32} {z : MM} (hd : 2 ≤ d) 
  (hF : f_X9_feed a1 m = some (r, z)) : JC g m_X9_feed d 0 0 [.ref 80, .int a1] (ST x m) (EQ (some (.int r)) (ST x z)) := by
  refine JC.of (by decide +kernel) (Nat.le_of_ble_eq_true rfl) ?_
  change J g m_X9_feed d 0 0 0 [(0, .ref 80), (1, .int a1)] [] (ST x m) 0 0 (EQ (some (.int r)) (ST x z))
  unfold f_X9_feed at hF
  refine J_aload_n (j := 0) dX9_feed_0 rfl rfl ?_
  refine J_iload_n (j := 1) dX9_feed_1 rfl rfl ?_
  refine J_iconst (v := 0) dX9_feed_2 (by decide) ?_
  refine J_sipush (v := 255) dX9_feed_3 (by decide) ?_
  refine JM_callVi (As := [.int a1, .int 0, .int 255]) (S := []) lkV_WithOneHandModel_114_X9_isIn rfl (by decide) dX9_feed_6 c_80 (S_X9_isIn (by omega) rfl) (by omega) rfl rfl (Nat.le_of_ble_eq_true rfl) rfl ?_
  refine J_ifb_ne (tgt := 14) dX9_feed_9 (by decide) (fun q1 => ?_) (fun q1 => ?_)
  · rw [if_pos q1] at hF
    refine J_aload_n (j := 0) dX9_feed_14 rfl rfl ?_
    refine JM_getI fl_WithOneHandModel_168_8 dX9_feed_15 c_80 rfl ?_
    refine J_bipush (v := 120) dX9_feed_18 (by decide) ?_
    refine J_icmp_ne (tgt := 26) dX9_feed_20 (by decide) (fun q2 => ?_) (fun q2 => ?_)
    · rw [if_neg q2] at hF
      refine J_aload_n (j := 0) dX9_feed_26 rfl rfl ?_
      refine JM_getR (r := 93) fl_WithOneHandModel_50_8 dX9_feed_27 c_80 rfl rfl ?_
      refine J_aload_n (j := 0) dX9_feed_30 rfl rfl ?_
      refine JM_getI fl_WithOneHandModel_168_8 dX9_feed_31 c_80 rfl ?_
      refine J_iload_n (j := 1) dX9_feed_34 rfl rfl ?_
      obtain ⟨b3, hF⟩ := chk hF
      obtain ⟨m4, e_m4, hF⟩ := letx_eq hF
      refine JM_iast (j := ix (mi m 80 5)) dX9_feed_35 c_93 (inb_vp b3) rfl ?_
      rw [← e_m4]
      refine J_aload_n (j := 0) dX9_feed_36 rfl rfl ?_
      refine J_dup dX9_feed_37 rfl ?_
      refine JM_getI fl_WithOneHandModel_168_8 dX9_feed_38 c_80 rfl ?_
      refine J_iconst (v := 1) dX9_feed_41 (by decide) ?_
      refine J_iadd dX9_feed_42 ?_
      obtain ⟨m5, e_m5, hF⟩ := letx_eq hF
      refine JM_putI fl_WithOneHandModel_168_8 dX9_feed_43 c_80 rfl rfl rfl ?_
      rw [← e_m5]
      refine J_aload_n (j := 0) dX9_feed_46 rfl rfl ?_
      refine JM_getI fl_WithOneHandModel_168_8 dX9_feed_47 c_80 rfl ?_
      obtain ⟨e_r, e_z⟩ := someP hF
      subst e_r
      subst e_z
      exact J_ireturn rfl rfl dX9_feed_50 ⟨rfl, rfl⟩
    · rw [if_pos q2] at hF
      refine J_bipush (v := (-3)) dX9_feed_23 (by decide) ?_
      obtain ⟨e_r, e_z⟩ := someP hF
      subst e_r
      subst e_z
      exact J_ireturn rfl rfl dX9_feed_25 ⟨rfl, rfl⟩
  · rw [if_neg q1] at hF
    refine J_iconst (v := (-1)) dX9_feed_12 (by decide) ?_
    obtain ⟨e_r, e_z⟩ := someP hF
    subst e_r
    subst e_z
    exact J_ireturn rfl rfl dX9_feed_13 ⟨rfl, rfl⟩
def f_X3_here (h0 : Nat) (x : MX) : Option Int32 :=
  if (xi x h0 6) < 0 then
  some (-1)
  else
  if (xi x h0 8) ≤ (xi x h0 6) then
  some (-1)
  else
  if 120 ≤ (xi x h0 6) then
  some (-1)
  else
  if inb (xi x h0 6) 120 = true then
  some (xi x (h0 + 5) (ix (xi x h0 6)))
  else none
theorem S_X3_here {g : GC} {d : Nat} {h0 : Nat} {x : MX} {m : MM} {r : Int32} (hd : 1 ≤ d) (e_h0 : isLaw h0)
  (hF : f_X3_here h0 x = some r) : JC g m_X3_here d 0 0 [.ref h0] (ST x m) (EQ (some (.int r)) (ST x m)) := by
  refine JC.of (by decide +kernel) (Nat.le_of_ble_eq_true rfl) ?_
  change J g m_X3_here d 0 0 0 [(0, .ref h0)] [] (ST x m) 0 0 (EQ (some (.int r)) (ST x m))
  unfold f_X3_here at hF
  refine J_aload_n (j := 0) dX3_here_0 rfl rfl ?_
  refine JX_getI fl_Law_31_3 dX3_here_1 (c_law e_h0) rfl ?_
  refine J_if_lt (tgt := 42) dX3_here_4 (by decide) (fun q1 => ?_) (fun q1 => ?_)
  · rw [if_pos q1] at hF
    refine J_iconst (v := (-1)) dX3_here_42 (by decide) ?_
    have e_r := Option.some.inj hF
    subst e_r
    exact J_ireturn rfl rfl dX3_here_43 ⟨rfl, rfl⟩
  · rw [if_neg q1] at hF
    refine J_aload_n (j := 0) dX3_here_7 rfl rfl ?_
    refine JX_getI fl_Law_31_3 dX3_here_8 (c_law e_h0) rfl ?_
    refine J_aload_n (j := 0) dX3_here_11 rfl rfl ?_
    refine JX_getI fl_Law_34_3 dX3_here_12 (c_law e_h0) rfl ?_
    refine J_icmp_ge (tgt := 42) dX3_here_15 (by decide) (fun q2 => ?_) (fun q2 => ?_)
    · rw [if_pos q2] at hF
      refine J_iconst (v := (-1)) dX3_here_42 (by decide) ?_
      have e_r := Option.some.inj hF
      subst e_r
      exact J_ireturn rfl rfl dX3_here_43 ⟨rfl, rfl⟩
    · rw [if_neg q2] at hF
      refine J_aload_n (j := 0) dX3_here_18 rfl rfl ?_
      refine JX_getI fl_Law_31_3 dX3_here_19 (c_law e_h0) rfl ?_
      refine J_aload_n (j := 0) dX3_here_22 rfl rfl ?_
      refine JX_getR (r := (h0 + 5)) fl_Law_24_3 dX3_here_23 (c_law e_h0) rfl rfl ?_
      refine JX_alenI (v := 120) dX3_here_26 (c_law5 e_h0) (by decide) ?_
      refine J_icmp_ge (tgt := 42) dX3_here_27 (by decide) (fun q3 => ?_) (fun q3 => ?_)
      · rw [if_pos q3] at hF
        refine J_iconst (v := (-1)) dX3_here_42 (by decide) ?_
        have e_r := Option.some.inj hF
        subst e_r
        exact J_ireturn rfl rfl dX3_here_43 ⟨rfl, rfl⟩
      · rw [if_neg q3] at hF
        refine J_aload_n (j := 0) dX3_here_30 rfl rfl ?_
        refine JX_getR (r := (h0 + 5)) fl_Law_24_3 dX3_here_31 (c_law e_h0) rfl rfl ?_
        refine J_aload_n (j := 0) dX3_here_34 rfl rfl ?_
        refine JX_getI fl_Law_31_3 dX3_here_35 (c_law e_h0) rfl ?_
        obtain ⟨b4, hF⟩ := chk hF
        refine JX_iald (j := ix (xi x h0 6)) dX3_here_38 (c_law5 e_h0) (inb_vp b4) rfl ?_
        refine J_goto (tgt := 43) dX3_here_39 (by decide) ?_
        have e_r := Option.some.inj hF
        subst e_r
        exact J_ireturn rfl rfl dX3_here_43 ⟨rfl, rfl⟩
def f_X3_levelOf (a0 : Int32) : Int32 :=
  if a0 = 37 then
  4
  else
  if a0 = 38 then
  1
  else
  if a0 = 42 then
  4
  else
  if a0 = 43 then
  3
  else
  if a0 = 45 then
  3
  else
  if a0 = 47 then
  4
  else
  if a0 = 60 then
  2
  else
  if a0 = 61 then
  2
  else
  if a0 = 62 then
  2
  else
  if a0 = 124 then
  0
  else
  (-1)
theorem S_X3_levelOf {g : GC} {d : Nat} {a0 : Int32} {x : MX} {m : MM} {r : Int32} (hd : 1 ≤ d) 
  (hF : f_X3_levelOf a0 = r) : JC g m_X3_levelOf d 0 0 [.int a0] (ST x m) (EQ (some (.int r)) (ST x m)) := by
  refine JC.of (by decide +kernel) (Nat.le_of_ble_eq_true rfl) ?_
  change J g m_X3_levelOf d 0 0 0 [(0, .int a0)] [] (ST x m) 0 0 (EQ (some (.int r)) (ST x m))
  unfold f_X3_levelOf at hF
  refine J_iload_n (j := 0) dX3_levelOf_0 rfl rfl ?_
  refine J_lsw (td := 102) (cs := [(37, 100), (38, 94), (42, 100), (43, 98), (45, 98), (47, 100), (60, 96), (61, 96), (62, 96), (124, 92)]) dX3_levelOf_1 (by decide +kernel) (by decide) (by decide) (by decide +kernel) ?_
  refine J_sw (fun q1 => ?_) (fun q1 => ?_)
  · rw [if_pos q1] at hF
    refine J_iconst (v := 4) dX3_levelOf_100 (by decide) ?_
    subst hF
    exact J_ireturn rfl rfl dX3_levelOf_101 ⟨rfl, rfl⟩
  rw [if_neg q1] at hF
  refine J_sw (fun q2 => ?_) (fun q2 => ?_)
  · rw [if_pos q2] at hF
    refine J_iconst (v := 1) dX3_levelOf_94 (by decide) ?_
    subst hF
    exact J_ireturn rfl rfl dX3_levelOf_95 ⟨rfl, rfl⟩
  rw [if_neg q2] at hF
  refine J_sw (fun q3 => ?_) (fun q3 => ?_)
  · rw [if_pos q3] at hF
    refine J_iconst (v := 4) dX3_levelOf_100 (by decide) ?_
    subst hF
    exact J_ireturn rfl rfl dX3_levelOf_101 ⟨rfl, rfl⟩
  rw [if_neg q3] at hF
  refine J_sw (fun q4 => ?_) (fun q4 => ?_)
  · rw [if_pos q4] at hF
    refine J_iconst (v := 3) dX3_levelOf_98 (by decide) ?_
    subst hF
    exact J_ireturn rfl rfl dX3_levelOf_99 ⟨rfl, rfl⟩
  rw [if_neg q4] at hF
  refine J_sw (fun q5 => ?_) (fun q5 => ?_)
  · rw [if_pos q5] at hF
    refine J_iconst (v := 3) dX3_levelOf_98 (by decide) ?_
    subst hF
    exact J_ireturn rfl rfl dX3_levelOf_99 ⟨rfl, rfl⟩
  rw [if_neg q5] at hF
  refine J_sw (fun q6 => ?_) (fun q6 => ?_)
  · rw [if_pos q6] at hF
    refine J_iconst (v := 4) dX3_levelOf_100 (by decide) ?_
    subst hF
    exact J_ireturn rfl rfl dX3_levelOf_101 ⟨rfl, rfl⟩
  rw [if_neg q6] at hF
  refine J_sw (fun q7 => ?_) (fun q7 => ?_)
  · rw [if_pos q7] at hF
    refine J_iconst (v := 2) dX3_levelOf_96 (by decide) ?_
    subst hF
    exact J_ireturn rfl rfl dX3_levelOf_97 ⟨rfl, rfl⟩
  rw [if_neg q7] at hF
  refine J_sw (fun q8 => ?_) (fun q8 => ?_)
  · rw [if_pos q8] at hF
    refine J_iconst (v := 2) dX3_levelOf_96 (by decide) ?_
    subst hF
    exact J_ireturn rfl rfl dX3_levelOf_97 ⟨rfl, rfl⟩
  rw [if_neg q8] at hF
  refine J_sw (fun q9 => ?_) (fun q9 => ?_)
  · rw [if_pos q9] at hF
    refine J_iconst (v := 2) dX3_levelOf_96 (by decide) ?_
    subst hF
    exact J_ireturn rfl rfl dX3_levelOf_97 ⟨rfl, rfl⟩
  rw [if_neg q9] at hF
  refine J_sw (fun q10 => ?_) (fun q10 => ?_)
  · rw [if_pos q10] at hF
    refine J_iconst (v := 0) dX3_levelOf_92 (by decide) ?_
    subst hF
    exact J_ireturn rfl rfl dX3_levelOf_93 ⟨rfl, rfl⟩
  rw [if_neg q10] at hF
  refine J_swd ?_
  refine J_iconst (v := (-1)) dX3_levelOf_102 (by decide) ?_
  subst hF
  exact J_ireturn rfl rfl dX3_levelOf_103 ⟨rfl, rfl⟩
def f_X3_add (h0 : Nat) (a1 : Int32) (a2 : Int32) (x : MX) : Option MX :=
  if (xi x h0 4) < 121 then
  if inb (xi x h0 4) 121 = true then
  letx (xs x (h0 + 1) (ix (xi x h0 4)) a1) (fun x3 =>
  if inb (xi x3 h0 4) 121 = true then
  letx (xs x3 (h0 + 2) (ix (xi x3 h0 4)) a2) (fun x5 =>
  letx (xs x5 h0 4 ((xi x5 h0 4) + 1)) (fun x6 =>
  some x6))
  else none)
  else none
  else
  some x
theorem S_X3_add {g : GC} {d : Nat} {h0 : Nat} {a1 : Int32} {a2 : Int32} {x : MX} {m : MM} {z : MX} (hd : 1 ≤ d) (e_h0 : isLaw h0)
  (hF : f_X3_add h0 a1 a2 x = some z) : JC g m_X3_add d 0 0 [.ref h0, .int a1, .int a2] (ST x m) (EQ (none) (ST z m)) := by
  refine JC.of (by decide +kernel) (Nat.le_of_ble_eq_true rfl) ?_
  change J g m_X3_add d 0 0 0 [(0, .ref h0), (1, .int a1), (2, .int a2)] [] (ST x m) 0 0 (EQ (none) (ST z m))
  unfold f_X3_add at hF
  refine J_aload_n (j := 0) dX3_add_0 rfl rfl ?_
  refine JX_getI fl_Law_27_3 dX3_add_1 (c_law e_h0) rfl ?_
  refine J_aload_n (j := 0) dX3_add_4 rfl rfl ?_
  refine JX_getR (r := (h0 + 1)) fl_Law_9_3 dX3_add_5 (c_law e_h0) rfl rfl ?_
  refine JX_alenI (v := 121) dX3_add_8 (c_law1 e_h0) (by decide) ?_
  refine J_icmp_lt (tgt := 13) dX3_add_9 (by decide) (fun q1 => ?_) (fun q1 => ?_)
  · rw [if_pos q1] at hF
    refine J_aload_n (j := 0) dX3_add_13 rfl rfl ?_
    refine JX_getR (r := (h0 + 1)) fl_Law_9_3 dX3_add_14 (c_law e_h0) rfl rfl ?_
    refine J_aload_n (j := 0) dX3_add_17 rfl rfl ?_
    refine JX_getI fl_Law_27_3 dX3_add_18 (c_law e_h0) rfl ?_
    refine J_iload_n (j := 1) dX3_add_21 rfl rfl ?_
    obtain ⟨b2, hF⟩ := chk hF
    obtain ⟨x3, e_x3, hF⟩ := letx_eq hF
    refine JX_iast (j := ix (xi x h0 4)) dX3_add_22 (c_law1 e_h0) (inb_vp b2) rfl ?_
    rw [← e_x3]
    refine J_aload_n (j := 0) dX3_add_23 rfl rfl ?_
    refine JX_getR (r := (h0 + 2)) fl_Law_15_3 dX3_add_24 (c_law e_h0) rfl rfl ?_
    refine J_aload_n (j := 0) dX3_add_27 rfl rfl ?_
    refine JX_getI fl_Law_27_3 dX3_add_28 (c_law e_h0) rfl ?_
    refine J_iload_n (j := 2) dX3_add_31 rfl rfl ?_
    obtain ⟨b4, hF⟩ := chk hF
    obtain ⟨x5, e_x5, hF⟩ := letx_eq hF
    refine JX_iast (j := ix (xi x3 h0 4)) dX3_add_32 (c_law2 e_h0) (inb_vp b4) rfl ?_
    rw [← e_x5]
    refine J_aload_n (j := 0) dX3_add_33 rfl rfl ?_
    refine J_dup dX3_add_34 rfl ?_
    refine JX_getI fl_Law_27_3 dX3_add_35 (c_law e_h0) rfl ?_
    refine J_iconst (v := 1) dX3_add_38 (by decide) ?_
    refine J_iadd dX3_add_39 ?_
    obtain ⟨x6, e_x6, hF⟩ := letx_eq hF
    refine JX_putI fl_Law_27_3 dX3_add_40 (c_law e_h0) rfl rfl rfl ?_
    rw [← e_x6]
    have e_r := Option.some.inj hF
    subst e_r
    exact J_return rfl dX3_add_43 ⟨rfl, rfl⟩
  · rw [if_neg q1] at hF
    have e_r := Option.some.inj hF
    subst e_r
    exact J_return rfl dX3_add_12 ⟨rfl, rfl⟩
def f_X3_isDigit (a0 : Int32) : Bool :=
  if a0 < 48 then
  false
  else
  if 57 < a0 then
  false
  else
  true
theorem S_X3_isDigit {g : GC} {d : Nat} {a0 : Int32} {x : MX} {m : MM} {r : Bool} (hd : 1 ≤ d) 
  (hF : f_X3_isDigit a0 = r) : JC g m_X3_isDigit d 0 0 [.int a0] (ST x m) (EQ (some (.int (b2i r))) (ST x m)) := by
  refine JC.of (by decide +kernel) (Nat.le_of_ble_eq_true rfl) ?_
  change J g m_X3_isDigit d 0 0 0 [(0, .int a0)] [] (ST x m) 0 0 (EQ (some (.int (b2i r))) (ST x m))
  unfold f_X3_isDigit at hF
  refine J_iload_n (j := 0) dX3_isDigit_0 rfl rfl ?_
  refine J_bipush (v := 48) dX3_isDigit_1 (by decide) ?_
  refine J_icmp_lt (tgt := 16) dX3_isDigit_3 (by decide) (fun q1 => ?_) (fun q1 => ?_)
  · rw [if_pos q1] at hF
    refine J_iconst (v := 0) dX3_isDigit_16 (by decide) ?_
    subst hF
    exact J_ireturn rfl rfl dX3_isDigit_17 ⟨rfl, rfl⟩
  · rw [if_neg q1] at hF
    refine J_iload_n (j := 0) dX3_isDigit_6 rfl rfl ?_
    refine J_bipush (v := 57) dX3_isDigit_7 (by decide) ?_
    refine J_icmp_gt (tgt := 16) dX3_isDigit_9 (by decide) (fun q2 => ?_) (fun q2 => ?_)
    · rw [if_pos q2] at hF
      refine J_iconst (v := 0) dX3_isDigit_16 (by decide) ?_
      subst hF
      exact J_ireturn rfl rfl dX3_isDigit_17 ⟨rfl, rfl⟩
    · rw [if_neg q2] at hF
      refine J_iconst (v := 1) dX3_isDigit_12 (by decide) ?_
      refine J_goto (tgt := 17) dX3_isDigit_13 (by decide) ?_
      subst hF
      exact J_ireturn rfl rfl dX3_isDigit_17 ⟨rfl, rfl⟩
def f_X3_nameOf (a0 : Int32) : Int32 :=
  if a0 = 99 then
  5
  else
  if a0 = 104 then
  0
  else
  if a0 = 108 then
  1
  else
  if a0 = 110 then
  4
  else
  if a0 = 111 then
  2
  else
  if a0 = 115 then
  3
  else
  (-1)
theorem S_X3_nameOf {g : GC} {d : Nat} {a0 : Int32} {x : MX} {m : MM} {r : Int32} (hd : 1 ≤ d) 
  (hF : f_X3_nameOf a0 = r) : JC g m_X3_nameOf d 0 0 [.int a0] (ST x m) (EQ (some (.int r)) (ST x m)) := by
  refine JC.of (by decide +kernel) (Nat.le_of_ble_eq_true rfl) ?_
  change J g m_X3_nameOf d 0 0 0 [(0, .int a0)] [] (ST x m) 0 0 (EQ (some (.int r)) (ST x m))
  unfold f_X3_nameOf at hF
  refine J_iload_n (j := 0) dX3_nameOf_0 rfl rfl ?_
  refine J_tsw (n := 16) (td := 96) (cs := [(99, 94), (104, 84), (108, 86), (110, 92), (111, 88), (115, 90)]) dX3_nameOf_1 (by decide) (by decide) (by decide +kernel) (by decide +kernel) ?_
  refine J_sw (fun q1 => ?_) (fun q1 => ?_)
  · rw [if_pos q1] at hF
    refine J_iconst (v := 5) dX3_nameOf_94 (by decide) ?_
    subst hF
    exact J_ireturn rfl rfl dX3_nameOf_95 ⟨rfl, rfl⟩
  rw [if_neg q1] at hF
  refine J_sw (fun q2 => ?_) (fun q2 => ?_)
  · rw [if_pos q2] at hF
    refine J_iconst (v := 0) dX3_nameOf_84 (by decide) ?_
    subst hF
    exact J_ireturn rfl rfl dX3_nameOf_85 ⟨rfl, rfl⟩
  rw [if_neg q2] at hF
  refine J_sw (fun q3 => ?_) (fun q3 => ?_)
  · rw [if_pos q3] at hF
    refine J_iconst (v := 1) dX3_nameOf_86 (by decide) ?_
    subst hF
    exact J_ireturn rfl rfl dX3_nameOf_87 ⟨rfl, rfl⟩
  rw [if_neg q3] at hF
  refine J_sw (fun q4 => ?_) (fun q4 => ?_)
  · rw [if_pos q4] at hF
    refine J_iconst (v := 4) dX3_nameOf_92 (by decide) ?_
    subst hF
    exact J_ireturn rfl rfl dX3_nameOf_93 ⟨rfl, rfl⟩
  rw [if_neg q4] at hF
  refine J_sw (fun q5 => ?_) (fun q5 => ?_)
  · rw [if_pos q5] at hF
    refine J_iconst (v := 2) dX3_nameOf_88 (by decide) ?_
    subst hF
    exact J_ireturn rfl rfl dX3_nameOf_89 ⟨rfl, rfl⟩
  rw [if_neg q5] at hF
  refine J_sw (fun q6 => ?_) (fun q6 => ?_)
  · rw [if_pos q6] at hF
    refine J_iconst (v := 3) dX3_nameOf_90 (by decide) ?_
    subst hF
    exact J_ireturn rfl rfl dX3_nameOf_91 ⟨rfl, rfl⟩
  rw [if_neg q6] at hF
  refine J_swd ?_
  refine J_iconst (v := (-1)) dX3_nameOf_96 (by decide) ?_
  subst hF
  exact J_ireturn rfl rfl dX3_nameOf_97 ⟨rfl, rfl⟩
def f_X3_closes (h0 : Nat) (x : MX) : Option (Bool × MX) :=
  ob (f_X3_here h0 x) (fun r1 =>
  if r1 = 41 then
  letx (xs x h0 6 ((xi x h0 6) + 1)) (fun x4 =>
  some (true, x4))
  else
  some (false, x))
theorem S_X3_closes {g : GC} {d : Nat} {h0 : Nat} {x : MX} {m : MM} {r : Bool} {z : MX} (hd : 2 ≤ d) (e_h0 : isLaw h0)
  (hF : f_X3_closes h0 x = some (r, z)) : JC g m_X3_closes d 0 0 [.ref h0] (ST x m) (EQ (some (.int (b2i r))) (ST z m)) := by
  refine JC.of (by decide +kernel) (Nat.le_of_ble_eq_true rfl) ?_
  change J g m_X3_closes d 0 0 0 [(0, .ref h0)] [] (ST x m) 0 0 (EQ (some (.int (b2i r))) (ST z m))
  unfold f_X3_closes at hF
  refine J_aload_n (j := 0) dX3_closes_0 rfl rfl ?_
  obtain ⟨r1, h2, hF⟩ := ob_some hF
  refine JX_callVi (As := []) (S := []) lkV_Law_41_X3_here rfl (by decide) dX3_closes_1 (c_law e_h0) (S_X3_here (by omega) e_h0 h2) (by omega) rfl rfl (Nat.le_of_ble_eq_true rfl) rfl ?_
  refine J_bipush (v := 41) dX3_closes_4 (by decide) ?_
  refine J_icmp_eq (tgt := 11) dX3_closes_6 (by decide) (fun q3 => ?_) (fun q3 => ?_)
  · rw [if_pos q3] at hF
    refine J_aload_n (j := 0) dX3_closes_11 rfl rfl ?_
    refine J_dup dX3_closes_12 rfl ?_
    refine JX_getI fl_Law_31_3 dX3_closes_13 (c_law e_h0) rfl ?_
    refine J_iconst (v := 1) dX3_closes_16 (by decide) ?_
    refine J_iadd dX3_closes_17 ?_
    obtain ⟨x4, e_x4, hF⟩ := letx_eq hF
    refine JX_putI fl_Law_31_3 dX3_closes_18 (c_law e_h0) rfl rfl rfl ?_
    rw [← e_x4]
    refine J_iconst (v := 1) dX3_closes_21 (by decide) ?_
    obtain ⟨e_r, e_z⟩ := someP hF
    subst e_r
    subst e_z
    exact J_ireturn rfl rfl dX3_closes_22 ⟨rfl, rfl⟩
  · rw [if_neg q3] at hF
    refine J_iconst (v := 0) dX3_closes_9 (by decide) ?_
    obtain ⟨e_r, e_z⟩ := someP hF
    subst e_r
    subst e_z
    exact J_ireturn rfl rfl dX3_closes_10 ⟨rfl, rfl⟩
def B_X3_readsNumber_48 (v0 : Nat) (v1 : Int32) (x : MX) : Option (Bool × MX) :=
  ob (f_X3_add v0 48 v1 x) (fun x2 =>
  some (true, x2))
theorem SB_X3_readsNumber_48 {g : GC} {d : Nat} {v0 : Nat} {v1 : Int32} {x : MX} {m : MM} {r : Bool} {z : MX} (hd : 2 ≤ d) (e_v0 : isLaw v0)
  (hF : B_X3_readsNumber_48 v0 v1 x = some (r, z)) : J g m_X3_readsNumber d 0 0 48 [(0, .ref v0), (1, .int v1)] [] (ST x m) 0 0 (EQ (some (.int (b2i r))) (ST z m)) := by
  unfold B_X3_readsNumber_48 at hF
  refine J_aload_n (j := 0) dX3_readsNumber_48 rfl rfl ?_
  refine J_bipush (v := 48) dX3_readsNumber_49 (by decide) ?_
  refine J_iload_n (j := 1) dX3_readsNumber_51 rfl rfl ?_
  obtain ⟨x2, h3, hF⟩ := ob_some hF
  refine JX_callVv (As := [.int 48, .int v1]) (S := []) lkV_Law_49_X3_add rfl (by decide) dX3_readsNumber_52 (c_law e_v0) (S_X3_add (by omega) e_v0 h3) (by omega) rfl rfl (Nat.le_of_ble_eq_true rfl) rfl ?_
  refine J_iconst (v := 1) dX3_readsNumber_55 (by decide) ?_
  obtain ⟨e_r, e_z⟩ := someP hF
  subst e_r
  subst e_z
  exact J_ireturn rfl rfl dX3_readsNumber_56 ⟨rfl, rfl⟩
def B_X3_readsNumber_4 (K4 : Nat → Int32 → Int32 → MX → Option (Bool × MX)) (v0 : Nat) (v1 : Int32) (v2 : Int32) (x : MX) : Option (Bool × MX) :=
  if 4 ≤ v2 then
  B_X3_readsNumber_48 v0 v1 x
  else
  ob (f_X3_here v0 x) (fun r4 =>
  if (f_X3_isDigit r4) = true then
  ob (f_X3_here v0 x) (fun r7 =>
  letx (xs x v0 6 ((xi x v0 6) + 1)) (fun x9 =>
  K4 v0 (((10 * v1) + r7) - 48) (v2 + 1) x9))
  else
  B_X3_readsNumber_48 v0 v1 x)
theorem SB_X3_readsNumber_4 {g : GC} {d : Nat} {K4 : Nat → Int32 → Int32 → MX → Option (Bool × MX)} {v0 : Nat} {v1 : Int32} {v2 : Int32} {x : MX} {m : MM} {r : Bool} {z : MX} (hd : 2 ≤ d) (hK4 : ∀ (v0 : Nat) (v1 : Int32) (v2 : Int32) (x : MX) (r : Bool) (z : MX), isLaw v0 → K4 v0 v1 v2 x = some (r, z) → J g m_X3_readsNumber d 0 0 4 [(0, .ref v0), (1, .int v1), (2, .int v2)] [] (ST x m) 0 0 (EQ (some (.int (b2i r))) (ST z m))) (e_v0 : isLaw v0)
  (hF : B_X3_readsNumber_4 K4 v0 v1 v2 x = some (r, z)) : J g m_X3_readsNumber d 0 0 4 [(0, .ref v0), (1, .int v1), (2, .int v2)] [] (ST x m) 0 0 (EQ (some (.int (b2i r))) (ST z m)) := by
  unfold B_X3_readsNumber_4 at hF
  refine J_iload_n (j := 2) dX3_readsNumber_4 rfl rfl ?_
  refine J_iconst (v := 4) dX3_readsNumber_5 (by decide) ?_
  refine J_icmp_ge (tgt := 48) dX3_readsNumber_6 (by decide) (fun q1 => ?_) (fun q1 => ?_)
  · rw [if_pos q1] at hF
    refine J_sub [0, 1] rfl ?_
    exact SB_X3_readsNumber_48 hd e_v0 hF
  · rw [if_neg q1] at hF
    refine J_aload_n (j := 0) dX3_readsNumber_9 rfl rfl ?_
    obtain ⟨r4, h5, hF⟩ := ob_some hF
    refine JX_callVi (As := []) (S := []) lkV_Law_41_X3_here rfl (by decide) dX3_readsNumber_10 (c_law e_v0) (S_X3_here (by omega) e_v0 h5) (by omega) rfl rfl (Nat.le_of_ble_eq_true rfl) rfl ?_
    refine J_callSi (As := [.int r4]) (S := []) lkS_Law_61_X3_isDigit dX3_readsNumber_13 (S_X3_isDigit (by omega) rfl) (by omega) rfl rfl (Nat.le_of_ble_eq_true rfl) rfl ?_
    refine J_ifb_eq (tgt := 48) dX3_readsNumber_16 (by decide) (fun q6 => ?_) (fun q6 => ?_)
    · rw [if_neg q6] at hF
      refine J_sub [0, 1] rfl ?_
      exact SB_X3_readsNumber_48 hd e_v0 hF
    · rw [if_pos q6] at hF
      refine J_bipush (v := 10) dX3_readsNumber_19 (by decide) ?_
      refine J_iload_n (j := 1) dX3_readsNumber_21 rfl rfl ?_
      refine J_imul dX3_readsNumber_22 ?_
      refine J_aload_n (j := 0) dX3_readsNumber_23 rfl rfl ?_
      obtain ⟨r7, h8, hF⟩ := ob_some hF
      refine JX_callVi (As := []) (S := [.int (10 * v1)]) lkV_Law_41_X3_here rfl (by decide) dX3_readsNumber_24 (c_law e_v0) (S_X3_here (by omega) e_v0 h8) (by omega) rfl rfl (Nat.le_of_ble_eq_true rfl) rfl ?_
      refine J_iadd dX3_readsNumber_27 ?_
      refine J_bipush (v := 48) dX3_readsNumber_28 (by decide) ?_
      refine J_isub dX3_readsNumber_30 ?_
      refine J_istore_n (L' := [(1, .int (((10 * v1) + r7) - 48)), (0, .ref v0), (2, .int v2)]) dX3_readsNumber_31 rfl (by decide) rfl ?_
      refine J_aload_n (j := 1) dX3_readsNumber_32 rfl rfl ?_
      refine J_dup dX3_readsNumber_33 rfl ?_
      refine JX_getI fl_Law_31_3 dX3_readsNumber_34 (c_law e_v0) rfl ?_
      refine J_iconst (v := 1) dX3_readsNumber_37 (by decide) ?_
      refine J_iadd dX3_readsNumber_38 ?_
      obtain ⟨x9, e_x9, hF⟩ := letx_eq hF
      refine JX_putI fl_Law_31_3 dX3_readsNumber_39 (c_law e_v0) rfl rfl rfl ?_
      rw [← e_x9]
      refine J_iinc (j := 2) (v := v2 + 1) (L' := [(2, .int (v2 + 1)), (1, .int (((10 * v1) + r7) - 48)), (0, .ref v0)]) dX3_readsNumber_42 rfl rfl (by decide) rfl ?_
      refine J_goto (tgt := 4) dX3_readsNumber_45 (by decide) ?_
      refine J_sub [2, 1, 0] rfl ?_
      exact hK4 _ _ _ _ _ _ e_v0 hF
def f_X3_readsNumber_4  : Nat → Nat → Int32 → Int32 → MX → Option (Bool × MX)
  | 0 => fun _ _ _ _ => none
  | n + 1 => fun v0 v1 v2 x => B_X3_readsNumber_4 (f_X3_readsNumber_4  n) v0 v1 v2 x
theorem Sf_X3_readsNumber_4 {g : GC} {d : Nat} {m : MM} (hd : 2 ≤ d)  : ∀ (n : Nat) (v0 : Nat) (v1 : Int32) (v2 : Int32) (x : MX) (r : Bool) (z : MX), (e_v0 : isLaw v0) → f_X3_readsNumber_4  n v0 v1 v2 x = some (r, z) → J g m_X3_readsNumber d 0 0 4 [(0, .ref v0), (1, .int v1), (2, .int v2)] [] (ST x m) 0 0 (EQ (some (.int (b2i r))) (ST z m)) := by
  intro n
  induction n with
  | zero => intro v0 v1 v2 x r z e_v0 hF; exact absurd hF (fun q => by cases q)
  | succ n ih =>
    intro v0 v1 v2 x r z e_v0 hF
    exact SB_X3_readsNumber_4 hd (fun v0 v1 v2 x r z e_v0 hF => ih v0 v1 v2 x r z e_v0 hF) e_v0 hF
def f_X3_readsNumber (h0 : Nat) (x : MX) : Option (Bool × MX) :=
  f_X3_readsNumber_4 LF h0 0 0 x
theorem S_X3_readsNumber {g : GC} {d : Nat} {h0 : Nat} {x : MX} {m : MM} {r : Bool} {z : MX} (hd : 2 ≤ d) (e_h0 : isLaw h0)
  (hF : f_X3_readsNumber h0 x = some (r, z)) : JC g m_X3_readsNumber d 0 0 [.ref h0] (ST x m) (EQ (some (.int (b2i r))) (ST z m)) := by
  refine JC.of (by decide +kernel) (Nat.le_of_ble_eq_true rfl) ?_
  change J g m_X3_readsNumber d 0 0 0 [(0, .ref h0)] [] (ST x m) 0 0 (EQ (some (.int (b2i r))) (ST z m))
  unfold f_X3_readsNumber at hF
  refine J_iconst (v := 0) dX3_readsNumber_0 (by decide) ?_
  refine J_istore_n (L' := [(1, .int 0), (0, .ref h0)]) dX3_readsNumber_1 rfl (by decide) rfl ?_
  refine J_iconst (v := 0) dX3_readsNumber_2 (by decide) ?_
  refine J_istore_n (L' := [(2, .int 0), (1, .int 0), (0, .ref h0)]) dX3_readsNumber_3 rfl (by decide) rfl ?_
  refine J_sub [2, 1, 0] rfl ?_
  exact Sf_X3_readsNumber_4 hd _ _ _ _ _ _ _ e_h0 hF
def B_X3_readsPart_26 (s_X3_readsPart : Nat → Int32 → Int32 → MX → Option (Bool × MX)) (s_X3_readsOperand : Nat → Int32 → MX → Option (Bool × MX)) (K26 : Nat → Int32 → Int32 → Int32 → MX → Option (Bool × MX)) (v0 : Nat) (v1 : Int32) (v2 : Int32) (v3 : Int32) (x : MX) : Option (Bool × MX) :=
  if (xi x v0 8) ≤ v3 then
  some (true, x)
  else
  ob (f_X3_here v0 x) (fun r7 =>
  if (f_X3_levelOf r7) = v1 then
  ob (f_X3_here v0 x) (fun r10 =>
  letx (xs x v0 6 ((xi x v0 6) + 1)) (fun x12 =>
  ob2 (s_X3_readsPart v0 (v1 + 1) v2 x12) (fun r13 x14 =>
  if r13 = true then
  ob (f_X3_add v0 r10 0 x14) (fun x17 =>
  if v1 = 2 then
  some (true, x17)
  else
  K26 v0 v1 v2 (v3 + 1) x17)
  else
  some (false, x14))))
  else
  some (true, x))
theorem SB_X3_readsPart_26 {g : GC} {nn d : Nat} {s_X3_readsPart : Nat → Int32 → Int32 → MX → Option (Bool × MX)} {s_X3_readsOperand : Nat → Int32 → MX → Option (Bool × MX)} {K26 : Nat → Int32 → Int32 → Int32 → MX → Option (Bool × MX)} {v0 : Nat} {v1 : Int32} {v2 : Int32} {v3 : Int32} {x : MX} {m : MM} {r : Bool} {z : MX} (hd : nn + 4 ≤ d) (hs_s_X3_readsPart : ∀ (d : Nat), nn + 3 ≤ d → ∀ (h0 : Nat) (a1 : Int32) (a2 : Int32) (x : MX) (r : Bool) (z : MX), isLaw h0 → s_X3_readsPart h0 a1 a2 x = some (r, z) → JC g m_X3_readsPart d 0 0 [.ref h0, .int a1, .int a2] (ST x m) (EQ (some (.int (b2i r))) (ST z m))) (hs_s_X3_readsOperand : ∀ (d : Nat), nn + 3 ≤ d → ∀ (h0 : Nat) (a1 : Int32) (x : MX) (r : Bool) (z : MX), isLaw h0 → s_X3_readsOperand h0 a1 x = some (r, z) → JC g m_X3_readsOperand d 0 0 [.ref h0, .int a1] (ST x m) (EQ (some (.int (b2i r))) (ST z m))) (hK26 : ∀ (v0 : Nat) (v1 : Int32) (v2 : Int32) (v3 : Int32) (x : MX) (r : Bool) (z : MX), isLaw v0 → K26 v0 v1 v2 v3 x = some (r, z) → J g m_X3_readsPart d 0 0 26 [(0, .ref v0), (1, .int v1), (2, .int v2), (3, .int v3)] [] (ST x m) 0 0 (EQ (some (.int (b2i r))) (ST z m))) (e_v0 : isLaw v0)
  (hF : B_X3_readsPart_26 s_X3_readsPart s_X3_readsOperand K26 v0 v1 v2 v3 x = some (r, z)) : J g m_X3_readsPart d 0 0 26 [(0, .ref v0), (1, .int v1), (2, .int v2), (3, .int v3)] [] (ST x m) 0 0 (EQ (some (.int (b2i r))) (ST z m)) := by
  unfold B_X3_readsPart_26 at hF
  refine J_iload_n (j := 3) dX3_readsPart_26 rfl rfl ?_
  refine J_aload_n (j := 0) dX3_readsPart_27 rfl rfl ?_
  refine JX_getI fl_Law_34_3 dX3_readsPart_28 (c_law e_v0) rfl ?_
  refine J_icmp_ge (tgt := 95) dX3_readsPart_31 (by decide) (fun q6 => ?_) (fun q6 => ?_)
  · rw [if_pos q6] at hF
    refine J_iconst (v := 1) dX3_readsPart_95 (by decide) ?_
    obtain ⟨e_r, e_z⟩ := someP hF
    subst e_r
    subst e_z
    exact J_ireturn rfl rfl dX3_readsPart_96 ⟨rfl, rfl⟩
  · rw [if_neg q6] at hF
    refine J_aload_n (j := 0) dX3_readsPart_34 rfl rfl ?_
    obtain ⟨r7, h8, hF⟩ := ob_some hF
    refine JX_callVi (As := []) (S := []) lkV_Law_41_X3_here rfl (by decide) dX3_readsPart_35 (c_law e_v0) (S_X3_here (by omega) e_v0 h8) (by omega) rfl rfl (Nat.le_of_ble_eq_true rfl) rfl ?_
    refine J_callSi (As := [.int r7]) (S := []) lkS_Law_57_X3_levelOf dX3_readsPart_38 (S_X3_levelOf (by omega) rfl) (by omega) rfl rfl (Nat.le_of_ble_eq_true rfl) rfl ?_
    refine J_iload_n (j := 1) dX3_readsPart_41 rfl rfl ?_
    refine J_icmp_ne (tgt := 95) dX3_readsPart_42 (by decide) (fun q9 => ?_) (fun q9 => ?_)
    · rw [if_neg q9] at hF
      refine J_iconst (v := 1) dX3_readsPart_95 (by decide) ?_
      obtain ⟨e_r, e_z⟩ := someP hF
      subst e_r
      subst e_z
      exact J_ireturn rfl rfl dX3_readsPart_96 ⟨rfl, rfl⟩
    · rw [if_pos q9] at hF
      refine J_aload_n (j := 0) dX3_readsPart_45 rfl rfl ?_
      obtain ⟨r10, h11, hF⟩ := ob_some hF
      refine JX_callVi (As := []) (S := []) lkV_Law_41_X3_here rfl (by decide) dX3_readsPart_46 (c_law e_v0) (S_X3_here (by omega) e_v0 h11) (by omega) rfl rfl (Nat.le_of_ble_eq_true rfl) rfl ?_
      refine J_istore (L' := [(4, .int r10), (0, .ref v0), (1, .int v1), (2, .int v2), (3, .int v3)]) dX3_readsPart_49 (by decide) rfl ?_
      refine J_aload_n (j := 1) dX3_readsPart_51 rfl rfl ?_
      refine J_dup dX3_readsPart_52 rfl ?_
      refine JX_getI fl_Law_31_3 dX3_readsPart_53 (c_law e_v0) rfl ?_
      refine J_iconst (v := 1) dX3_readsPart_56 (by decide) ?_
      refine J_iadd dX3_readsPart_57 ?_
      obtain ⟨x12, e_x12, hF⟩ := letx_eq hF
      refine JX_putI fl_Law_31_3 dX3_readsPart_58 (c_law e_v0) rfl rfl rfl ?_
      rw [← e_x12]
      refine J_aload_n (j := 1) dX3_readsPart_61 rfl rfl ?_
      refine J_iload_n (j := 2) dX3_readsPart_62 rfl rfl ?_
      refine J_iconst (v := 1) dX3_readsPart_63 (by decide) ?_
      refine J_iadd dX3_readsPart_64 ?_
      refine J_iload_n (j := 3) dX3_readsPart_65 rfl rfl ?_
      obtain ⟨r13, x14, h15, hF⟩ := ob2_some hF
      refine JX_callVi (As := [.int (v1 + 1), .int v2]) (S := []) lkV_Law_45_X3_readsPart rfl (by decide) dX3_readsPart_66 (c_law e_v0) (hs_s_X3_readsPart (d - 1) (by omega) _ _ _ _ _ _ e_v0 h15) (by omega) rfl rfl (Nat.le_of_ble_eq_true rfl) rfl ?_
      refine J_ifb_ne (tgt := 74) dX3_readsPart_69 (by decide) (fun q16 => ?_) (fun q16 => ?_)
      · rw [if_pos q16] at hF
        refine J_aload_n (j := 1) dX3_readsPart_74 rfl rfl ?_
        refine J_iload (j := 0) dX3_readsPart_75 rfl ?_
        refine J_iconst (v := 0) dX3_readsPart_77 (by decide) ?_
        obtain ⟨x17, h18, hF⟩ := ob_some hF
        refine JX_callVv (As := [.int r10, .int 0]) (S := []) lkV_Law_49_X3_add rfl (by decide) dX3_readsPart_78 (c_law e_v0) (S_X3_add (by omega) e_v0 h18) (by omega) rfl rfl (Nat.le_of_ble_eq_true rfl) rfl ?_
        refine J_iload_n (j := 2) dX3_readsPart_81 rfl rfl ?_
        refine J_iconst (v := 2) dX3_readsPart_82 (by decide) ?_
        refine J_icmp_ne (tgt := 89) dX3_readsPart_83 (by decide) (fun q19 => ?_) (fun q19 => ?_)
        · rw [if_neg q19] at hF
          refine J_iinc (j := 4) (v := v3 + 1) (L' := [(3, .int (v3 + 1)), (4, .int r10), (0, .ref v0), (1, .int v1), (2, .int v2)]) dX3_readsPart_89 rfl rfl (by decide) rfl ?_
          refine J_goto (tgt := 26) dX3_readsPart_92 (by decide) ?_
          refine J_sub [2, 3, 4, 0] rfl ?_
          exact hK26 _ _ _ _ _ _ _ e_v0 hF
        · rw [if_pos q19] at hF
          refine J_goto (tgt := 95) dX3_readsPart_86 (by decide) ?_
          refine J_iconst (v := 1) dX3_readsPart_95 (by decide) ?_
          obtain ⟨e_r, e_z⟩ := someP hF
          subst e_r
          subst e_z
          exact J_ireturn rfl rfl dX3_readsPart_96 ⟨rfl, rfl⟩
      · rw [if_neg q16] at hF
        refine J_iconst (v := 0) dX3_readsPart_72 (by decide) ?_
        obtain ⟨e_r, e_z⟩ := someP hF
        subst e_r
        subst e_z
        exact J_ireturn rfl rfl dX3_readsPart_73 ⟨rfl, rfl⟩
def f_X3_readsPart_26 (s_X3_readsPart : Nat → Int32 → Int32 → MX → Option (Bool × MX)) (s_X3_readsOperand : Nat → Int32 → MX → Option (Bool × MX)) : Nat → Nat → Int32 → Int32 → Int32 → MX → Option (Bool × MX)
  | 0 => fun _ _ _ _ _ => none
  | n + 1 => fun v0 v1 v2 v3 x => B_X3_readsPart_26 s_X3_readsPart s_X3_readsOperand (f_X3_readsPart_26 s_X3_readsPart s_X3_readsOperand n) v0 v1 v2 v3 x
theorem Sf_X3_readsPart_26 {g : GC} {nn d : Nat} {m : MM} {s_X3_readsPart : Nat → Int32 → Int32 → MX → Option (Bool × MX)} {s_X3_readsOperand : Nat → Int32 → MX → Option (Bool × MX)} (hd : nn + 4 ≤ d) (hs_s_X3_readsPart : ∀ (d : Nat), nn + 3 ≤ d → ∀ (h0 : Nat) (a1 : Int32) (a2 : Int32) (x : MX) (r : Bool) (z : MX), isLaw h0 → s_X3_readsPart h0 a1 a2 x = some (r, z) → JC g m_X3_readsPart d 0 0 [.ref h0, .int a1, .int a2] (ST x m) (EQ (some (.int (b2i r))) (ST z m))) (hs_s_X3_readsOperand : ∀ (d : Nat), nn + 3 ≤ d → ∀ (h0 : Nat) (a1 : Int32) (x : MX) (r : Bool) (z : MX), isLaw h0 → s_X3_readsOperand h0 a1 x = some (r, z) → JC g m_X3_readsOperand d 0 0 [.ref h0, .int a1] (ST x m) (EQ (some (.int (b2i r))) (ST z m))) : ∀ (n : Nat) (v0 : Nat) (v1 : Int32) (v2 : Int32) (v3 : Int32) (x : MX) (r : Bool) (z : MX), (e_v0 : isLaw v0) → f_X3_readsPart_26 s_X3_readsPart s_X3_readsOperand n v0 v1 v2 v3 x = some (r, z) → J g m_X3_readsPart d 0 0 26 [(0, .ref v0), (1, .int v1), (2, .int v2), (3, .int v3)] [] (ST x m) 0 0 (EQ (some (.int (b2i r))) (ST z m)) := by
  intro n
  induction n with
  | zero => intro v0 v1 v2 v3 x r z e_v0 hF; exact absurd hF (fun q => by cases q)
  | succ n ih =>
    intro v0 v1 v2 v3 x r z e_v0 hF
    exact SB_X3_readsPart_26 hd hs_s_X3_readsPart hs_s_X3_readsOperand (fun v0 v1 v2 v3 x r z e_v0 hF => ih v0 v1 v2 v3 x r z e_v0 hF) e_v0 hF
def R_X3_readsPart (s_X3_readsPart : Nat → Int32 → Int32 → MX → Option (Bool × MX)) (s_X3_readsOperand : Nat → Int32 → MX → Option (Bool × MX)) (h0 : Nat) (a1 : Int32) (a2 : Int32) (x : MX) : Option (Bool × MX) :=
  if a1 < 5 then
  ob2 (s_X3_readsPart h0 (a1 + 1) a2 x) (fun r2 x3 =>
  if r2 = true then
  f_X3_readsPart_26 s_X3_readsPart s_X3_readsOperand LF h0 a1 a2 0 x3
  else
  some (false, x3))
  else
  ob2 (s_X3_readsOperand h0 a2 x) (fun r20 x21 =>
  some (r20, x21))
theorem SR_X3_readsPart {g : GC} {nn d : Nat} {s_X3_readsPart : Nat → Int32 → Int32 → MX → Option (Bool × MX)} {s_X3_readsOperand : Nat → Int32 → MX → Option (Bool × MX)} {h0 : Nat} {a1 : Int32} {a2 : Int32} {x : MX} {m : MM} {r : Bool} {z : MX} (hd : nn + 4 ≤ d) (hs_s_X3_readsPart : ∀ (d : Nat), nn + 3 ≤ d → ∀ (h0 : Nat) (a1 : Int32) (a2 : Int32) (x : MX) (r : Bool) (z : MX), isLaw h0 → s_X3_readsPart h0 a1 a2 x = some (r, z) → JC g m_X3_readsPart d 0 0 [.ref h0, .int a1, .int a2] (ST x m) (EQ (some (.int (b2i r))) (ST z m))) (hs_s_X3_readsOperand : ∀ (d : Nat), nn + 3 ≤ d → ∀ (h0 : Nat) (a1 : Int32) (x : MX) (r : Bool) (z : MX), isLaw h0 → s_X3_readsOperand h0 a1 x = some (r, z) → JC g m_X3_readsOperand d 0 0 [.ref h0, .int a1] (ST x m) (EQ (some (.int (b2i r))) (ST z m))) (e_h0 : isLaw h0)
  (hF : R_X3_readsPart s_X3_readsPart s_X3_readsOperand h0 a1 a2 x = some (r, z)) : JC g m_X3_readsPart d 0 0 [.ref h0, .int a1, .int a2] (ST x m) (EQ (some (.int (b2i r))) (ST z m)) := by
  refine JC.of (by decide +kernel) (Nat.le_of_ble_eq_true rfl) ?_
  change J g m_X3_readsPart d 0 0 0 [(0, .ref h0), (1, .int a1), (2, .int a2)] [] (ST x m) 0 0 (EQ (some (.int (b2i r))) (ST z m))
  unfold R_X3_readsPart at hF
  refine J_iload_n (j := 1) dX3_readsPart_0 rfl rfl ?_
  refine J_iconst (v := 5) dX3_readsPart_1 (by decide) ?_
  refine J_icmp_lt (tgt := 11) dX3_readsPart_2 (by decide) (fun q1 => ?_) (fun q1 => ?_)
  · rw [if_pos q1] at hF
    refine J_aload_n (j := 0) dX3_readsPart_11 rfl rfl ?_
    refine J_iload_n (j := 1) dX3_readsPart_12 rfl rfl ?_
    refine J_iconst (v := 1) dX3_readsPart_13 (by decide) ?_
    refine J_iadd dX3_readsPart_14 ?_
    refine J_iload_n (j := 2) dX3_readsPart_15 rfl rfl ?_
    obtain ⟨r2, x3, h4, hF⟩ := ob2_some hF
    refine JX_callVi (As := [.int (a1 + 1), .int a2]) (S := []) lkV_Law_45_X3_readsPart rfl (by decide) dX3_readsPart_16 (c_law e_h0) (hs_s_X3_readsPart (d - 1) (by omega) _ _ _ _ _ _ e_h0 h4) (by omega) rfl rfl (Nat.le_of_ble_eq_true rfl) rfl ?_
    refine J_ifb_ne (tgt := 24) dX3_readsPart_19 (by decide) (fun q5 => ?_) (fun q5 => ?_)
    · rw [if_pos q5] at hF
      refine J_iconst (v := 0) dX3_readsPart_24 (by decide) ?_
      refine J_istore_n (L' := [(3, .int 0), (0, .ref h0), (1, .int a1), (2, .int a2)]) dX3_readsPart_25 rfl (by decide) rfl ?_
      refine J_sub [1, 2, 3, 0] rfl ?_
      exact Sf_X3_readsPart_26 hd hs_s_X3_readsPart hs_s_X3_readsOperand _ _ _ _ _ _ _ _ e_h0 hF
    · rw [if_neg q5] at hF
      refine J_iconst (v := 0) dX3_readsPart_22 (by decide) ?_
      obtain ⟨e_r, e_z⟩ := someP hF
      subst e_r
      subst e_z
      exact J_ireturn rfl rfl dX3_readsPart_23 ⟨rfl, rfl⟩
  · rw [if_neg q1] at hF
    refine J_aload_n (j := 0) dX3_readsPart_5 rfl rfl ?_
    refine J_iload_n (j := 2) dX3_readsPart_6 rfl rfl ?_
    obtain ⟨r20, x21, h22, hF⟩ := ob2_some hF
    refine JX_callVi (As := [.int a2]) (S := []) lkV_Law_53_X3_readsOperand rfl (by decide) dX3_readsPart_7 (c_law e_h0) (hs_s_X3_readsOperand (d - 1) (by omega) _ _ _ _ _ e_h0 h22) (by omega) rfl rfl (Nat.le_of_ble_eq_true rfl) rfl ?_
    obtain ⟨e_r, e_z⟩ := someP hF
    subst e_r
    subst e_z
    exact J_ireturn rfl (nar_b2i _) dX3_readsPart_10 ⟨rfl, rfl⟩
def B_X3_readsOperand_137 (s_X3_readsPart : Nat → Int32 → Int32 → MX → Option (Bool × MX)) (s_X3_readsOperand : Nat → Int32 → MX → Option (Bool × MX)) (t0 : Int32) (t1 : Nat) (x : MX) : Option (Bool × MX) :=
  ob (f_X3_add t1 t0 0 x) (fun x14 =>
  some (true, x14))
theorem SB_X3_readsOperand_137 {g : GC} {nn d : Nat} {s_X3_readsPart : Nat → Int32 → Int32 → MX → Option (Bool × MX)} {s_X3_readsOperand : Nat → Int32 → MX → Option (Bool × MX)} {t0 : Int32} {t1 : Nat} {x : MX} {m : MM} {r : Bool} {z : MX} (hd : nn + 4 ≤ d) (hs_s_X3_readsPart : ∀ (d : Nat), nn + 3 ≤ d → ∀ (h0 : Nat) (a1 : Int32) (a2 : Int32) (x : MX) (r : Bool) (z : MX), isLaw h0 → s_X3_readsPart h0 a1 a2 x = some (r, z) → JC g m_X3_readsPart d 0 0 [.ref h0, .int a1, .int a2] (ST x m) (EQ (some (.int (b2i r))) (ST z m))) (hs_s_X3_readsOperand : ∀ (d : Nat), nn + 3 ≤ d → ∀ (h0 : Nat) (a1 : Int32) (x : MX) (r : Bool) (z : MX), isLaw h0 → s_X3_readsOperand h0 a1 x = some (r, z) → JC g m_X3_readsOperand d 0 0 [.ref h0, .int a1] (ST x m) (EQ (some (.int (b2i r))) (ST z m))) (e_t1 : isLaw t1)
  (hF : B_X3_readsOperand_137 s_X3_readsPart s_X3_readsOperand t0 t1 x = some (r, z)) : J g m_X3_readsOperand d 0 0 137 [] [.int t0, .ref t1] (ST x m) 0 0 (EQ (some (.int (b2i r))) (ST z m)) := by
  unfold B_X3_readsOperand_137 at hF
  refine J_iconst (v := 0) dX3_readsOperand_137 (by decide) ?_
  obtain ⟨x14, h15, hF⟩ := ob_some hF
  refine JX_callVv (As := [.int t0, .int 0]) (S := []) lkV_Law_49_X3_add rfl (by decide) dX3_readsOperand_138 (c_law e_t1) (S_X3_add (by omega) e_t1 h15) (by omega) rfl rfl (Nat.le_of_ble_eq_true rfl) rfl ?_
  refine J_iconst (v := 1) dX3_readsOperand_141 (by decide) ?_
  obtain ⟨e_r, e_z⟩ := someP hF
  subst e_r
  subst e_z
  exact J_ireturn rfl rfl dX3_readsOperand_142 ⟨rfl, rfl⟩
def B_X3_readsOperand_63 (s_X3_readsPart : Nat → Int32 → Int32 → MX → Option (Bool × MX)) (s_X3_readsOperand : Nat → Int32 → MX → Option (Bool × MX)) (v0 : Nat) (v1 : Int32) (v2 : Int32) (x : MX) : Option (Bool × MX) :=
  if v1 < 6 then
  letx (xs x v0 6 ((xi x v0 6) + 1)) (fun x7 =>
  if v2 = 40 then
  ob2 (s_X3_readsPart v0 0 (v1 + 1) x7) (fun r16 x17 =>
  if r16 = true then
  ob2 (f_X3_closes v0 x17) (fun r20 x21 =>
  if r20 = true then
  some (true, x21)
  else
  some (false, x21))
  else
  some (false, x17))
  else
  ob2 (s_X3_readsOperand v0 (v1 + 1) x7) (fun r9 x10 =>
  if r9 = true then
  if v2 = 33 then
  B_X3_readsOperand_137 s_X3_readsPart s_X3_readsOperand 33 v0 x10
  else
  B_X3_readsOperand_137 s_X3_readsPart s_X3_readsOperand 126 v0 x10
  else
  some (false, x10)))
  else
  some (false, x)
theorem SB_X3_readsOperand_63 {g : GC} {nn d : Nat} {s_X3_readsPart : Nat → Int32 → Int32 → MX → Option (Bool × MX)} {s_X3_readsOperand : Nat → Int32 → MX → Option (Bool × MX)} {v0 : Nat} {v1 : Int32} {v2 : Int32} {x : MX} {m : MM} {r : Bool} {z : MX} (hd : nn + 4 ≤ d) (hs_s_X3_readsPart : ∀ (d : Nat), nn + 3 ≤ d → ∀ (h0 : Nat) (a1 : Int32) (a2 : Int32) (x : MX) (r : Bool) (z : MX), isLaw h0 → s_X3_readsPart h0 a1 a2 x = some (r, z) → JC g m_X3_readsPart d 0 0 [.ref h0, .int a1, .int a2] (ST x m) (EQ (some (.int (b2i r))) (ST z m))) (hs_s_X3_readsOperand : ∀ (d : Nat), nn + 3 ≤ d → ∀ (h0 : Nat) (a1 : Int32) (x : MX) (r : Bool) (z : MX), isLaw h0 → s_X3_readsOperand h0 a1 x = some (r, z) → JC g m_X3_readsOperand d 0 0 [.ref h0, .int a1] (ST x m) (EQ (some (.int (b2i r))) (ST z m))) (e_v0 : isLaw v0)
  (hF : B_X3_readsOperand_63 s_X3_readsPart s_X3_readsOperand v0 v1 v2 x = some (r, z)) : J g m_X3_readsOperand d 0 0 63 [(0, .ref v0), (1, .int v1), (2, .int v2)] [] (ST x m) 0 0 (EQ (some (.int (b2i r))) (ST z m)) := by
  unfold B_X3_readsOperand_63 at hF
  refine J_iload_n (j := 1) dX3_readsOperand_63 rfl rfl ?_
  refine J_bipush (v := 6) dX3_readsOperand_64 (by decide) ?_
  refine J_icmp_lt (tgt := 71) dX3_readsOperand_66 (by decide) (fun q6 => ?_) (fun q6 => ?_)
  · rw [if_pos q6] at hF
    refine J_aload_n (j := 0) dX3_readsOperand_71 rfl rfl ?_
    refine J_dup dX3_readsOperand_72 rfl ?_
    refine JX_getI fl_Law_31_3 dX3_readsOperand_73 (c_law e_v0) rfl ?_
    refine J_iconst (v := 1) dX3_readsOperand_76 (by decide) ?_
    refine J_iadd dX3_readsOperand_77 ?_
    obtain ⟨x7, e_x7, hF⟩ := letx_eq hF
    refine JX_putI fl_Law_31_3 dX3_readsOperand_78 (c_law e_v0) rfl rfl rfl ?_
    rw [← e_x7]
    refine J_iload_n (j := 2) dX3_readsOperand_81 rfl rfl ?_
    refine J_bipush (v := 40) dX3_readsOperand_82 (by decide) ?_
    refine J_icmp_ne (tgt := 111) dX3_readsOperand_84 (by decide) (fun q8 => ?_) (fun q8 => ?_)
    · rw [if_neg q8] at hF
      refine J_aload_n (j := 0) dX3_readsOperand_111 rfl rfl ?_
      refine J_iload_n (j := 1) dX3_readsOperand_112 rfl rfl ?_
      refine J_iconst (v := 1) dX3_readsOperand_113 (by decide) ?_
      refine J_iadd dX3_readsOperand_114 ?_
      obtain ⟨r9, x10, h11, hF⟩ := ob2_some hF
      refine JX_callVi (As := [.int (v1 + 1)]) (S := []) lkV_Law_53_X3_readsOperand rfl (by decide) dX3_readsOperand_115 (c_law e_v0) (hs_s_X3_readsOperand (d - 1) (by omega) _ _ _ _ _ e_v0 h11) (by omega) rfl rfl (Nat.le_of_ble_eq_true rfl) rfl ?_
      refine J_ifb_ne (tgt := 123) dX3_readsOperand_118 (by decide) (fun q12 => ?_) (fun q12 => ?_)
      · rw [if_pos q12] at hF
        refine J_aload_n (j := 0) dX3_readsOperand_123 rfl rfl ?_
        refine J_iload_n (j := 2) dX3_readsOperand_124 rfl rfl ?_
        refine J_bipush (v := 33) dX3_readsOperand_125 (by decide) ?_
        refine J_icmp_ne (tgt := 135) dX3_readsOperand_127 (by decide) (fun q13 => ?_) (fun q13 => ?_)
        · rw [if_neg q13] at hF
          refine J_bipush (v := 126) dX3_readsOperand_135 (by decide) ?_
          refine J_sub [] rfl ?_
          exact SB_X3_readsOperand_137 hd hs_s_X3_readsPart hs_s_X3_readsOperand e_v0 hF
        · rw [if_pos q13] at hF
          refine J_bipush (v := 33) dX3_readsOperand_130 (by decide) ?_
          refine J_goto (tgt := 137) dX3_readsOperand_132 (by decide) ?_
          refine J_sub [] rfl ?_
          exact SB_X3_readsOperand_137 hd hs_s_X3_readsPart hs_s_X3_readsOperand e_v0 hF
      · rw [if_neg q12] at hF
        refine J_iconst (v := 0) dX3_readsOperand_121 (by decide) ?_
        obtain ⟨e_r, e_z⟩ := someP hF
        subst e_r
        subst e_z
        exact J_ireturn rfl rfl dX3_readsOperand_122 ⟨rfl, rfl⟩
    · rw [if_pos q8] at hF
      refine J_aload_n (j := 0) dX3_readsOperand_87 rfl rfl ?_
      refine J_iconst (v := 0) dX3_readsOperand_88 (by decide) ?_
      refine J_iload_n (j := 1) dX3_readsOperand_89 rfl rfl ?_
      refine J_iconst (v := 1) dX3_readsOperand_90 (by decide) ?_
      refine J_iadd dX3_readsOperand_91 ?_
      obtain ⟨r16, x17, h18, hF⟩ := ob2_some hF
      refine JX_callVi (As := [.int 0, .int (v1 + 1)]) (S := []) lkV_Law_45_X3_readsPart rfl (by decide) dX3_readsOperand_92 (c_law e_v0) (hs_s_X3_readsPart (d - 1) (by omega) _ _ _ _ _ _ e_v0 h18) (by omega) rfl rfl (Nat.le_of_ble_eq_true rfl) rfl ?_
      refine J_ifb_eq (tgt := 109) dX3_readsOperand_95 (by decide) (fun q19 => ?_) (fun q19 => ?_)
      · rw [if_neg q19] at hF
        refine J_iconst (v := 0) dX3_readsOperand_109 (by decide) ?_
        obtain ⟨e_r, e_z⟩ := someP hF
        subst e_r
        subst e_z
        exact J_ireturn rfl rfl dX3_readsOperand_110 ⟨rfl, rfl⟩
      · rw [if_pos q19] at hF
        refine J_aload_n (j := 0) dX3_readsOperand_98 rfl rfl ?_
        obtain ⟨r20, x21, h22, hF⟩ := ob2_some hF
        refine JX_callVi (As := []) (S := []) lkV_Law_70_X3_closes rfl (by decide) dX3_readsOperand_99 (c_law e_v0) (S_X3_closes (by omega) e_v0 h22) (by omega) rfl rfl (Nat.le_of_ble_eq_true rfl) rfl ?_
        refine J_ifb_eq (tgt := 109) dX3_readsOperand_102 (by decide) (fun q23 => ?_) (fun q23 => ?_)
        · rw [if_neg q23] at hF
          refine J_iconst (v := 0) dX3_readsOperand_109 (by decide) ?_
          obtain ⟨e_r, e_z⟩ := someP hF
          subst e_r
          subst e_z
          exact J_ireturn rfl rfl dX3_readsOperand_110 ⟨rfl, rfl⟩
        · rw [if_pos q23] at hF
          refine J_iconst (v := 1) dX3_readsOperand_105 (by decide) ?_
          refine J_goto (tgt := 110) dX3_readsOperand_106 (by decide) ?_
          obtain ⟨e_r, e_z⟩ := someP hF
          subst e_r
          subst e_z
          exact J_ireturn rfl rfl dX3_readsOperand_110 ⟨rfl, rfl⟩
  · rw [if_neg q6] at hF
    refine J_iconst (v := 0) dX3_readsOperand_69 (by decide) ?_
    obtain ⟨e_r, e_z⟩ := someP hF
    subst e_r
    subst e_z
    exact J_ireturn rfl rfl dX3_readsOperand_70 ⟨rfl, rfl⟩
def R_X3_readsOperand (s_X3_readsPart : Nat → Int32 → Int32 → MX → Option (Bool × MX)) (s_X3_readsOperand : Nat → Int32 → MX → Option (Bool × MX)) (h0 : Nat) (a1 : Int32) (x : MX) : Option (Bool × MX) :=
  ob (f_X3_here h0 x) (fun r1 =>
  if (f_X3_isDigit r1) = true then
  ob2 (f_X3_readsNumber h0 x) (fun r29 x30 =>
  some (r29, x30))
  else
  if (f_X3_nameOf r1) < 0 then
  if r1 = 40 then
  B_X3_readsOperand_63 s_X3_readsPart s_X3_readsOperand h0 a1 r1 x
  else
  if r1 = 33 then
  B_X3_readsOperand_63 s_X3_readsPart s_X3_readsOperand h0 a1 r1 x
  else
  if r1 = 45 then
  B_X3_readsOperand_63 s_X3_readsPart s_X3_readsOperand h0 a1 r1 x
  else
  some (false, x)
  else
  letx (xs x h0 6 ((xi x h0 6) + 1)) (fun x26 =>
  ob (f_X3_add h0 97 (f_X3_nameOf r1) x26) (fun x27 =>
  some (true, x27))))
theorem SR_X3_readsOperand {g : GC} {nn d : Nat} {s_X3_readsPart : Nat → Int32 → Int32 → MX → Option (Bool × MX)} {s_X3_readsOperand : Nat → Int32 → MX → Option (Bool × MX)} {h0 : Nat} {a1 : Int32} {x : MX} {m : MM} {r : Bool} {z : MX} (hd : nn + 4 ≤ d) (hs_s_X3_readsPart : ∀ (d : Nat), nn + 3 ≤ d → ∀ (h0 : Nat) (a1 : Int32) (a2 : Int32) (x : MX) (r : Bool) (z : MX), isLaw h0 → s_X3_readsPart h0 a1 a2 x = some (r, z) → JC g m_X3_readsPart d 0 0 [.ref h0, .int a1, .int a2] (ST x m) (EQ (some (.int (b2i r))) (ST z m))) (hs_s_X3_readsOperand : ∀ (d : Nat), nn + 3 ≤ d → ∀ (h0 : Nat) (a1 : Int32) (x : MX) (r : Bool) (z : MX), isLaw h0 → s_X3_readsOperand h0 a1 x = some (r, z) → JC g m_X3_readsOperand d 0 0 [.ref h0, .int a1] (ST x m) (EQ (some (.int (b2i r))) (ST z m))) (e_h0 : isLaw h0)
  (hF : R_X3_readsOperand s_X3_readsPart s_X3_readsOperand h0 a1 x = some (r, z)) : JC g m_X3_readsOperand d 0 0 [.ref h0, .int a1] (ST x m) (EQ (some (.int (b2i r))) (ST z m)) := by
  refine JC.of (by decide +kernel) (Nat.le_of_ble_eq_true rfl) ?_
  change J g m_X3_readsOperand d 0 0 0 [(0, .ref h0), (1, .int a1)] [] (ST x m) 0 0 (EQ (some (.int (b2i r))) (ST z m))
  unfold R_X3_readsOperand at hF
  refine J_aload_n (j := 0) dX3_readsOperand_0 rfl rfl ?_
  obtain ⟨r1, h2, hF⟩ := ob_some hF
  refine JX_callVi (As := []) (S := []) lkV_Law_41_X3_here rfl (by decide) dX3_readsOperand_1 (c_law e_h0) (S_X3_here (by omega) e_h0 h2) (by omega) rfl rfl (Nat.le_of_ble_eq_true rfl) rfl ?_
  refine J_istore_n (L' := [(2, .int r1), (0, .ref h0), (1, .int a1)]) dX3_readsOperand_4 rfl (by decide) rfl ?_
  refine J_iload_n (j := 0) dX3_readsOperand_5 rfl rfl ?_
  refine J_callSi (As := [.int r1]) (S := []) lkS_Law_61_X3_isDigit dX3_readsOperand_6 (S_X3_isDigit (by omega) rfl) (by omega) rfl rfl (Nat.le_of_ble_eq_true rfl) rfl ?_
  refine J_ifb_eq (tgt := 17) dX3_readsOperand_9 (by decide) (fun q3 => ?_) (fun q3 => ?_)
  · rw [if_neg q3] at hF
    refine J_iload_n (j := 0) dX3_readsOperand_17 rfl rfl ?_
    refine J_callSi (As := [.int r1]) (S := []) lkS_Law_67_X3_nameOf dX3_readsOperand_18 (S_X3_nameOf (by omega) rfl) (by omega) rfl rfl (Nat.le_of_ble_eq_true rfl) rfl ?_
    refine J_istore_n (L' := [(3, .int (f_X3_nameOf r1)), (2, .int r1), (0, .ref h0), (1, .int a1)]) dX3_readsOperand_21 rfl (by decide) rfl ?_
    refine J_iload_n (j := 0) dX3_readsOperand_22 rfl rfl ?_
    refine J_if_lt (tgt := 45) dX3_readsOperand_23 (by decide) (fun q4 => ?_) (fun q4 => ?_)
    · rw [if_pos q4] at hF
      refine J_iload_n (j := 1) dX3_readsOperand_45 rfl rfl ?_
      refine J_bipush (v := 40) dX3_readsOperand_46 (by decide) ?_
      refine J_icmp_eq (tgt := 63) dX3_readsOperand_48 (by decide) (fun q5 => ?_) (fun q5 => ?_)
      · rw [if_pos q5] at hF
        refine J_sub [2, 3, 1] rfl ?_
        exact SB_X3_readsOperand_63 hd hs_s_X3_readsPart hs_s_X3_readsOperand e_h0 hF
      · rw [if_neg q5] at hF
        refine J_iload_n (j := 1) dX3_readsOperand_51 rfl rfl ?_
        refine J_bipush (v := 33) dX3_readsOperand_52 (by decide) ?_
        refine J_icmp_eq (tgt := 63) dX3_readsOperand_54 (by decide) (fun q24 => ?_) (fun q24 => ?_)
        · rw [if_pos q24] at hF
          refine J_sub [2, 3, 1] rfl ?_
          exact SB_X3_readsOperand_63 hd hs_s_X3_readsPart hs_s_X3_readsOperand e_h0 hF
        · rw [if_neg q24] at hF
          refine J_iload_n (j := 1) dX3_readsOperand_57 rfl rfl ?_
          refine J_bipush (v := 45) dX3_readsOperand_58 (by decide) ?_
          refine J_icmp_ne (tgt := 69) dX3_readsOperand_60 (by decide) (fun q25 => ?_) (fun q25 => ?_)
          · rw [if_neg q25] at hF
            refine J_iconst (v := 0) dX3_readsOperand_69 (by decide) ?_
            obtain ⟨e_r, e_z⟩ := someP hF
            subst e_r
            subst e_z
            exact J_ireturn rfl rfl dX3_readsOperand_70 ⟨rfl, rfl⟩
          · rw [if_pos q25] at hF
            refine J_sub [2, 3, 1] rfl ?_
            exact SB_X3_readsOperand_63 hd hs_s_X3_readsPart hs_s_X3_readsOperand e_h0 hF
    · rw [if_neg q4] at hF
      refine J_aload_n (j := 2) dX3_readsOperand_26 rfl rfl ?_
      refine J_dup dX3_readsOperand_27 rfl ?_
      refine JX_getI fl_Law_31_3 dX3_readsOperand_28 (c_law e_h0) rfl ?_
      refine J_iconst (v := 1) dX3_readsOperand_31 (by decide) ?_
      refine J_iadd dX3_readsOperand_32 ?_
      obtain ⟨x26, e_x26, hF⟩ := letx_eq hF
      refine JX_putI fl_Law_31_3 dX3_readsOperand_33 (c_law e_h0) rfl rfl rfl ?_
      rw [← e_x26]
      refine J_aload_n (j := 2) dX3_readsOperand_36 rfl rfl ?_
      refine J_bipush (v := 97) dX3_readsOperand_37 (by decide) ?_
      refine J_iload_n (j := 0) dX3_readsOperand_39 rfl rfl ?_
      obtain ⟨x27, h28, hF⟩ := ob_some hF
      refine JX_callVv (As := [.int 97, .int (f_X3_nameOf r1)]) (S := []) lkV_Law_49_X3_add rfl (by decide) dX3_readsOperand_40 (c_law e_h0) (S_X3_add (by omega) e_h0 h28) (by omega) rfl rfl (Nat.le_of_ble_eq_true rfl) rfl ?_
      refine J_iconst (v := 1) dX3_readsOperand_43 (by decide) ?_
      obtain ⟨e_r, e_z⟩ := someP hF
      subst e_r
      subst e_z
      exact J_ireturn rfl rfl dX3_readsOperand_44 ⟨rfl, rfl⟩
  · rw [if_pos q3] at hF
    refine J_aload_n (j := 1) dX3_readsOperand_12 rfl rfl ?_
    obtain ⟨r29, x30, h31, hF⟩ := ob2_some hF
    refine JX_callVi (As := []) (S := []) lkV_Law_64_X3_readsNumber rfl (by decide) dX3_readsOperand_13 (c_law e_h0) (S_X3_readsNumber (by omega) e_h0 h31) (by omega) rfl rfl (Nat.le_of_ble_eq_true rfl) rfl ?_
    obtain ⟨e_r, e_z⟩ := someP hF
    subst e_r
    subst e_z
    exact J_ireturn rfl (nar_b2i _) dX3_readsOperand_16 ⟨rfl, rfl⟩
def G_X3_readsPart : Nat → (Nat → Int32 → Int32 → MX → Option (Bool × MX)) × (Nat → Int32 → MX → Option (Bool × MX))
  | 0 => (fun _ _ _ _ => none, fun _ _ _ => none)
  | n + 1 => (R_X3_readsPart (G_X3_readsPart n).1 (G_X3_readsPart n).2, R_X3_readsOperand (G_X3_readsPart n).1 (G_X3_readsPart n).2)
theorem SG_X3_readsPart {g : GC} {m : MM} : ∀ n : Nat, (∀ (d : Nat), n + 3 ≤ d → ∀ (h0 : Nat) (a1 : Int32) (a2 : Int32) (x : MX) (r : Bool) (z : MX), isLaw h0 → (G_X3_readsPart n).1 h0 a1 a2 x = some (r, z) → JC g m_X3_readsPart d 0 0 [.ref h0, .int a1, .int a2] (ST x m) (EQ (some (.int (b2i r))) (ST z m))) ∧ (∀ (d : Nat), n + 3 ≤ d → ∀ (h0 : Nat) (a1 : Int32) (x : MX) (r : Bool) (z : MX), isLaw h0 → (G_X3_readsPart n).2 h0 a1 x = some (r, z) → JC g m_X3_readsOperand d 0 0 [.ref h0, .int a1] (ST x m) (EQ (some (.int (b2i r))) (ST z m))) := by
  intro n
  induction n with
  | zero =>
    exact ⟨fun d hd _ _ _ _ _ _ _ hF => absurd hF (fun q => by cases q), fun d hd _ _ _ _ _ _ hF => absurd hF (fun q => by cases q)⟩
  | succ n ih =>
    exact ⟨fun d hd _ _ _ _ _ _ e_h0 hF => SR_X3_readsPart (nn := n) (by omega) ih.1 ih.2 e_h0 hF, fun d hd _ _ _ _ _ e_h0 hF => SR_X3_readsOperand (nn := n) (by omega) ih.1 ih.2 e_h0 hF⟩
def f_X3_readsPart (h0 : Nat) (a1 : Int32) (a2 : Int32) (x : MX) : Option (Bool × MX) := (G_X3_readsPart RF).1 h0 a1 a2 x
theorem S_X3_readsPart {g : GC} {d : Nat} {h0 : Nat} {a1 : Int32} {a2 : Int32} {x : MX} {m : MM} {r : Bool} {z : MX} (hd : 103 ≤ d) (e_h0 : isLaw h0)
  (hF : f_X3_readsPart h0 a1 a2 x = some (r, z)) : JC g m_X3_readsPart d 0 0 [.ref h0, .int a1, .int a2] (ST x m) (EQ (some (.int (b2i r))) (ST z m)) := (SG_X3_readsPart RF).1 d (by unfold RF; omega) _ _ _ _ _ _ e_h0 hF
def f_X3_readsOperand (h0 : Nat) (a1 : Int32) (x : MX) : Option (Bool × MX) := (G_X3_readsPart RF).2 h0 a1 x
theorem S_X3_readsOperand {g : GC} {d : Nat} {h0 : Nat} {a1 : Int32} {x : MX} {m : MM} {r : Bool} {z : MX} (hd : 103 ≤ d) (e_h0 : isLaw h0)
  (hF : f_X3_readsOperand h0 a1 x = some (r, z)) : JC g m_X3_readsOperand d 0 0 [.ref h0, .int a1] (ST x m) (EQ (some (.int (b2i r))) (ST z m)) := (SG_X3_readsPart RF).2 d (by unfold RF; omega) _ _ _ _ _ e_h0 hF
