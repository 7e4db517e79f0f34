def B_X9_puts_90 (v4 : Int32) (t0 : Int32) (t1 : Int32) (t2 : Int32) (m : MM) : Option (Int32 × MM) :=
  if inb t2 2 = true then
  letx (ms m 90 (ix t2) (t1 + t0)) (fun m16 =>
  letx (ms m16 80 37 ((mi m16 80 37) + v4)) (fun m17 =>
  letx (ms m17 80 38 ((mi m17 80 38) + 1)) (fun m18 =>
  some (v4, m18))))
  else none
theorem SB_X9_puts_90 {g : GC} {d : Nat} {v4 : Int32} {t0 : Int32} {t1 : Int32} {t2 : Int32} {x : MX} {m : MM} {r : Int32} {z : MM} (hd : 108 ≤ d) 
  (hF : B_X9_puts_90 v4 t0 t1 t2 m = some (r, z)) : J g m_X9_puts d 0 0 90 [(0, .ref 80), (4, .int v4)] [.int t0, .int t1, .int t2, .ref 90] (ST x m) 0 0 (EQ (some (.int r)) (ST x z)) := by
  unfold B_X9_puts_90 at hF
  refine J_iadd dX9_puts_90 ?_
  obtain ⟨b15, hF⟩ := chk hF
  obtain ⟨m16, e_m16, hF⟩ := letx_eq hF
  refine JM_iast (j := ix t2) dX9_puts_91 c_90 (inb_vp b15) rfl ?_
  rw [← e_m16]
  refine J_aload_n (j := 0) dX9_puts_92 rfl rfl ?_
  refine J_dup dX9_puts_93 rfl ?_
  refine JM_getI fl_WithOneHandModel_331_8 dX9_puts_94 c_80 rfl ?_
  refine J_iload (j := 1) dX9_puts_97 rfl ?_
  refine J_iadd dX9_puts_99 ?_
  obtain ⟨m17, e_m17, hF⟩ := letx_eq hF
  refine JM_putI fl_WithOneHandModel_331_8 dX9_puts_100 c_80 rfl rfl rfl ?_
  rw [← e_m17]
  refine J_aload_n (j := 0) dX9_puts_103 rfl rfl ?_
  refine J_dup dX9_puts_104 rfl ?_
  refine JM_getI fl_WithOneHandModel_334_8 dX9_puts_105 c_80 rfl ?_
  refine J_iconst (v := 1) dX9_puts_108 (by decide) ?_
  refine J_iadd dX9_puts_109 ?_
  obtain ⟨m18, e_m18, hF⟩ := letx_eq hF
  refine JM_putI fl_WithOneHandModel_334_8 dX9_puts_110 c_80 rfl rfl rfl ?_
  rw [← e_m18]
  refine J_iload (j := 1) dX9_puts_113 rfl ?_
  obtain ⟨e_r, e_z⟩ := someP hF
  subst e_r
  subst e_z
  exact J_ireturn rfl rfl dX9_puts_115 ⟨rfl, rfl⟩
def f_X9_puts (a1 : Int32) (m : MM) : Option (Int32 × MM) :=
  ob (f_X9_isPair a1 m) (fun r1 =>
  if r1 = true then
  ob (f_X9_isUsed (a1 / 10) m) (fun r4 =>
  if r4 = true then
  some ((-5), m)
  else
  if inb (a1 % 10) 6 = true then
  if (mi m 87 (ix (a1 % 10))) = (-2) then
  ob2 (f_X9_takesNow (a1 / 10) (a1 % 10) m) (fun r9 m10 =>
  letx (ms m10 87 (ix (a1 % 10)) (a1 / 10)) (fun m12 =>
  if inb (mi m12 85 (ix (a1 % 10))) 2 = true then
  if 99 ≤ (mi m12 90 (ix (mi m12 85 (ix (a1 % 10))))) then
  B_X9_puts_90 r9 0 (mi m12 90 (ix (mi m12 85 (ix (a1 % 10))))) (mi m12 85 (ix (a1 % 10))) m12
  else
  B_X9_puts_90 r9 1 (mi m12 90 (ix (mi m12 85 (ix (a1 % 10))))) (mi m12 85 (ix (a1 % 10))) m12
  else none))
  else
  some ((-5), m)
  else none)
  else
  some ((-1), m))
theorem S_X9_puts {g : GC} {d : Nat} {a1 : Int32} {x : MX} {m : MM} {r : Int32} {z : MM} (hd : 108 ≤ d) 
  (hF : f_X9_puts a1 m = some (r, z)) : JC g m_X9_puts d 0 0 [.ref 80, .int a1] (ST x m) (EQ (some (.int r)) (ST x z)) := by
  refine JC.of (by decide +kernel) (Nat.le_of_ble_eq_true rfl) ?_
  change J g m_X9_puts d 0 0 0 [(0, .ref 80), (1, .int a1)] [] (ST x m) 0 0 (EQ (some (.int r)) (ST x z))
  unfold f_X9_puts at hF
  refine J_aload_n (j := 0) dX9_puts_0 rfl rfl ?_
  refine J_iload_n (j := 1) dX9_puts_1 rfl rfl ?_
  obtain ⟨r1, h2, hF⟩ := ob_some hF
  refine JM_callVi (As := [.int a1]) (S := []) lkV_WithOneHandModel_261_X9_isPair rfl (by decide) dX9_puts_2 c_80 (S_X9_isPair (by omega) h2) (by omega) rfl rfl (Nat.le_of_ble_eq_true rfl) rfl ?_
  refine J_ifb_ne (tgt := 10) dX9_puts_5 (by decide) (fun q3 => ?_) (fun q3 => ?_)
  · rw [if_pos q3] at hF
    refine J_iload_n (j := 1) dX9_puts_10 rfl rfl ?_
    refine J_bipush (v := 10) dX9_puts_11 (by decide) ?_
    refine J_idiv dX9_puts_13 (by decide) ?_
    refine J_istore_n (L' := [(2, .int (a1 / 10)), (0, .ref 80), (1, .int a1)]) dX9_puts_14 rfl (by decide) rfl ?_
    refine J_iload_n (j := 2) dX9_puts_15 rfl rfl ?_
    refine J_bipush (v := 10) dX9_puts_16 (by decide) ?_
    refine J_irem dX9_puts_18 (by decide) ?_
    refine J_istore_n (L' := [(3, .int (a1 % 10)), (2, .int (a1 / 10)), (0, .ref 80), (1, .int a1)]) dX9_puts_19 rfl (by decide) rfl ?_
    refine J_aload_n (j := 2) dX9_puts_20 rfl rfl ?_
    refine J_iload_n (j := 1) dX9_puts_21 rfl rfl ?_
    obtain ⟨r4, h5, hF⟩ := ob_some hF
    refine JM_callVi (As := [.int (a1 / 10)]) (S := []) lkV_WithOneHandModel_328_X9_isUsed rfl (by decide) dX9_puts_22 c_80 (S_X9_isUsed (by omega) h5) (by omega) rfl rfl (Nat.le_of_ble_eq_true rfl) rfl ?_
    refine J_ifb_ne (tgt := 39) dX9_puts_25 (by decide) (fun q6 => ?_) (fun q6 => ?_)
    · rw [if_pos q6] at hF
      refine J_bipush (v := (-5)) dX9_puts_39 (by decide) ?_
      obtain ⟨e_r, e_z⟩ := someP hF
      subst e_r
      subst e_z
      exact J_ireturn rfl rfl dX9_puts_41 ⟨rfl, rfl⟩
    · rw [if_neg q6] at hF
      refine J_aload_n (j := 2) dX9_puts_28 rfl rfl ?_
      refine JM_getR (r := 87) fl_WithOneHandModel_32_8 dX9_puts_29 c_80 rfl rfl ?_
      refine J_iload_n (j := 0) dX9_puts_32 rfl rfl ?_
      obtain ⟨b7, hF⟩ := chk hF
      refine JM_iald (j := ix (a1 % 10)) dX9_puts_33 c_87 (inb_vp b7) rfl ?_
      refine J_bipush (v := (-2)) dX9_puts_34 (by decide) ?_
      refine J_icmp_eq (tgt := 42) dX9_puts_36 (by decide) (fun q8 => ?_) (fun q8 => ?_)
      · rw [if_pos q8] at hF
        refine J_aload_n (j := 2) dX9_puts_42 rfl rfl ?_
        refine J_iload_n (j := 1) dX9_puts_43 rfl rfl ?_
        refine J_iload_n (j := 0) dX9_puts_44 rfl rfl ?_
        obtain ⟨r9, m10, h11, hF⟩ := ob2_some hF
        refine JM_callVi (As := [.int (a1 / 10), .int (a1 % 10)]) (S := []) lkV_WithOneHandModel_264_X9_takesNow rfl (by decide) dX9_puts_45 c_80 (S_X9_takesNow (by omega) h11) (by omega) rfl rfl (Nat.le_of_ble_eq_true rfl) rfl ?_
        refine J_istore (L' := [(4, .int r9), (3, .int (a1 % 10)), (2, .int (a1 / 10)), (0, .ref 80), (1, .int a1)]) dX9_puts_48 (by decide) rfl ?_
        refine J_aload_n (j := 3) dX9_puts_50 rfl rfl ?_
        refine JM_getR (r := 87) fl_WithOneHandModel_32_8 dX9_puts_51 c_80 rfl rfl ?_
        refine J_iload_n (j := 1) dX9_puts_54 rfl rfl ?_
        refine J_iload_n (j := 2) dX9_puts_55 rfl rfl ?_
        obtain ⟨m12, e_m12, hF⟩ := letx_eq hF
        refine JM_iast (j := ix (a1 % 10)) dX9_puts_56 c_87 (inb_vp b7) rfl ?_
        rw [← e_m12]
        refine J_aload_n (j := 3) dX9_puts_57 rfl rfl ?_
        refine JM_getR (r := 90) fl_WithOneHandModel_41_8 dX9_puts_58 c_80 rfl rfl ?_
        refine J_aload_n (j := 3) dX9_puts_61 rfl rfl ?_
        refine JM_getR (r := 85) fl_WithOneHandModel_26_8 dX9_puts_62 c_80 rfl rfl ?_
        refine J_iload_n (j := 1) dX9_puts_65 rfl rfl ?_
        refine JM_iald (j := ix (a1 % 10)) dX9_puts_66 c_85 (inb_vp b7) rfl ?_
        refine J_dup2 dX9_puts_67 rfl rfl ?_
        obtain ⟨b13, hF⟩ := chk hF
        refine JM_iald (j := ix (mi m12 85 (ix (a1 % 10)))) dX9_puts_68 c_90 (inb_vp b13) rfl ?_
        refine J_aload_n (j := 3) dX9_puts_69 rfl rfl ?_
        refine JM_getR (r := 90) fl_WithOneHandModel_41_8 dX9_puts_70 c_80 rfl rfl ?_
        refine J_aload_n (j := 3) dX9_puts_73 rfl rfl ?_
        refine JM_getR (r := 85) fl_WithOneHandModel_26_8 dX9_puts_74 c_80 rfl rfl ?_
        refine J_iload_n (j := 1) dX9_puts_77 rfl rfl ?_
        refine JM_iald (j := ix (a1 % 10)) dX9_puts_78 c_85 (inb_vp b7) rfl ?_
        refine JM_iald (j := ix (mi m12 85 (ix (a1 % 10)))) dX9_puts_79 c_90 (inb_vp b13) rfl ?_
        refine J_bipush (v := 99) dX9_puts_80 (by decide) ?_
        refine J_icmp_ge (tgt := 89) dX9_puts_82 (by decide) (fun q14 => ?_) (fun q14 => ?_)
        · rw [if_pos q14] at hF
          refine J_iconst (v := 0) dX9_puts_89 (by decide) ?_
          refine J_sub [3, 0] rfl ?_
          exact SB_X9_puts_90 hd hF
        · rw [if_neg q14] at hF
          refine J_iconst (v := 1) dX9_puts_85 (by decide) ?_
          refine J_goto (tgt := 90) dX9_puts_86 (by decide) ?_
          refine J_sub [3, 0] rfl ?_
          exact SB_X9_puts_90 hd hF
      · rw [if_neg q8] at hF
        refine J_bipush (v := (-5)) dX9_puts_39 (by decide) ?_
        obtain ⟨e_r, e_z⟩ := someP hF
        subst e_r
        subst e_z
        exact J_ireturn rfl rfl dX9_puts_41 ⟨rfl, rfl⟩
  · rw [if_neg q3] at hF
    refine J_iconst (v := (-1)) dX9_puts_8 (by decide) ?_
    obtain ⟨e_r, e_z⟩ := someP hF
    subst e_r
    subst e_z
    exact J_ireturn rfl rfl dX9_puts_9 ⟨rfl, rfl⟩
def f_X8_out (a1 : Int32) (x : MX) : Option (Int32 × MX) :=
  if (f_X8_isCuff a1 x) = true then
  if inb a1 6 = true then
  if (xi x 26 (ix a1)) = (-2) then
  some ((-5), x)
  else
  letx (xs x 26 (ix a1) (-2)) (fun x4 =>
  letx (xs x4 27 2 ((xi x4 27 2) + 1)) (fun x5 =>
  some (xi x 26 (ix a1), x5)))
  else none
  else
  some ((-1), x)
theorem S_X8_out {g : GC} {d : Nat} {a1 : Int32} {x : MX} {m : MM} {r : Int32} {z : MX} (hd : 2 ≤ d) 
  (hF : f_X8_out a1 x = some (r, z)) : JC g m_X8_out d 0 0 [.ref 5, .int a1] (ST x m) (EQ (some (.int r)) (ST z m)) := by
  refine JC.of (by decide +kernel) (Nat.le_of_ble_eq_true rfl) ?_
  change J g m_X8_out d 0 0 0 [(0, .ref 5), (1, .int a1)] [] (ST x m) 0 0 (EQ (some (.int r)) (ST z m))
  unfold f_X8_out at hF
  refine J_aload_n (j := 0) dX8_out_0 rfl rfl ?_
  refine J_iload_n (j := 1) dX8_out_1 rfl rfl ?_
  refine JX_callVi (As := [.int a1]) (S := []) lkV_WithOneHand_116_X8_isCuff rfl (by decide) dX8_out_2 c_5 (S_X8_isCuff (by omega) rfl) (by omega) rfl rfl (Nat.le_of_ble_eq_true rfl) rfl ?_
  refine J_ifb_ne (tgt := 10) dX8_out_5 (by decide) (fun q1 => ?_) (fun q1 => ?_)
  · rw [if_pos q1] at hF
    refine J_aload_n (j := 0) dX8_out_10 rfl rfl ?_
    refine JX_getR (r := 25) fl_WithOneHand_24_7 dX8_out_11 c_5 rfl rfl ?_
    refine JX_getR (r := 26) fl_WithOneHand_119_0 dX8_out_14 c_25 rfl rfl ?_
    refine J_iload_n (j := 1) dX8_out_17 rfl rfl ?_
    obtain ⟨b2, hF⟩ := chk hF
    refine JX_iald (j := ix a1) dX8_out_18 c_26 (inb_vp b2) rfl ?_
    refine J_istore_n (L' := [(2, .int (xi x 26 (ix a1))), (0, .ref 5), (1, .int a1)]) dX8_out_19 rfl (by decide) rfl ?_
    refine J_iload_n (j := 0) dX8_out_20 rfl rfl ?_
    refine J_bipush (v := (-2)) dX8_out_21 (by decide) ?_
    refine J_icmp_ne (tgt := 29) dX8_out_23 (by decide) (fun q3 => ?_) (fun q3 => ?_)
    · rw [if_neg q3] at hF
      refine J_aload_n (j := 1) dX8_out_29 rfl rfl ?_
      refine JX_getR (r := 25) fl_WithOneHand_24_7 dX8_out_30 c_5 rfl rfl ?_
      refine JX_getR (r := 26) fl_WithOneHand_119_0 dX8_out_33 c_25 rfl rfl ?_
      refine J_iload_n (j := 2) dX8_out_36 rfl rfl ?_
      refine J_bipush (v := (-2)) dX8_out_37 (by decide) ?_
      obtain ⟨x4, e_x4, hF⟩ := letx_eq hF
      refine JX_iast (j := ix a1) dX8_out_39 c_26 (inb_vp b2) rfl ?_
      rw [← e_x4]
      refine J_aload_n (j := 1) dX8_out_40 rfl rfl ?_
      refine JX_getR (r := 25) fl_WithOneHand_24_7 dX8_out_41 c_5 rfl rfl ?_
      refine JX_getR (r := 27) fl_WithOneHand_242_0 dX8_out_44 c_25 rfl rfl ?_
      refine J_iconst (v := 2) dX8_out_47 (by decide) ?_
      refine J_dup2 dX8_out_48 rfl rfl ?_
      refine JX_iald (j := 2) dX8_out_49 c_27 (by unfold vp_in; decide) (by decide) ?_
      refine J_iconst (v := 1) dX8_out_50 (by decide) ?_
      refine J_iadd dX8_out_51 ?_
      obtain ⟨x5, e_x5, hF⟩ := letx_eq hF
      refine JX_iast (j := 2) dX8_out_52 c_27 (by unfold vp_in; decide) (by decide) ?_
      rw [← e_x5]
      refine J_iload_n (j := 0) dX8_out_53 rfl rfl ?_
      obtain ⟨e_r, e_z⟩ := someP hF
      subst e_r
      subst e_z
      exact J_ireturn rfl rfl dX8_out_54 ⟨rfl, rfl⟩
    · rw [if_pos q3] at hF
      refine J_bipush (v := (-5)) dX8_out_26 (by decide) ?_
      obtain ⟨e_r, e_z⟩ := someP hF
      subst e_r
      subst e_z
      exact J_ireturn rfl rfl dX8_out_28 ⟨rfl, rfl⟩
  · rw [if_neg q1] at hF
    refine J_iconst (v := (-1)) dX8_out_8 (by decide) ?_
    obtain ⟨e_r, e_z⟩ := someP hF
    subst e_r
    subst e_z
    exact J_ireturn rfl rfl dX8_out_9 ⟨rfl, rfl⟩
def f_X9_out (a1 : Int32) (m : MM) : Option (Int32 × MM) :=
  if (f_X9_isCuff a1 m) = true then
  if inb a1 6 = true then
  if (mi m 87 (ix a1)) = (-2) then
  some ((-5), m)
  else
  letx (ms m 87 (ix a1) (-2)) (fun m4 =>
  letx (ms m4 80 39 ((mi m4 80 39) + 1)) (fun m5 =>
  some (mi m 87 (ix a1), m5)))
  else none
  else
  some ((-1), m)
theorem S_X9_out {g : GC} {d : Nat} {a1 : Int32} {x : MX} {m : MM} {r : Int32} {z : MM} (hd : 2 ≤ d) 
  (hF : f_X9_out a1 m = some (r, z)) : JC g m_X9_out d 0 0 [.ref 80, .int a1] (ST x m) (EQ (some (.int r)) (ST x z)) := by
  refine JC.of (by decide +kernel) (Nat.le_of_ble_eq_true rfl) ?_
  change J g m_X9_out d 0 0 0 [(0, .ref 80), (1, .int a1)] [] (ST x m) 0 0 (EQ (some (.int r)) (ST x z))
  unfold f_X9_out at hF
  refine J_aload_n (j := 0) dX9_out_0 rfl rfl ?_
  refine J_iload_n (j := 1) dX9_out_1 rfl rfl ?_
  refine JM_callVi (As := [.int a1]) (S := []) lkV_WithOneHandModel_136_X9_isCuff rfl (by decide) dX9_out_2 c_80 (S_X9_isCuff (by omega) rfl) (by omega) rfl rfl (Nat.le_of_ble_eq_true rfl) rfl ?_
  refine J_ifb_ne (tgt := 10) dX9_out_5 (by decide) (fun q1 => ?_) (fun q1 => ?_)
  · rw [if_pos q1] at hF
    refine J_aload_n (j := 0) dX9_out_10 rfl rfl ?_
    refine JM_getR (r := 87) fl_WithOneHandModel_32_8 dX9_out_11 c_80 rfl rfl ?_
    refine J_iload_n (j := 1) dX9_out_14 rfl rfl ?_
    obtain ⟨b2, hF⟩ := chk hF
    refine JM_iald (j := ix a1) dX9_out_15 c_87 (inb_vp b2) rfl ?_
    refine J_bipush (v := (-2)) dX9_out_16 (by decide) ?_
    refine J_icmp_ne (tgt := 24) dX9_out_18 (by decide) (fun q3 => ?_) (fun q3 => ?_)
    · rw [if_neg q3] at hF
      refine J_aload_n (j := 0) dX9_out_24 rfl rfl ?_
      refine JM_getR (r := 87) fl_WithOneHandModel_32_8 dX9_out_25 c_80 rfl rfl ?_
      refine J_iload_n (j := 1) dX9_out_28 rfl rfl ?_
      refine JM_iald (j := ix a1) dX9_out_29 c_87 (inb_vp b2) rfl ?_
      refine J_istore_n (L' := [(2, .int (mi m 87 (ix a1))), (0, .ref 80), (1, .int a1)]) dX9_out_30 rfl (by decide) rfl ?_
      refine J_aload_n (j := 1) dX9_out_31 rfl rfl ?_
      refine JM_getR (r := 87) fl_WithOneHandModel_32_8 dX9_out_32 c_80 rfl rfl ?_
      refine J_iload_n (j := 2) dX9_out_35 rfl rfl ?_
      refine J_bipush (v := (-2)) dX9_out_36 (by decide) ?_
      obtain ⟨m4, e_m4, hF⟩ := letx_eq hF
      refine JM_iast (j := ix a1) dX9_out_38 c_87 (inb_vp b2) rfl ?_
      rw [← e_m4]
      refine J_aload_n (j := 1) dX9_out_39 rfl rfl ?_
      refine J_dup dX9_out_40 rfl ?_
      refine JM_getI fl_WithOneHandModel_337_8 dX9_out_41 c_80 rfl ?_
      refine J_iconst (v := 1) dX9_out_44 (by decide) ?_
      refine J_iadd dX9_out_45 ?_
      obtain ⟨m5, e_m5, hF⟩ := letx_eq hF
      refine JM_putI fl_WithOneHandModel_337_8 dX9_out_46 c_80 rfl rfl rfl ?_
      rw [← e_m5]
      refine J_iload_n (j := 0) dX9_out_49 rfl rfl ?_
      obtain ⟨e_r, e_z⟩ := someP hF
      subst e_r
      subst e_z
      exact J_ireturn rfl rfl dX9_out_50 ⟨rfl, rfl⟩
    · rw [if_pos q3] at hF
      refine J_bipush (v := (-5)) dX9_out_21 (by decide) ?_
      obtain ⟨e_r, e_z⟩ := someP hF
      subst e_r
      subst e_z
      exact J_ireturn rfl rfl dX9_out_23 ⟨rfl, rfl⟩
  · rw [if_neg q1] at hF
    refine J_iconst (v := (-1)) dX9_out_8 (by decide) ?_
    obtain ⟨e_r, e_z⟩ := someP hF
    subst e_r
    subst e_z
    exact J_ireturn rfl rfl dX9_out_9 ⟨rfl, rfl⟩
def B_X0_takeAllOut_25_24 (K4 : Int32 → Int32 → MX → Option (Int32 × MX)) (v1 : Int32) (v2 : Int32) (x : MX) : Option (Int32 × MX) :=
  if inb v2 6 = true then
  letx (xs x 26 (ix v2) (-2)) (fun x5 =>
  K4 v1 (v2 + 1) x5)
  else none
theorem SB_X0_takeAllOut_25_24 {g : GC} {d : Nat} {K4 : Int32 → Int32 → MX → Option (Int32 × MX)} {v1 : Int32} {v2 : Int32} {x : MX} {m : MM} {r : Int32} {z : MX} (hd : 1 ≤ d) (hK4 : ∀ (v1 : Int32) (v2 : Int32) (x : MX) (r : Int32) (z : MX), K4 v1 v2 x = some (r, z) → J g m_X0_takeAllOut d 0 0 4 [(0, .ref 25), (1, .int v1), (2, .int v2)] [] (ST x m) 0 0 (EQ (some (.int r)) (ST z m)))
  (hF : B_X0_takeAllOut_25_24 K4 v1 v2 x = some (r, z)) : J g m_X0_takeAllOut d 0 0 24 [(0, .ref 25), (1, .int v1), (2, .int v2)] [] (ST x m) 0 0 (EQ (some (.int r)) (ST z m)) := by
  unfold B_X0_takeAllOut_25_24 at hF
  refine J_aload_n (j := 0) dX0_takeAllOut_24 rfl rfl ?_
  refine JX_getR (r := 26) fl_Deeds_9_0 dX0_takeAllOut_25 c_25 rfl rfl ?_
  refine J_iload_n (j := 2) dX0_takeAllOut_28 rfl rfl ?_
  refine J_bipush (v := (-2)) dX0_takeAllOut_29 (by decide) ?_
  obtain ⟨b4, hF⟩ := chk hF
  obtain ⟨x5, e_x5, hF⟩ := letx_eq hF
  refine JX_iast (j := ix v2) dX0_takeAllOut_31 c_26 (inb_vp b4) rfl ?_
  rw [← e_x5]
  refine J_iinc (j := 2) (v := v2 + 1) (L' := [(2, .int (v2 + 1)), (0, .ref 25), (1, .int v1)]) dX0_takeAllOut_32 rfl rfl (by decide) rfl ?_
  refine J_goto (tgt := 4) dX0_takeAllOut_35 (by decide) ?_
  refine J_sub [1, 2, 0] rfl ?_
  exact hK4 _ _ _ _ _  hF
def B_X0_takeAllOut_25_4 (K4 : Int32 → Int32 → MX → Option (Int32 × MX)) (v1 : Int32) (v2 : Int32) (x : MX) : Option (Int32 × MX) :=
  if 6 ≤ v2 then
  some (v1, x)
  else
  if inb v2 6 = true then
  if (xi x 26 (ix v2)) = (-2) then
  B_X0_takeAllOut_25_24 K4 v1 v2 x
  else
  B_X0_takeAllOut_25_24 K4 (v1 + 1) v2 x
  else none
theorem SB_X0_takeAllOut_25_4 {g : GC} {d : Nat} {K4 : Int32 → Int32 → MX → Option (Int32 × MX)} {v1 : Int32} {v2 : Int32} {x : MX} {m : MM} {r : Int32} {z : MX} (hd : 1 ≤ d) (hK4 : ∀ (v1 : Int32) (v2 : Int32) (x : MX) (r : Int32) (z : MX), K4 v1 v2 x = some (r, z) → J g m_X0_takeAllOut d 0 0 4 [(0, .ref 25), (1, .int v1), (2, .int v2)] [] (ST x m) 0 0 (EQ (some (.int r)) (ST z m)))
  (hF : B_X0_takeAllOut_25_4 K4 v1 v2 x = some (r, z)) : J g m_X0_takeAllOut d 0 0 4 [(0, .ref 25), (1, .int v1), (2, .int v2)] [] (ST x m) 0 0 (EQ (some (.int r)) (ST z m)) := by
  unfold B_X0_takeAllOut_25_4 at hF
  refine J_iload_n (j := 2) dX0_takeAllOut_4 rfl rfl ?_
  refine J_bipush (v := 6) dX0_takeAllOut_5 (by decide) ?_
  refine J_icmp_ge (tgt := 38) dX0_takeAllOut_7 (by decide) (fun q1 => ?_) (fun q1 => ?_)
  · rw [if_pos q1] at hF
    refine J_iload_n (j := 1) dX0_takeAllOut_38 rfl rfl ?_
    obtain ⟨e_r, e_z⟩ := someP hF
    subst e_r
    subst e_z
    exact J_ireturn rfl rfl dX0_takeAllOut_39 ⟨rfl, rfl⟩
  · rw [if_neg q1] at hF
    refine J_aload_n (j := 0) dX0_takeAllOut_10 rfl rfl ?_
    refine JX_getR (r := 26) fl_Deeds_9_0 dX0_takeAllOut_11 c_25 rfl rfl ?_
    refine J_iload_n (j := 2) dX0_takeAllOut_14 rfl rfl ?_
    obtain ⟨b2, hF⟩ := chk hF
    refine JX_iald (j := ix v2) dX0_takeAllOut_15 c_26 (inb_vp b2) rfl ?_
    refine J_bipush (v := (-2)) dX0_takeAllOut_16 (by decide) ?_
    refine J_icmp_eq (tgt := 24) dX0_takeAllOut_18 (by decide) (fun q3 => ?_) (fun q3 => ?_)
    · rw [if_pos q3] at hF
      exact SB_X0_takeAllOut_25_24 hd hK4 hF
    · rw [if_neg q3] at hF
      refine J_iinc (j := 1) (v := v1 + 1) (L' := [(1, .int (v1 + 1)), (0, .ref 25), (2, .int v2)]) dX0_takeAllOut_21 rfl rfl (by decide) rfl ?_
      refine J_sub [1, 0, 2] rfl ?_
      exact SB_X0_takeAllOut_25_24 hd hK4 hF
def f_X0_takeAllOut_25_4  : Nat → Int32 → Int32 → MX → Option (Int32 × MX)
  | 0 => fun _ _ _ => none
  | n + 1 => fun v1 v2 x => B_X0_takeAllOut_25_4 (f_X0_takeAllOut_25_4  n) v1 v2 x
theorem Sf_X0_takeAllOut_25_4 {g : GC} {d : Nat} {m : MM} (hd : 1 ≤ d)  : ∀ (n : Nat) (v1 : Int32) (v2 : Int32) (x : MX) (r : Int32) (z : MX), f_X0_takeAllOut_25_4  n v1 v2 x = some (r, z) → J g m_X0_takeAllOut d 0 0 4 [(0, .ref 25), (1, .int v1), (2, .int v2)] [] (ST x m) 0 0 (EQ (some (.int r)) (ST z m)) := by
  intro n
  induction n with
  | zero => intro v1 v2 x r z  hF; exact absurd hF (fun q => by cases q)
  | succ n ih =>
    intro v1 v2 x r z  hF
    exact SB_X0_takeAllOut_25_4 hd (fun v1 v2 x r z  hF => ih v1 v2 x r z  hF) hF
def f_X0_takeAllOut_25 (x : MX) : Option (Int32 × MX) :=
  f_X0_takeAllOut_25_4 LF 0 0 x
theorem S_X0_takeAllOut_25 {g : GC} {d : Nat}  {x : MX} {m : MM} {r : Int32} {z : MX} (hd : 1 ≤ d) 
  (hF : f_X0_takeAllOut_25 x = some (r, z)) : JC g m_X0_takeAllOut d 0 0 [.ref 25] (ST x m) (EQ (some (.int r)) (ST z m)) := by
  refine JC.of (by decide +kernel) (Nat.le_of_ble_eq_true rfl) ?_
  change J g m_X0_takeAllOut d 0 0 0 [(0, .ref 25)] [] (ST x m) 0 0 (EQ (some (.int r)) (ST z m))
  unfold f_X0_takeAllOut_25 at hF
  refine J_iconst (v := 0) dX0_takeAllOut_0 (by decide) ?_
  refine J_istore_n (L' := [(1, .int 0), (0, .ref 25)]) dX0_takeAllOut_1 rfl (by decide) rfl ?_
  refine J_iconst (v := 0) dX0_takeAllOut_2 (by decide) ?_
  refine J_istore_n (L' := [(2, .int 0), (1, .int 0), (0, .ref 25)]) dX0_takeAllOut_3 rfl (by decide) rfl ?_
  refine J_sub [2, 1, 0] rfl ?_
  exact Sf_X0_takeAllOut_25_4 hd _ _ _ _ _ _ hF
def f_X8_night (x : MX) : Option (Int32 × MX) :=
  letx (xs x 27 3 ((xi x 27 3) + 1)) (fun x1 =>
  ob2 (f_X0_takeAllOut_25 x1) (fun r2 x3 =>
  some (r2, x3)))
theorem S_X8_night {g : GC} {d : Nat}  {x : MX} {m : MM} {r : Int32} {z : MX} (hd : 2 ≤ d) 
  (hF : f_X8_night x = some (r, z)) : JC g m_X8_night d 0 0 [.ref 5] (ST x m) (EQ (some (.int r)) (ST z m)) := by
  refine JC.of (by decide +kernel) (Nat.le_of_ble_eq_true rfl) ?_
  change J g m_X8_night d 0 0 0 [(0, .ref 5)] [] (ST x m) 0 0 (EQ (some (.int r)) (ST z m))
  unfold f_X8_night at hF
  refine J_aload_n (j := 0) dX8_night_0 rfl rfl ?_
  refine JX_getR (r := 25) fl_WithOneHand_24_7 dX8_night_1 c_5 rfl rfl ?_
  refine JX_getR (r := 27) fl_WithOneHand_242_0 dX8_night_4 c_25 rfl rfl ?_
  refine J_iconst (v := 3) dX8_night_7 (by decide) ?_
  refine J_dup2 dX8_night_8 rfl rfl ?_
  refine JX_iald (j := 3) dX8_night_9 c_27 (by unfold vp_in; decide) (by decide) ?_
  refine J_iconst (v := 1) dX8_night_10 (by decide) ?_
  refine J_iadd dX8_night_11 ?_
  obtain ⟨x1, e_x1, hF⟩ := letx_eq hF
  refine JX_iast (j := 3) dX8_night_12 c_27 (by unfold vp_in; decide) (by decide) ?_
  rw [← e_x1]
  refine J_aload_n (j := 0) dX8_night_13 rfl rfl ?_
  refine JX_getR (r := 25) fl_WithOneHand_24_7 dX8_night_14 c_5 rfl rfl ?_
  obtain ⟨r2, x3, h4, hF⟩ := ob2_some hF
  refine JX_callVi (As := []) (S := []) lkV_WithOneHand_248_X0_takeAllOut rfl (by decide) dX8_night_17 c_25 (S_X0_takeAllOut_25 (by omega) h4) (by omega) rfl rfl (Nat.le_of_ble_eq_true rfl) rfl ?_
  obtain ⟨e_r, e_z⟩ := someP hF
  subst e_r
  subst e_z
  exact J_ireturn rfl rfl dX8_night_20 ⟨rfl, rfl⟩
def B_X9_night_30 (K4 : Int32 → Int32 → MM → Option (Int32 × MM)) (v2 : Int32) (t0 : Int32) (t2 : Int32) (m : MM) : Option (Int32 × MM) :=
  if inb v2 6 = true then
  letx (ms m 87 (ix v2) (-2)) (fun m6 =>
  K4 (t2 + (f_X9_one t0)) (v2 + 1) m6)
  else none
theorem SB_X9_night_30 {g : GC} {d : Nat} {K4 : Int32 → Int32 → MM → Option (Int32 × MM)} {v2 : Int32} {t0 : Int32} {t2 : Int32} {x : MX} {m : MM} {r : Int32} {z : MM} (hd : 2 ≤ d) (hK4 : ∀ (v1 : Int32) (v2 : Int32) (m : MM) (r : Int32) (z : MM), K4 v1 v2 m = some (r, z) → J g m_X9_night d 0 0 4 [(0, .ref 80), (1, .int v1), (2, .int v2)] [] (ST x m) 0 0 (EQ (some (.int r)) (ST x z)))
  (hF : B_X9_night_30 K4 v2 t0 t2 m = some (r, z)) : J g m_X9_night d 0 0 30 [(0, .ref 80), (2, .int v2)] [.int t0, .ref 80, .int t2] (ST x m) 0 0 (EQ (some (.int r)) (ST x z)) := by
  unfold B_X9_night_30 at hF
  refine JM_callVi (As := [.int t0]) (S := [.int t2]) lkV_WithOneHandModel_228_X9_one rfl (by decide) dX9_night_30 c_80 (S_X9_one (by omega) rfl) (by omega) rfl rfl (Nat.le_of_ble_eq_true rfl) rfl ?_
  refine J_iadd dX9_night_33 ?_
  refine J_istore_n (L' := [(1, .int (t2 + (f_X9_one t0))), (0, .ref 80), (2, .int v2)]) dX9_night_34 rfl (by decide) rfl ?_
  refine J_aload_n (j := 1) dX9_night_35 rfl rfl ?_
  refine JM_getR (r := 87) fl_WithOneHandModel_32_8 dX9_night_36 c_80 rfl rfl ?_
  refine J_iload_n (j := 2) dX9_night_39 rfl rfl ?_
  refine J_bipush (v := (-2)) dX9_night_40 (by decide) ?_
  obtain ⟨b5, hF⟩ := chk hF
  obtain ⟨m6, e_m6, hF⟩ := letx_eq hF
  refine JM_iast (j := ix v2) dX9_night_42 c_87 (inb_vp b5) rfl ?_
  rw [← e_m6]
  refine J_iinc (j := 2) (v := v2 + 1) (L' := [(2, .int (v2 + 1)), (1, .int (t2 + (f_X9_one t0))), (0, .ref 80)]) dX9_night_43 rfl rfl (by decide) rfl ?_
  refine J_goto (tgt := 4) dX9_night_46 (by decide) ?_
  refine J_sub [2, 1, 0] rfl ?_
  exact hK4 _ _ _ _ _  hF
def B_X9_night_4 (K4 : Int32 → Int32 → MM → Option (Int32 × MM)) (v1 : Int32) (v2 : Int32) (m : MM) : Option (Int32 × MM) :=
  if (mi m 80 1) ≤ v2 then
  letx (ms m 80 40 ((mi m 80 40) + 1)) (fun m2 =>
  some (v1, m2))
  else
  if inb v2 6 = true then
  if (mi m 87 (ix v2)) = (-2) then
  B_X9_night_30 K4 v2 0 v1 m
  else
  B_X9_night_30 K4 v2 1 v1 m
  else none
theorem SB_X9_night_4 {g : GC} {d : Nat} {K4 : Int32 → Int32 → MM → Option (Int32 × MM)} {v1 : Int32} {v2 : Int32} {x : MX} {m : MM} {r : Int32} {z : MM} (hd : 2 ≤ d) (hK4 : ∀ (v1 : Int32) (v2 : Int32) (m : MM) (r : Int32) (z : MM), K4 v1 v2 m = some (r, z) → J g m_X9_night d 0 0 4 [(0, .ref 80), (1, .int v1), (2, .int v2)] [] (ST x m) 0 0 (EQ (some (.int r)) (ST x z)))
  (hF : B_X9_night_4 K4 v1 v2 m = some (r, z)) : J g m_X9_night d 0 0 4 [(0, .ref 80), (1, .int v1), (2, .int v2)] [] (ST x m) 0 0 (EQ (some (.int r)) (ST x z)) := by
  unfold B_X9_night_4 at hF
  refine J_iload_n (j := 2) dX9_night_4 rfl rfl ?_
  refine J_aload_n (j := 0) dX9_night_5 rfl rfl ?_
  refine JM_getI fl_WithOneHandModel_111_8 dX9_night_6 c_80 rfl ?_
  refine J_icmp_ge (tgt := 49) dX9_night_9 (by decide) (fun q1 => ?_) (fun q1 => ?_)
  · rw [if_pos q1] at hF
    refine J_aload_n (j := 0) dX9_night_49 rfl rfl ?_
    refine J_dup dX9_night_50 rfl ?_
    refine JM_getI fl_WithOneHandModel_340_8 dX9_night_51 c_80 rfl ?_
    refine J_iconst (v := 1) dX9_night_54 (by decide) ?_
    refine J_iadd dX9_night_55 ?_
    obtain ⟨m2, e_m2, hF⟩ := letx_eq hF
    refine JM_putI fl_WithOneHandModel_340_8 dX9_night_56 c_80 rfl rfl rfl ?_
    rw [← e_m2]
    refine J_iload_n (j := 1) dX9_night_59 rfl rfl ?_
    obtain ⟨e_r, e_z⟩ := someP hF
    subst e_r
    subst e_z
    exact J_ireturn rfl rfl dX9_night_60 ⟨rfl, rfl⟩
  · rw [if_neg q1] at hF
    refine J_iload_n (j := 1) dX9_night_12 rfl rfl ?_
    refine J_aload_n (j := 0) dX9_night_13 rfl rfl ?_
    refine J_aload_n (j := 0) dX9_night_14 rfl rfl ?_
    refine JM_getR (r := 87) fl_WithOneHandModel_32_8 dX9_night_15 c_80 rfl rfl ?_
    refine J_iload_n (j := 2) dX9_night_18 rfl rfl ?_
    obtain ⟨b3, hF⟩ := chk hF
    refine JM_iald (j := ix v2) dX9_night_19 c_87 (inb_vp b3) rfl ?_
    refine J_bipush (v := (-2)) dX9_night_20 (by decide) ?_
    refine J_icmp_eq (tgt := 29) dX9_night_22 (by decide) (fun q4 => ?_) (fun q4 => ?_)
    · rw [if_pos q4] at hF
      refine J_iconst (v := 0) dX9_night_29 (by decide) ?_
      refine J_sub [0, 2] rfl ?_
      exact SB_X9_night_30 hd hK4 hF
    · rw [if_neg q4] at hF
      refine J_iconst (v := 1) dX9_night_25 (by decide) ?_
      refine J_goto (tgt := 30) dX9_night_26 (by decide) ?_
      refine J_sub [0, 2] rfl ?_
      exact SB_X9_night_30 hd hK4 hF
def f_X9_night_4  : Nat → Int32 → Int32 → MM → Option (Int32 × MM)
  | 0 => fun _ _ _ => none
  | n + 1 => fun v1 v2 m => B_X9_night_4 (f_X9_night_4  n) v1 v2 m
theorem Sf_X9_night_4 {g : GC} {d : Nat} {x : MX} (hd : 2 ≤ d)  : ∀ (n : Nat) (v1 : Int32) (v2 : Int32) (m : MM) (r : Int32) (z : MM), f_X9_night_4  n v1 v2 m = some (r, z) → J g m_X9_night d 0 0 4 [(0, .ref 80), (1, .int v1), (2, .int v2)] [] (ST x m) 0 0 (EQ (some (.int r)) (ST x z)) := by
  intro n
  induction n with
  | zero => intro v1 v2 m r z  hF; exact absurd hF (fun q => by cases q)
  | succ n ih =>
    intro v1 v2 m r z  hF
    exact SB_X9_night_4 hd (fun v1 v2 m r z  hF => ih v1 v2 m r z  hF) hF
def f_X9_night (m : MM) : Option (Int32 × MM) :=
  f_X9_night_4 LF 0 0 m
theorem S_X9_night {g : GC} {d : Nat}  {x : MX} {m : MM} {r : Int32} {z : MM} (hd : 2 ≤ d) 
  (hF : f_X9_night m = some (r, z)) : JC g m_X9_night d 0 0 [.ref 80] (ST x m) (EQ (some (.int r)) (ST x z)) := by
  refine JC.of (by decide +kernel) (Nat.le_of_ble_eq_true rfl) ?_
  change J g m_X9_night d 0 0 0 [(0, .ref 80)] [] (ST x m) 0 0 (EQ (some (.int r)) (ST x z))
  unfold f_X9_night at hF
  refine J_iconst (v := 0) dX9_night_0 (by decide) ?_
  refine J_istore_n (L' := [(1, .int 0), (0, .ref 80)]) dX9_night_1 rfl (by decide) rfl ?_
  refine J_iconst (v := 0) dX9_night_2 (by decide) ?_
  refine J_istore_n (L' := [(2, .int 0), (1, .int 0), (0, .ref 80)]) dX9_night_3 rfl (by decide) rfl ?_
  refine J_sub [2, 1, 0] rfl ?_
  exact Sf_X9_night_4 hd _ _ _ _ _ _ hF
def f_X8_led (a1 : Int32) (x : MX) : Option Int32 :=
  if a1 < 0 then
  some (-1)
  else
  if a1 ≤ 3 then
  if inb a1 4 = true then
  some (xi x 27 (ix a1))
  else none
  else
  some (-1)
theorem S_X8_led {g : GC} {d : Nat} {a1 : Int32} {x : MX} {m : MM} {r : Int32} (hd : 1 ≤ d) 
  (hF : f_X8_led a1 x = some r) : JC g m_X8_led d 0 0 [.ref 5, .int a1] (ST x m) (EQ (some (.int r)) (ST x m)) := by
  refine JC.of (by decide +kernel) (Nat.le_of_ble_eq_true rfl) ?_
  change J g m_X8_led d 0 0 0 [(0, .ref 5), (1, .int a1)] [] (ST x m) 0 0 (EQ (some (.int r)) (ST x m))
  unfold f_X8_led at hF
  refine J_iload_n (j := 1) dX8_led_0 rfl rfl ?_
  refine J_if_lt (tgt := 9) dX8_led_1 (by decide) (fun q1 => ?_) (fun q1 => ?_)
  · rw [if_pos q1] at hF
    refine J_iconst (v := (-1)) dX8_led_9 (by decide) ?_
    refine J_goto (tgt := 22) dX8_led_10 (by decide) ?_
    have e_r := Option.some.inj hF
    subst e_r
    exact J_ireturn rfl rfl dX8_led_22 ⟨rfl, rfl⟩
  · rw [if_neg q1] at hF
    refine J_iload_n (j := 1) dX8_led_4 rfl rfl ?_
    refine J_iconst (v := 3) dX8_led_5 (by decide) ?_
    refine J_icmp_le (tgt := 13) dX8_led_6 (by decide) (fun q2 => ?_) (fun q2 => ?_)
    · rw [if_pos q2] at hF
      refine J_aload_n (j := 0) dX8_led_13 rfl rfl ?_
      refine JX_getR (r := 25) fl_WithOneHand_24_7 dX8_led_14 c_5 rfl rfl ?_
      refine JX_getR (r := 27) fl_WithOneHand_242_0 dX8_led_17 c_25 rfl rfl ?_
      refine J_iload_n (j := 1) dX8_led_20 rfl rfl ?_
      obtain ⟨b3, hF⟩ := chk hF
      refine JX_iald (j := ix a1) dX8_led_21 c_27 (inb_vp b3) rfl ?_
      have e_r := Option.some.inj hF
      subst e_r
      exact J_ireturn rfl rfl dX8_led_22 ⟨rfl, rfl⟩
    · rw [if_neg q2] at hF
      refine J_iconst (v := (-1)) dX8_led_9 (by decide) ?_
      refine J_goto (tgt := 22) dX8_led_10 (by decide) ?_
      have e_r := Option.some.inj hF
      subst e_r
      exact J_ireturn rfl rfl dX8_led_22 ⟨rfl, rfl⟩
def f_X9_led (a1 : Int32) (m : MM) : Int32 :=
  if a1 = 0 then
  mi m 80 37
  else
  if a1 = 1 then
  mi m 80 38
  else
  if a1 = 2 then
  mi m 80 39
  else
  if a1 = 3 then
  mi m 80 40
  else
  (-1)
theorem S_X9_led {g : GC} {d : Nat} {a1 : Int32} {x : MX} {m : MM} {r : Int32} (hd : 1 ≤ d) 
  (hF : f_X9_led a1 m = r) : JC g m_X9_led d 0 0 [.ref 80, .int a1] (ST x m) (EQ (some (.int r)) (ST x m)) := by
  refine JC.of (by decide +kernel) (Nat.le_of_ble_eq_true rfl) ?_
  change J g m_X9_led d 0 0 0 [(0, .ref 80), (1, .int a1)] [] (ST x m) 0 0 (EQ (some (.int r)) (ST x m))
  unfold f_X9_led at hF
  refine J_iload_n (j := 1) dX9_led_0 rfl rfl ?_
  refine J_tsw (n := 3) (td := 52) (cs := [(0, 32), (1, 37), (2, 42), (3, 47)]) dX9_led_1 (by decide) (by decide) (by decide +kernel) (by decide +kernel) ?_
  refine J_sw (fun q1 => ?_) (fun q1 => ?_)
  · rw [if_pos q1] at hF
    refine J_aload_n (j := 0) dX9_led_32 rfl rfl ?_
    refine JM_getI fl_WithOneHandModel_331_8 dX9_led_33 c_80 rfl ?_
    subst hF
    exact J_ireturn rfl rfl dX9_led_36 ⟨rfl, rfl⟩
  rw [if_neg q1] at hF
  refine J_sw (fun q2 => ?_) (fun q2 => ?_)
  · rw [if_pos q2] at hF
    refine J_aload_n (j := 0) dX9_led_37 rfl rfl ?_
    refine JM_getI fl_WithOneHandModel_334_8 dX9_led_38 c_80 rfl ?_
    subst hF
    exact J_ireturn rfl rfl dX9_led_41 ⟨rfl, rfl⟩
  rw [if_neg q2] at hF
  refine J_sw (fun q3 => ?_) (fun q3 => ?_)
  · rw [if_pos q3] at hF
    refine J_aload_n (j := 0) dX9_led_42 rfl rfl ?_
    refine JM_getI fl_WithOneHandModel_337_8 dX9_led_43 c_80 rfl ?_
    subst hF
    exact J_ireturn rfl rfl dX9_led_46 ⟨rfl, rfl⟩
  rw [if_neg q3] at hF
  refine J_sw (fun q4 => ?_) (fun q4 => ?_)
  · rw [if_pos q4] at hF
    refine J_aload_n (j := 0) dX9_led_47 rfl rfl ?_
    refine JM_getI fl_WithOneHandModel_340_8 dX9_led_48 c_80 rfl ?_
    subst hF
    exact J_ireturn rfl rfl dX9_led_51 ⟨rfl, rfl⟩
  rw [if_neg q4] at hF
  refine J_swd ?_
  refine J_iconst (v := (-1)) dX9_led_52 (by decide) ?_
  subst hF
  exact J_ireturn rfl rfl dX9_led_53 ⟨rfl, rfl⟩
def f_X0_becomeLike_28 (x : MX) : Option MX :=
  letx (xcp x 26 29 0 0 6) (fun x1 =>
  letx (xcp x1 27 30 0 0 4) (fun x2 =>
  some x2))
theorem S_X0_becomeLike_28 {g : GC} {d : Nat}  {x : MX} {m : MM} {z : MX} (hd : 1 ≤ d) 
  (hF : f_X0_becomeLike_28 x = some z) : JC g m_X0_becomeLike d 0 0 [.ref 28, .ref 25] (ST x m) (EQ (none) (ST z m)) := by
  refine JC.of (by decide +kernel) (Nat.le_of_ble_eq_true rfl) ?_
  change J g m_X0_becomeLike d 0 0 0 [(0, .ref 28), (1, .ref 25)] [] (ST x m) 0 0 (EQ (none) (ST z m))
  unfold f_X0_becomeLike_28 at hF
  refine J_aload_n (j := 1) dX0_becomeLike_0 rfl rfl ?_
  refine JX_getR (r := 26) fl_Deeds_9_0 dX0_becomeLike_1 c_25 rfl rfl ?_
  refine J_iconst (v := 0) dX0_becomeLike_4 (by decide) ?_
  refine J_aload_n (j := 0) dX0_becomeLike_5 rfl rfl ?_
  refine JX_getR (r := 29) fl_Deeds_9_0 dX0_becomeLike_6 c_28 rfl rfl ?_
  refine J_iconst (v := 0) dX0_becomeLike_9 (by decide) ?_
  refine J_bipush (v := 6) dX0_becomeLike_10 (by decide) ?_
  obtain ⟨x1, e_x1, hF⟩ := letx_eq hF
  refine JX_copyI (a := 0) (b := 0) (n' := 6) (tb 772 (by decide +kernel)) dX0_becomeLike_12 c_26 c_29 (by decide) (by decide) (by decide) (by decide) (by decide) (by decide) (by decide) (by decide) (Nat.le_of_ble_eq_true rfl) ?_
  rw [← e_x1]
  refine J_aload_n (j := 1) dX0_becomeLike_15 rfl rfl ?_
  refine JX_getR (r := 27) fl_Deeds_15_0 dX0_becomeLike_16 c_25 rfl rfl ?_
  refine J_iconst (v := 0) dX0_becomeLike_19 (by decide) ?_
  refine J_aload_n (j := 0) dX0_becomeLike_20 rfl rfl ?_
  refine JX_getR (r := 30) fl_Deeds_15_0 dX0_becomeLike_21 c_28 rfl rfl ?_
  refine J_iconst (v := 0) dX0_becomeLike_24 (by decide) ?_
  refine J_aload_n (j := 0) dX0_becomeLike_25 rfl rfl ?_
  refine JX_getR (r := 30) fl_Deeds_15_0 dX0_becomeLike_26 c_28 rfl rfl ?_
  refine JX_alenI (v := 4) dX0_becomeLike_29 c_30 (by decide) ?_
  obtain ⟨x2, e_x2, hF⟩ := letx_eq hF
  refine JX_copyI (a := 0) (b := 0) (n' := 4) (tb 772 (by decide +kernel)) dX0_becomeLike_30 c_27 c_30 (by decide) (by decide) (by decide) (by decide) (by decide) (by decide) (by decide) (by decide) (Nat.le_of_ble_eq_true rfl) ?_
  rw [← e_x2]
  have e_r := Option.some.inj hF
  subst e_r
  exact J_return rfl dX0_becomeLike_33 ⟨rfl, rfl⟩
def f_X8_image (x : MX) : Option (Int32 × MX) :=
  ob (f_X0_becomeLike_28 x) (fun x1 =>
  letx (xcp x1 15 31 0 0 2) (fun x3 =>
  letx (xs x3 5 15 1) (fun x4 =>
  some (xi x4 27 0, x4))))
theorem S_X8_image {g : GC} {d : Nat}  {x : MX} {m : MM} {r : Int32} {z : MX} (hd : 2 ≤ d) 
  (hF : f_X8_image x = some (r, z)) : JC g m_X8_image d 0 0 [.ref 5] (ST x m) (EQ (some (.int r)) (ST z m)) := by
  refine JC.of (by decide +kernel) (Nat.le_of_ble_eq_true rfl) ?_
  change J g m_X8_image d 0 0 0 [(0, .ref 5)] [] (ST x m) 0 0 (EQ (some (.int r)) (ST z m))
  unfold f_X8_image at hF
  refine J_aload_n (j := 0) dX8_image_0 rfl rfl ?_
  refine JX_getR (r := 28) fl_WithOneHand_28_7 dX8_image_1 c_5 rfl rfl ?_
  refine J_aload_n (j := 0) dX8_image_4 rfl rfl ?_
  refine JX_getR (r := 25) fl_WithOneHand_24_7 dX8_image_5 c_5 rfl rfl ?_
  obtain ⟨x1, h2, hF⟩ := ob_some hF
  refine JX_callVv (As := [.ref 25]) (S := []) lkV_WithOneHand_251_X0_becomeLike rfl (by decide) dX8_image_8 c_28 (S_X0_becomeLike_28 (by omega) h2) (by omega) rfl rfl (Nat.le_of_ble_eq_true rfl) rfl ?_
  refine J_aload_n (j := 0) dX8_image_11 rfl rfl ?_
  refine JX_getR (r := 6) fl_WithOneHand_11_7 dX8_image_12 c_5 rfl rfl ?_
  refine J_bipush (v := 8) dX8_image_15 (by decide) ?_
  refine JX_aald (j := 8) (r := 15) (by decide) dX8_image_17 c_6 (by unfold vp_in; decide) (by decide) rfl ?_
  refine J_iconst (v := 0) dX8_image_18 (by decide) ?_
  refine J_aload_n (j := 0) dX8_image_19 rfl rfl ?_
  refine JX_getR (r := 31) fl_WithOneHand_31_7 dX8_image_20 c_5 rfl rfl ?_
  refine J_iconst (v := 0) dX8_image_23 (by decide) ?_
  refine J_iconst (v := 2) dX8_image_24 (by decide) ?_
  obtain ⟨x3, e_x3, hF⟩ := letx_eq hF
  refine JX_copyI (a := 0) (b := 0) (n' := 2) (tb 773 (by decide +kernel)) dX8_image_25 c_15 c_31 (by decide) (by decide) (by decide) (by decide) (by decide) (by decide) (by decide) (by decide) (Nat.le_of_ble_eq_true rfl) ?_
  rw [← e_x3]
  refine J_aload_n (j := 0) dX8_image_28 rfl rfl ?_
  refine J_iconst (v := 1) dX8_image_29 (by decide) ?_
  obtain ⟨x4, e_x4, hF⟩ := letx_eq hF
  refine JX_putI fl_WithOneHand_261_7 dX8_image_30 c_5 rfl rfl rfl ?_
  rw [← e_x4]
  refine J_aload_n (j := 0) dX8_image_33 rfl rfl ?_
  refine JX_getR (r := 25) fl_WithOneHand_24_7 dX8_image_34 c_5 rfl rfl ?_
  refine JX_getR (r := 27) fl_WithOneHand_242_0 dX8_image_37 c_25 rfl rfl ?_
  refine J_iconst (v := 0) dX8_image_40 (by decide) ?_
  refine JX_iald (j := 0) dX8_image_41 c_27 (by unfold vp_in; decide) (by decide) ?_
  obtain ⟨e_r, e_z⟩ := someP hF
  subst e_r
  subst e_z
  exact J_ireturn rfl rfl dX8_image_42 ⟨rfl, rfl⟩
def B_X9_image_10 (K10 : Int32 → MM → Option (Int32 × MM)) (v1 : Int32) (m : MM) : Option (Int32 × MM) :=
  if (mi m 80 1) ≤ v1 then
  letx (ms m 102 6 (mi m 90 0)) (fun m3 =>
  letx (ms m3 102 7 (mi m3 90 1)) (fun m4 =>
  letx (ms m4 102 8 (mi m4 80 37)) (fun m5 =>
  letx (ms m5 102 9 (mi m5 80 38)) (fun m6 =>
  letx (ms m6 102 10 (mi m6 80 39)) (fun m7 =>
  letx (ms m7 102 11 (mi m7 80 40)) (fun m8 =>
  some (mi m8 80 37, m8)))))))
  else
  if inb v1 6 = true then
  if inb v1 12 = true then
  letx (ms m 102 (ix v1) (mi m 87 (ix v1))) (fun m11 =>
  K10 (v1 + 1) m11)
  else none
  else none
theorem SB_X9_image_10 {g : GC} {d : Nat} {K10 : Int32 → MM → Option (Int32 × MM)} {v1 : Int32} {x : MX} {m : MM} {r : Int32} {z : MM} (hd : 1 ≤ d) (hK10 : ∀ (v1 : Int32) (m : MM) (r : Int32) (z : MM), K10 v1 m = some (r, z) → J g m_X9_image d 0 0 10 [(0, .ref 80), (1, .int v1)] [] (ST x m) 0 0 (EQ (some (.int r)) (ST x z)))
  (hF : B_X9_image_10 K10 v1 m = some (r, z)) : J g m_X9_image d 0 0 10 [(0, .ref 80), (1, .int v1)] [] (ST x m) 0 0 (EQ (some (.int r)) (ST x z)) := by
  unfold B_X9_image_10 at hF
  refine J_iload_n (j := 1) dX9_image_10 rfl rfl ?_
  refine J_aload_n (j := 0) dX9_image_11 rfl rfl ?_
  refine JM_getI fl_WithOneHandModel_111_8 dX9_image_12 c_80 rfl ?_
  refine J_icmp_ge (tgt := 36) dX9_image_15 (by decide) (fun q2 => ?_) (fun q2 => ?_)
  · rw [if_pos q2] at hF
    refine J_aload_n (j := 0) dX9_image_36 rfl rfl ?_
    refine JM_getR (r := 102) fl_WithOneHandModel_77_8 dX9_image_37 c_80 rfl rfl ?_
    refine J_bipush (v := 6) dX9_image_40 (by decide) ?_
    refine J_aload_n (j := 0) dX9_image_42 rfl rfl ?_
    refine JM_getR (r := 90) fl_WithOneHandModel_41_8 dX9_image_43 c_80 rfl rfl ?_
    refine J_iconst (v := 0) dX9_image_46 (by decide) ?_
    refine JM_iald (j := 0) dX9_image_47 c_90 (by unfold vp_in; decide) (by decide) ?_
    obtain ⟨m3, e_m3, hF⟩ := letx_eq hF
    refine JM_iast (j := 6) dX9_image_48 c_102 (by unfold vp_in; decide) (by decide) ?_
    rw [← e_m3]
    refine J_aload_n (j := 0) dX9_image_49 rfl rfl ?_
    refine JM_getR (r := 102) fl_WithOneHandModel_77_8 dX9_image_50 c_80 rfl rfl ?_
    refine J_bipush (v := 7) dX9_image_53 (by decide) ?_
    refine J_aload_n (j := 0) dX9_image_55 rfl rfl ?_
    refine JM_getR (r := 90) fl_WithOneHandModel_41_8 dX9_image_56 c_80 rfl rfl ?_
    refine J_iconst (v := 1) dX9_image_59 (by decide) ?_
    refine JM_iald (j := 1) dX9_image_60 c_90 (by unfold vp_in; decide) (by decide) ?_
    obtain ⟨m4, e_m4, hF⟩ := letx_eq hF
    refine JM_iast (j := 7) dX9_image_61 c_102 (by unfold vp_in; decide) (by decide) ?_
    rw [← e_m4]
    refine J_aload_n (j := 0) dX9_image_62 rfl rfl ?_
    refine JM_getR (r := 102) fl_WithOneHandModel_77_8 dX9_image_63 c_80 rfl rfl ?_
    refine J_bipush (v := 8) dX9_image_66 (by decide) ?_
    refine J_aload_n (j := 0) dX9_image_68 rfl rfl ?_
    refine JM_getI fl_WithOneHandModel_331_8 dX9_image_69 c_80 rfl ?_
    obtain ⟨m5, e_m5, hF⟩ := letx_eq hF
    refine JM_iast (j := 8) dX9_image_72 c_102 (by unfold vp_in; decide) (by decide) ?_
    rw [← e_m5]
    refine J_aload_n (j := 0) dX9_image_73 rfl rfl ?_
    refine JM_getR (r := 102) fl_WithOneHandModel_77_8 dX9_image_74 c_80 rfl rfl ?_
    refine J_bipush (v := 9) dX9_image_77 (by decide) ?_
    refine J_aload_n (j := 0) dX9_image_79 rfl rfl ?_
    refine JM_getI fl_WithOneHandModel_334_8 dX9_image_80 c_80 rfl ?_
    obtain ⟨m6, e_m6, hF⟩ := letx_eq hF
    refine JM_iast (j := 9) dX9_image_83 c_102 (by unfold vp_in; decide) (by decide) ?_
    rw [← e_m6]
    refine J_aload_n (j := 0) dX9_image_84 rfl rfl ?_
    refine JM_getR (r := 102) fl_WithOneHandModel_77_8 dX9_image_85 c_80 rfl rfl ?_
    refine J_bipush (v := 10) dX9_image_88 (by decide) ?_
    refine J_aload_n (j := 0) dX9_image_90 rfl rfl ?_
    refine JM_getI fl_WithOneHandModel_337_8 dX9_image_91 c_80 rfl ?_
    obtain ⟨m7, e_m7, hF⟩ := letx_eq hF
    refine JM_iast (j := 10) dX9_image_94 c_102 (by unfold vp_in; decide) (by decide) ?_
    rw [← e_m7]
    refine J_aload_n (j := 0) dX9_image_95 rfl rfl ?_
    refine JM_getR (r := 102) fl_WithOneHandModel_77_8 dX9_image_96 c_80 rfl rfl ?_
    refine J_bipush (v := 11) dX9_image_99 (by decide) ?_
    refine J_aload_n (j := 0) dX9_image_101 rfl rfl ?_
    refine JM_getI fl_WithOneHandModel_340_8 dX9_image_102 c_80 rfl ?_
    obtain ⟨m8, e_m8, hF⟩ := letx_eq hF
    refine JM_iast (j := 11) dX9_image_105 c_102 (by unfold vp_in; decide) (by decide) ?_
    rw [← e_m8]
    refine J_aload_n (j := 0) dX9_image_106 rfl rfl ?_
    refine JM_getI fl_WithOneHandModel_331_8 dX9_image_107 c_80 rfl ?_
    obtain ⟨e_r, e_z⟩ := someP hF
    subst e_r
    subst e_z
    exact J_ireturn rfl rfl dX9_image_110 ⟨rfl, rfl⟩
  · rw [if_neg q2] at hF
    refine J_aload_n (j := 0) dX9_image_18 rfl rfl ?_
    refine JM_getR (r := 102) fl_WithOneHandModel_77_8 dX9_image_19 c_80 rfl rfl ?_
    refine J_iload_n (j := 1) dX9_image_22 rfl rfl ?_
    refine J_aload_n (j := 0) dX9_image_23 rfl rfl ?_
    refine JM_getR (r := 87) fl_WithOneHandModel_32_8 dX9_image_24 c_80 rfl rfl ?_
    refine J_iload_n (j := 1) dX9_image_27 rfl rfl ?_
    obtain ⟨b9, hF⟩ := chk hF
    refine JM_iald (j := ix v1) dX9_image_28 c_87 (inb_vp b9) rfl ?_
    obtain ⟨b10, hF⟩ := chk hF
    obtain ⟨m11, e_m11, hF⟩ := letx_eq hF
    refine JM_iast (j := ix v1) dX9_image_29 c_102 (inb_vp b10) rfl ?_
    rw [← e_m11]
    refine J_iinc (j := 1) (v := v1 + 1) (L' := [(1, .int (v1 + 1)), (0, .ref 80)]) dX9_image_30 rfl rfl (by decide) rfl ?_
    refine J_goto (tgt := 10) dX9_image_33 (by decide) ?_
    refine J_sub [1, 0] rfl ?_
    exact hK10 _ _ _ _  hF
def f_X9_image_10  : Nat → Int32 → MM → Option (Int32 × MM)
  | 0 => fun _ _ => none
  | n + 1 => fun v1 m => B_X9_image_10 (f_X9_image_10  n) v1 m
theorem Sf_X9_image_10 {g : GC} {d : Nat} {x : MX} (hd : 1 ≤ d)  : ∀ (n : Nat) (v1 : Int32) (m : MM) (r : Int32) (z : MM), f_X9_image_10  n v1 m = some (r, z) → J g m_X9_image d 0 0 10 [(0, .ref 80), (1, .int v1)] [] (ST x m) 0 0 (EQ (some (.int r)) (ST x z)) := by
  intro n
  induction n with
  | zero => intro v1 m r z  hF; exact absurd hF (fun q => by cases q)
  | succ n ih =>
    intro v1 m r z  hF
    exact SB_X9_image_10 hd (fun v1 m r z  hF => ih v1 m r z  hF) hF
def f_X9_image (m : MM) : Option (Int32 × MM) :=
  letx (ms m 80 42 (mi m 80 1)) (fun m1 =>
  f_X9_image_10 LF 0 m1)
theorem S_X9_image {g : GC} {d : Nat}  {x : MX} {m : MM} {r : Int32} {z : MM} (hd : 1 ≤ d) 
  (hF : f_X9_image m = some (r, z)) : JC g m_X9_image d 0 0 [.ref 80] (ST x m) (EQ (some (.int r)) (ST x z)) := by
  refine JC.of (by decide +kernel) (Nat.le_of_ble_eq_true rfl) ?_
  change J g m_X9_image d 0 0 0 [(0, .ref 80)] [] (ST x m) 0 0 (EQ (some (.int r)) (ST x z))
  unfold f_X9_image at hF
  refine J_aload_n (j := 0) dX9_image_0 rfl rfl ?_
  refine J_aload_n (j := 0) dX9_image_1 rfl rfl ?_
  refine JM_getI fl_WithOneHandModel_111_8 dX9_image_2 c_80 rfl ?_
  obtain ⟨m1, e_m1, hF⟩ := letx_eq hF
  refine JM_putI fl_WithOneHandModel_80_8 dX9_image_5 c_80 rfl rfl rfl ?_
  rw [← e_m1]
  refine J_iconst (v := 0) dX9_image_8 (by decide) ?_
  refine J_istore_n (L' := [(1, .int 0), (0, .ref 80)]) dX9_image_9 rfl (by decide) rfl ?_
  refine J_sub [1, 0] rfl ?_
  exact Sf_X9_image_10 hd _ _ _ _ _ hF
def f_X0_becomeLike_25 (x : MX) : Option MX :=
  letx (xcp x 29 26 0 0 6) (fun x1 =>
  letx (xcp x1 30 27 0 0 4) (fun x2 =>
  some x2))
theorem S_X0_becomeLike_25 {g : GC} {d : Nat}  {x : MX} {m : MM} {z : MX} (hd : 1 ≤ d) 
  (hF : f_X0_becomeLike_25 x = some z) : JC g m_X0_becomeLike d 0 0 [.ref 25, .ref 28] (ST x m) (EQ (none) (ST z m)) := by
  refine JC.of (by decide +kernel) (Nat.le_of_ble_eq_true rfl) ?_
  change J g m_X0_becomeLike d 0 0 0 [(0, .ref 25), (1, .ref 28)] [] (ST x m) 0 0 (EQ (none) (ST z m))
  unfold f_X0_becomeLike_25 at hF
  refine J_aload_n (j := 1) dX0_becomeLike_0 rfl rfl ?_
  refine JX_getR (r := 29) fl_Deeds_9_0 dX0_becomeLike_1 c_28 rfl rfl ?_
  refine J_iconst (v := 0) dX0_becomeLike_4 (by decide) ?_
  refine J_aload_n (j := 0) dX0_becomeLike_5 rfl rfl ?_
  refine JX_getR (r := 26) fl_Deeds_9_0 dX0_becomeLike_6 c_25 rfl rfl ?_
  refine J_iconst (v := 0) dX0_becomeLike_9 (by decide) ?_
  refine J_bipush (v := 6) dX0_becomeLike_10 (by decide) ?_
  obtain ⟨x1, e_x1, hF⟩ := letx_eq hF
  refine JX_copyI (a := 0) (b := 0) (n' := 6) (tb 772 (by decide +kernel)) dX0_becomeLike_12 c_29 c_26 (by decide) (by decide) (by decide) (by decide) (by decide) (by decide) (by decide) (by decide) (Nat.le_of_ble_eq_true rfl) ?_
  rw [← e_x1]
  refine J_aload_n (j := 1) dX0_becomeLike_15 rfl rfl ?_
  refine JX_getR (r := 30) fl_Deeds_15_0 dX0_becomeLike_16 c_28 rfl rfl ?_
  refine J_iconst (v := 0) dX0_becomeLike_19 (by decide) ?_
  refine J_aload_n (j := 0) dX0_becomeLike_20 rfl rfl ?_
  refine JX_getR (r := 27) fl_Deeds_15_0 dX0_becomeLike_21 c_25 rfl rfl ?_
  refine J_iconst (v := 0) dX0_becomeLike_24 (by decide) ?_
  refine J_aload_n (j := 0) dX0_becomeLike_25 rfl rfl ?_
  refine JX_getR (r := 27) fl_Deeds_15_0 dX0_becomeLike_26 c_25 rfl rfl ?_
  refine JX_alenI (v := 4) dX0_becomeLike_29 c_27 (by decide) ?_
  obtain ⟨x2, e_x2, hF⟩ := letx_eq hF
  refine JX_copyI (a := 0) (b := 0) (n' := 4) (tb 772 (by decide +kernel)) dX0_becomeLike_30 c_30 c_27 (by decide) (by decide) (by decide) (by decide) (by decide) (by decide) (by decide) (by decide) (Nat.le_of_ble_eq_true rfl) ?_
  rw [← e_x2]
  have e_r := Option.some.inj hF
  subst e_r
  exact J_return rfl dX0_becomeLike_33 ⟨rfl, rfl⟩
def f_X8_back (x : MX) : Option (Int32 × MX) :=
  if (xi x 5 15) = 0 then
  some ((-5), x)
  else
  ob (f_X0_becomeLike_25 x) (fun x2 =>
  letx (xcp x2 31 15 0 0 2) (fun x4 =>
  some (xi x4 27 0, x4)))
theorem S_X8_back {g : GC} {d : Nat}  {x : MX} {m : MM} {r : Int32} {z : MX} (hd : 2 ≤ d) 
  (hF : f_X8_back x = some (r, z)) : JC g m_X8_back d 0 0 [.ref 5] (ST x m) (EQ (some (.int r)) (ST z m)) := by
  refine JC.of (by decide +kernel) (Nat.le_of_ble_eq_true rfl) ?_
  change J g m_X8_back d 0 0 0 [(0, .ref 5)] [] (ST x m) 0 0 (EQ (some (.int r)) (ST z m))
  unfold f_X8_back at hF
  refine J_aload_n (j := 0) dX8_back_0 rfl rfl ?_
  refine JX_getI fl_WithOneHand_261_7 dX8_back_1 c_5 rfl ?_
  refine J_if_ne (tgt := 10) dX8_back_4 (by decide) (fun q1 => ?_) (fun q1 => ?_)
  · rw [if_neg q1] at hF
    refine J_aload_n (j := 0) dX8_back_10 rfl rfl ?_
    refine JX_getR (r := 25) fl_WithOneHand_24_7 dX8_back_11 c_5 rfl rfl ?_
    refine J_aload_n (j := 0) dX8_back_14 rfl rfl ?_
    refine JX_getR (r := 28) fl_WithOneHand_28_7 dX8_back_15 c_5 rfl rfl ?_
    obtain ⟨x2, h3, hF⟩ := ob_some hF
    refine JX_callVv (As := [.ref 28]) (S := []) lkV_WithOneHand_251_X0_becomeLike rfl (by decide) dX8_back_18 c_25 (S_X0_becomeLike_25 (by omega) h3) (by omega) rfl rfl (Nat.le_of_ble_eq_true rfl) rfl ?_
    refine J_aload_n (j := 0) dX8_back_21 rfl rfl ?_
    refine JX_getR (r := 31) fl_WithOneHand_31_7 dX8_back_22 c_5 rfl rfl ?_
    refine J_iconst (v := 0) dX8_back_25 (by decide) ?_
    refine J_aload_n (j := 0) dX8_back_26 rfl rfl ?_
    refine JX_getR (r := 6) fl_WithOneHand_11_7 dX8_back_27 c_5 rfl rfl ?_
    refine J_bipush (v := 8) dX8_back_30 (by decide) ?_
    refine JX_aald (j := 8) (r := 15) (by decide) dX8_back_32 c_6 (by unfold vp_in; decide) (by decide) rfl ?_
    refine J_iconst (v := 0) dX8_back_33 (by decide) ?_
    refine J_iconst (v := 2) dX8_back_34 (by decide) ?_
    obtain ⟨x4, e_x4, hF⟩ := letx_eq hF
    refine JX_copyI (a := 0) (b := 0) (n' := 2) (tb 773 (by decide +kernel)) dX8_back_35 c_31 c_15 (by decide) (by decide) (by decide) (by decide) (by decide) (by decide) (by decide) (by decide) (Nat.le_of_ble_eq_true rfl) ?_
    rw [← e_x4]
    refine J_aload_n (j := 0) dX8_back_38 rfl rfl ?_
    refine JX_getR (r := 25) fl_WithOneHand_24_7 dX8_back_39 c_5 rfl rfl ?_
    refine JX_getR (r := 27) fl_WithOneHand_242_0 dX8_back_42 c_25 rfl rfl ?_
    refine J_iconst (v := 0) dX8_back_45 (by decide) ?_
    refine JX_iald (j := 0) dX8_back_46 c_27 (by unfold vp_in; decide) (by decide) ?_
    obtain ⟨e_r, e_z⟩ := someP hF
    subst e_r
    subst e_z
    exact J_ireturn rfl rfl dX8_back_47 ⟨rfl, rfl⟩
  · rw [if_pos q1] at hF
    refine J_bipush (v := (-5)) dX8_back_7 (by decide) ?_
    obtain ⟨e_r, e_z⟩ := someP hF
    subst e_r
    subst e_z
    exact J_ireturn rfl rfl dX8_back_9 ⟨rfl, rfl⟩
def B_X9_back_44 (K12 : Int32 → MM → Option (Int32 × MM)) (v1 : Int32) (t0 : Int32) (t1 : Int32) (m : MM) : Option (Int32 × MM) :=
  if inb t1 6 = true then
  letx (ms m 87 (ix t1) t0) (fun m11 =>
  K12 (v1 + 1) m11)
  else none
theorem SB_X9_back_44 {g : GC} {d : Nat} {K12 : Int32 → MM → Option (Int32 × MM)} {v1 : Int32} {t0 : Int32} {t1 : Int32} {x : MX} {m : MM} {r : Int32} {z : MM} (hd : 1 ≤ d) (hK12 : ∀ (v1 : Int32) (m : MM) (r : Int32) (z : MM), K12 v1 m = some (r, z) → J g m_X9_back d 0 0 12 [(0, .ref 80), (1, .int v1)] [] (ST x m) 0 0 (EQ (some (.int r)) (ST x z)))
  (hF : B_X9_back_44 K12 v1 t0 t1 m = some (r, z)) : J g m_X9_back d 0 0 44 [(0, .ref 80), (1, .int v1)] [.int t0, .int t1, .ref 87] (ST x m) 0 0 (EQ (some (.int r)) (ST x z)) := by
  unfold B_X9_back_44 at hF
  obtain ⟨b10, hF⟩ := chk hF
  obtain ⟨m11, e_m11, hF⟩ := letx_eq hF
  refine JM_iast (j := ix t1) dX9_back_44 c_87 (inb_vp b10) rfl ?_
  rw [← e_m11]
  refine J_iinc (j := 1) (v := v1 + 1) (L' := [(1, .int (v1 + 1)), (0, .ref 80)]) dX9_back_45 rfl rfl (by decide) rfl ?_
  refine J_goto (tgt := 12) dX9_back_48 (by decide) ?_
  refine J_sub [1, 0] rfl ?_
  exact hK12 _ _ _ _  hF
def B_X9_back_12 (K12 : Int32 → MM → Option (Int32 × MM)) (v1 : Int32) (m : MM) : Option (Int32 × MM) :=
  if (mi m 80 1) ≤ v1 then
  letx (ms m 90 0 (mi m 102 6)) (fun m3 =>
  letx (ms m3 90 1 (mi m3 102 7)) (fun m4 =>
  letx (ms m4 80 37 (mi m4 102 8)) (fun m5 =>
  letx (ms m5 80 38 (mi m5 102 9)) (fun m6 =>
  letx (ms m6 80 39 (mi m6 102 10)) (fun m7 =>
  letx (ms m7 80 40 (mi m7 102 11)) (fun m8 =>
  some (mi m8 80 37, m8)))))))
  else
  if (mi m 80 42) ≤ v1 then
  B_X9_back_44 K12 v1 (-2) v1 m
  else
  if inb v1 12 = true then
  B_X9_back_44 K12 v1 (mi m 102 (ix v1)) v1 m
  else none
theorem SB_X9_back_12 {g : GC} {d : Nat} {K12 : Int32 → MM → Option (Int32 × MM)} {v1 : Int32} {x : MX} {m : MM} {r : Int32} {z : MM} (hd : 1 ≤ d) (hK12 : ∀ (v1 : Int32) (m : MM) (r : Int32) (z : MM), K12 v1 m = some (r, z) → J g m_X9_back d 0 0 12 [(0, .ref 80), (1, .int v1)] [] (ST x m) 0 0 (EQ (some (.int r)) (ST x z)))
  (hF : B_X9_back_12 K12 v1 m = some (r, z)) : J g m_X9_back d 0 0 12 [(0, .ref 80), (1, .int v1)] [] (ST x m) 0 0 (EQ (some (.int r)) (ST x z)) := by
  unfold B_X9_back_12 at hF
  refine J_iload_n (j := 1) dX9_back_12 rfl rfl ?_
  refine J_aload_n (j := 0) dX9_back_13 rfl rfl ?_
  refine JM_getI fl_WithOneHandModel_111_8 dX9_back_14 c_80 rfl ?_
  refine J_icmp_ge (tgt := 51) dX9_back_17 (by decide) (fun q2 => ?_) (fun q2 => ?_)
  · rw [if_pos q2] at hF
    refine J_aload_n (j := 0) dX9_back_51 rfl rfl ?_
    refine JM_getR (r := 90) fl_WithOneHandModel_41_8 dX9_back_52 c_80 rfl rfl ?_
    refine J_iconst (v := 0) dX9_back_55 (by decide) ?_
    refine J_aload_n (j := 0) dX9_back_56 rfl rfl ?_
    refine JM_getR (r := 102) fl_WithOneHandModel_77_8 dX9_back_57 c_80 rfl rfl ?_
    refine J_bipush (v := 6) dX9_back_60 (by decide) ?_
    refine JM_iald (j := 6) dX9_back_62 c_102 (by unfold vp_in; decide) (by decide) ?_
    obtain ⟨m3, e_m3, hF⟩ := letx_eq hF
    refine JM_iast (j := 0) dX9_back_63 c_90 (by unfold vp_in; decide) (by decide) ?_
    rw [← e_m3]
    refine J_aload_n (j := 0) dX9_back_64 rfl rfl ?_
    refine JM_getR (r := 90) fl_WithOneHandModel_41_8 dX9_back_65 c_80 rfl rfl ?_
    refine J_iconst (v := 1) dX9_back_68 (by decide) ?_
    refine J_aload_n (j := 0) dX9_back_69 rfl rfl ?_
    refine JM_getR (r := 102) fl_WithOneHandModel_77_8 dX9_back_70 c_80 rfl rfl ?_
    refine J_bipush (v := 7) dX9_back_73 (by decide) ?_
    refine JM_iald (j := 7) dX9_back_75 c_102 (by unfold vp_in; decide) (by decide) ?_
    obtain ⟨m4, e_m4, hF⟩ := letx_eq hF
    refine JM_iast (j := 1) dX9_back_76 c_90 (by unfold vp_in; decide) (by decide) ?_
    rw [← e_m4]
    refine J_aload_n (j := 0) dX9_back_77 rfl rfl ?_
    refine J_aload_n (j := 0) dX9_back_78 rfl rfl ?_
    refine JM_getR (r := 102) fl_WithOneHandModel_77_8 dX9_back_79 c_80 rfl rfl ?_
    refine J_bipush (v := 8) dX9_back_82 (by decide) ?_
    refine JM_iald (j := 8) dX9_back_84 c_102 (by unfold vp_in; decide) (by decide) ?_
    obtain ⟨m5, e_m5, hF⟩ := letx_eq hF
    refine JM_putI fl_WithOneHandModel_331_8 dX9_back_85 c_80 rfl rfl rfl ?_
    rw [← e_m5]
    refine J_aload_n (j := 0) dX9_back_88 rfl rfl ?_
    refine J_aload_n (j := 0) dX9_back_89 rfl rfl ?_
    refine JM_getR (r := 102) fl_WithOneHandModel_77_8 dX9_back_90 c_80 rfl rfl ?_
    refine J_bipush (v := 9) dX9_back_93 (by decide) ?_
    refine JM_iald (j := 9) dX9_back_95 c_102 (by unfold vp_in; decide) (by decide) ?_
    obtain ⟨m6, e_m6, hF⟩ := letx_eq hF
    refine JM_putI fl_WithOneHandModel_334_8 dX9_back_96 c_80 rfl rfl rfl ?_
    rw [← e_m6]
    refine J_aload_n (j := 0) dX9_back_99 rfl rfl ?_
    refine J_aload_n (j := 0) dX9_back_100 rfl rfl ?_
    refine JM_getR (r := 102) fl_WithOneHandModel_77_8 dX9_back_101 c_80 rfl rfl ?_
    refine J_bipush (v := 10) dX9_back_104 (by decide) ?_
    refine JM_iald (j := 10) dX9_back_106 c_102 (by unfold vp_in; decide) (by decide) ?_
    obtain ⟨m7, e_m7, hF⟩ := letx_eq hF
    refine JM_putI fl_WithOneHandModel_337_8 dX9_back_107 c_80 rfl rfl rfl ?_
    rw [← e_m7]
    refine J_aload_n (j := 0) dX9_back_110 rfl rfl ?_
    refine J_aload_n (j := 0) dX9_back_111 rfl rfl ?_
    refine JM_getR (r := 102) fl_WithOneHandModel_77_8 dX9_back_112 c_80 rfl rfl ?_
    refine J_bipush (v := 11) dX9_back_115 (by decide) ?_
    refine JM_iald (j := 11) dX9_back_117 c_102 (by unfold vp_in; decide) (by decide) ?_
    obtain ⟨m8, e_m8, hF⟩ := letx_eq hF
    refine JM_putI fl_WithOneHandModel_340_8 dX9_back_118 c_80 rfl rfl rfl ?_
    rw [← e_m8]
    refine J_aload_n (j := 0) dX9_back_121 rfl rfl ?_
    refine JM_getI fl_WithOneHandModel_331_8 dX9_back_122 c_80 rfl ?_
    obtain ⟨e_r, e_z⟩ := someP hF
    subst e_r
    subst e_z
    exact J_ireturn rfl rfl dX9_back_125 ⟨rfl, rfl⟩
  · rw [if_neg q2] at hF
    refine J_aload_n (j := 0) dX9_back_20 rfl rfl ?_
    refine JM_getR (r := 87) fl_WithOneHandModel_32_8 dX9_back_21 c_80 rfl rfl ?_
    refine J_iload_n (j := 1) dX9_back_24 rfl rfl ?_
    refine J_iload_n (j := 1) dX9_back_25 rfl rfl ?_
    refine J_aload_n (j := 0) dX9_back_26 rfl rfl ?_
    refine JM_getI fl_WithOneHandModel_80_8 dX9_back_27 c_80 rfl ?_
    refine J_icmp_ge (tgt := 42) dX9_back_30 (by decide) (fun q9 => ?_) (fun q9 => ?_)
    · rw [if_pos q9] at hF
      refine J_bipush (v := (-2)) dX9_back_42 (by decide) ?_
      exact SB_X9_back_44 hd hK12 hF
    · rw [if_neg q9] at hF
      refine J_aload_n (j := 0) dX9_back_33 rfl rfl ?_
      refine JM_getR (r := 102) fl_WithOneHandModel_77_8 dX9_back_34 c_80 rfl rfl ?_
      refine J_iload_n (j := 1) dX9_back_37 rfl rfl ?_
      obtain ⟨b12, hF⟩ := chk hF
      refine JM_iald (j := ix v1) dX9_back_38 c_102 (inb_vp b12) rfl ?_
      refine J_goto (tgt := 44) dX9_back_39 (by decide) ?_
      exact SB_X9_back_44 hd hK12 hF
def f_X9_back_12  : Nat → Int32 → MM → Option (Int32 × MM)
  | 0 => fun _ _ => none
  | n + 1 => fun v1 m => B_X9_back_12 (f_X9_back_12  n) v1 m
theorem Sf_X9_back_12 {g : GC} {d : Nat} {x : MX} (hd : 1 ≤ d)  : ∀ (n : Nat) (v1 : Int32) (m : MM) (r : Int32) (z : MM), f_X9_back_12  n v1 m = some (r, z) → J g m_X9_back d 0 0 12 [(0, .ref 80), (1, .int v1)] [] (ST x m) 0 0 (EQ (some (.int r)) (ST x z)) := by
  intro n
  induction n with
  | zero => intro v1 m r z  hF; exact absurd hF (fun q => by cases q)
  | succ n ih =>
    intro v1 m r z  hF
    exact SB_X9_back_12 hd (fun v1 m r z  hF => ih v1 m r z  hF) hF
def f_X9_back (m : MM) : Option (Int32 × MM) :=
  if 0 ≤ (mi m 80 42) then
  f_X9_back_12 LF 0 m
  else
  some ((-5), m)
theorem S_X9_back {g : GC} {d : Nat}  {x : MX} {m : MM} {r : Int32} {z : MM} (hd : 1 ≤ d) 
  (hF : f_X9_back m = some (r, z)) : JC g m_X9_back d 0 0 [.ref 80] (ST x m) (EQ (some (.int r)) (ST x z)) := by
  refine JC.of (by decide +kernel) (Nat.le_of_ble_eq_true rfl) ?_
  change J g m_X9_back d 0 0 0 [(0, .ref 80)] [] (ST x m) 0 0 (EQ (some (.int r)) (ST x z))
  unfold f_X9_back at hF
  refine J_aload_n (j := 0) dX9_back_0 rfl rfl ?_
  refine JM_getI fl_WithOneHandModel_80_8 dX9_back_1 c_80 rfl ?_
  refine J_if_ge (tgt := 10) dX9_back_4 (by decide) (fun q1 => ?_) (fun q1 => ?_)
  · rw [if_pos q1] at hF
    refine J_iconst (v := 0) dX9_back_10 (by decide) ?_
    refine J_istore_n (L' := [(1, .int 0), (0, .ref 80)]) dX9_back_11 rfl (by decide) rfl ?_
    refine J_sub [1, 0] rfl ?_
    exact Sf_X9_back_12 hd _ _ _ _ _ hF
  · rw [if_neg q1] at hF
    refine J_bipush (v := (-5)) dX9_back_7 (by decide) ?_
    obtain ⟨e_r, e_z⟩ := someP hF
    subst e_r
    subst e_z
    exact J_ireturn rfl rfl dX9_back_9 ⟨rfl, rfl⟩
def f_X8_undo (x : MX) : Option (Int32 × MX) :=
  if (xi x 20 4) = 0 then
  some ((-5), x)
  else
  letx (xs x 20 4 ((xi x 20 4) - 1)) (fun x2 =>
  letx (xs x2 20 5 ((xi x2 20 5) + 1)) (fun x3 =>
  if inb (xi x3 20 4) 40 = true then
  if inb (xi x3 22 (ix (xi x3 20 4))) 13 = true then
  if inb (xi x3 21 (ix (xi x3 20 4))) 8 = true then
  letx (xs x3 (7 + ix (xi x3 22 (ix (xi x3 20 4)))) (ix (xi x3 21 (ix (xi x3 20 4)))) (xi x3 23 (ix (xi x3 20 4)))) (fun x7 =>
  some (xi x7 20 4, x7))
  else none
  else none
  else none))
theorem S_X8_undo {g : GC} {d : Nat}  {x : MX} {m : MM} {r : Int32} {z : MX} (hd : 1 ≤ d) 
  (hF : f_X8_undo x = some (r, z)) : JC g m_X8_undo d 0 0 [.ref 5] (ST x m) (EQ (some (.int r)) (ST z m)) := by
  refine JC.of (by decide +kernel) (Nat.le_of_ble_eq_true rfl) ?_
  change J g m_X8_undo d 0 0 0 [(0, .ref 5)] [] (ST x m) 0 0 (EQ (some (.int r)) (ST z m))
  unfold f_X8_undo at hF
  refine J_aload_n (j := 0) dX8_undo_0 rfl rfl ?_
  refine JX_getR (r := 20) fl_WithOneHand_17_7 dX8_undo_1 c_5 rfl rfl ?_
  refine JX_getI fl_WithOneHand_265_1 dX8_undo_4 c_20 rfl ?_
  refine J_if_ne (tgt := 13) dX8_undo_7 (by decide) (fun q1 => ?_) (fun q1 => ?_)
  · rw [if_neg q1] at hF
    refine J_aload_n (j := 0) dX8_undo_13 rfl rfl ?_
    refine JX_getR (r := 20) fl_WithOneHand_17_7 dX8_undo_14 c_5 rfl rfl ?_
    refine J_dup dX8_undo_17 rfl ?_
    refine JX_getI fl_WithOneHand_265_1 dX8_undo_18 c_20 rfl ?_
    refine J_iconst (v := 1) dX8_undo_21 (by decide) ?_
    refine J_isub dX8_undo_22 ?_
    obtain ⟨x2, e_x2, hF⟩ := letx_eq hF
    refine JX_putI fl_WithOneHand_265_1 dX8_undo_23 c_20 rfl rfl rfl ?_
    rw [← e_x2]
    refine J_aload_n (j := 0) dX8_undo_26 rfl rfl ?_
    refine JX_getR (r := 20) fl_WithOneHand_17_7 dX8_undo_27 c_5 rfl rfl ?_
    refine J_dup dX8_undo_30 rfl ?_
    refine JX_getI fl_WithOneHand_268_1 dX8_undo_31 c_20 rfl ?_
    refine J_iconst (v := 1) dX8_undo_34 (by decide) ?_
    refine J_iadd dX8_undo_35 ?_
    obtain ⟨x3, e_x3, hF⟩ := letx_eq hF
    refine JX_putI fl_WithOneHand_268_1 dX8_undo_36 c_20 rfl rfl rfl ?_
    rw [← e_x3]
    refine J_aload_n (j := 0) dX8_undo_39 rfl rfl ?_
    refine JX_getR (r := 20) fl_WithOneHand_17_7 dX8_undo_40 c_5 rfl rfl ?_
    refine JX_getI fl_WithOneHand_265_1 dX8_undo_43 c_20 rfl ?_
    refine J_istore_n (L' := [(1, .int (xi x3 20 4)), (0, .ref 5)]) dX8_undo_46 rfl (by decide) rfl ?_
    refine J_aload_n (j := 1) dX8_undo_47 rfl rfl ?_
    refine JX_getR (r := 6) fl_WithOneHand_11_7 dX8_undo_48 c_5 rfl rfl ?_
    refine J_aload_n (j := 1) dX8_undo_51 rfl rfl ?_
    refine JX_getR (r := 20) fl_WithOneHand_17_7 dX8_undo_52 c_5 rfl rfl ?_
    refine JX_getR (r := 22) fl_WithOneHand_271_1 dX8_undo_55 c_20 rfl rfl ?_
    refine J_iload_n (j := 0) dX8_undo_58 rfl rfl ?_
    obtain ⟨b4, hF⟩ := chk hF
    refine JX_iald (j := ix (xi x3 20 4)) dX8_undo_59 c_22 (inb_vp b4) rfl ?_
    obtain ⟨b5, hF⟩ := chk hF
    refine JX_aald (j := ix (xi x3 22 (ix (xi x3 20 4)))) (r := 7 + ix (xi x3 22 (ix (xi x3 20 4)))) (by decide) dX8_undo_60 c_6 (inb_vp b5) rfl (rw_6 _ (inb_lt b5)) ?_
    refine J_aload_n (j := 1) dX8_undo_61 rfl rfl ?_
    refine JX_getR (r := 20) fl_WithOneHand_17_7 dX8_undo_62 c_5 rfl rfl ?_
    refine JX_getR (r := 21) fl_WithOneHand_274_1 dX8_undo_65 c_20 rfl rfl ?_
    refine J_iload_n (j := 0) dX8_undo_68 rfl rfl ?_
    refine JX_iald (j := ix (xi x3 20 4)) dX8_undo_69 c_21 (inb_vp b4) rfl ?_
    refine J_aload_n (j := 1) dX8_undo_70 rfl rfl ?_
    refine JX_getR (r := 20) fl_WithOneHand_17_7 dX8_undo_71 c_5 rfl rfl ?_
    refine JX_getR (r := 23) fl_WithOneHand_277_1 dX8_undo_74 c_20 rfl rfl ?_
    refine J_iload_n (j := 0) dX8_undo_77 rfl rfl ?_
    refine JX_iald (j := ix (xi x3 20 4)) dX8_undo_78 c_23 (inb_vp b4) rfl ?_
    obtain ⟨b6, hF⟩ := chk hF
    obtain ⟨x7, e_x7, hF⟩ := letx_eq hF
    refine JX_iast (j := ix (xi x3 21 (ix (xi x3 20 4)))) dX8_undo_79 (cr_6 (inb_lt b5)) (inb_vp b6) rfl ?_
    rw [← e_x7]
    refine J_aload_n (j := 1) dX8_undo_80 rfl rfl ?_
    refine JX_getR (r := 20) fl_WithOneHand_17_7 dX8_undo_81 c_5 rfl rfl ?_
    refine JX_getI fl_WithOneHand_265_1 dX8_undo_84 c_20 rfl ?_
    obtain ⟨e_r, e_z⟩ := someP hF
    subst e_r
    subst e_z
    exact J_ireturn rfl rfl dX8_undo_87 ⟨rfl, rfl⟩
  · rw [if_pos q1] at hF
    refine J_bipush (v := (-5)) dX8_undo_10 (by decide) ?_
    obtain ⟨e_r, e_z⟩ := someP hF
    subst e_r
    subst e_z
    exact J_ireturn rfl rfl dX8_undo_12 ⟨rfl, rfl⟩
