def f_X9_undo (m : MM) : Option (Int32 × MM) :=
  if (mi m 80 28) = 0 then
  some ((-5), m)
  else
  letx (ms m 80 28 ((mi m 80 28) - 1)) (fun m2 =>
  if inb (mi m2 80 28) 40 = true then
  ob (f_X9_write (mi m2 95 (ix (mi m2 80 28))) (mi m2 96 (ix (mi m2 80 28))) (mi m2 97 (ix (mi m2 80 28))) m2) (fun m4 =>
  some (mi m4 80 28, m4))
  else none)
theorem S_X9_undo {g : GC} {d : Nat}  {x : MX} {m : MM} {r : Int32} {z : MM} (hd : 2 ≤ d) 
  (hF : f_X9_undo m = some (r, z)) : JC g m_X9_undo d 0 0 [.ref 80] (ST x m) (EQ (some (.int r)) (ST x z)) := by
  refine JC.of (by decide +kernel) (Nat.le_of_ble_eq_true rfl) ?_
  change J g m_X9_undo d 0 0 0 [(0, .ref 80)] [] (ST x m) 0 0 (EQ (some (.int r)) (ST x z))
  unfold f_X9_undo at hF
  refine J_aload_n (j := 0) dX9_undo_0 rfl rfl ?_
  refine JM_getI fl_WithOneHandModel_142_8 dX9_undo_1 c_80 rfl ?_
  refine J_if_ne (tgt := 10) dX9_undo_4 (by decide) (fun q1 => ?_) (fun q1 => ?_)
  · rw [if_neg q1] at hF
    refine J_aload_n (j := 0) dX9_undo_10 rfl rfl ?_
    refine J_dup dX9_undo_11 rfl ?_
    refine JM_getI fl_WithOneHandModel_142_8 dX9_undo_12 c_80 rfl ?_
    refine J_iconst (v := 1) dX9_undo_15 (by decide) ?_
    refine J_isub dX9_undo_16 ?_
    obtain ⟨m2, e_m2, hF⟩ := letx_eq hF
    refine JM_putI fl_WithOneHandModel_142_8 dX9_undo_17 c_80 rfl rfl rfl ?_
    rw [← e_m2]
    refine J_aload_n (j := 0) dX9_undo_20 rfl rfl ?_
    refine J_aload_n (j := 0) dX9_undo_21 rfl rfl ?_
    refine JM_getR (r := 95) fl_WithOneHandModel_56_8 dX9_undo_22 c_80 rfl rfl ?_
    refine J_aload_n (j := 0) dX9_undo_25 rfl rfl ?_
    refine JM_getI fl_WithOneHandModel_142_8 dX9_undo_26 c_80 rfl ?_
    obtain ⟨b3, hF⟩ := chk hF
    refine JM_iald (j := ix (mi m2 80 28)) dX9_undo_29 c_95 (inb_vp b3) rfl ?_
    refine J_aload_n (j := 0) dX9_undo_30 rfl rfl ?_
    refine JM_getR (r := 96) fl_WithOneHandModel_59_8 dX9_undo_31 c_80 rfl rfl ?_
    refine J_aload_n (j := 0) dX9_undo_34 rfl rfl ?_
    refine JM_getI fl_WithOneHandModel_142_8 dX9_undo_35 c_80 rfl ?_
    refine JM_iald (j := ix (mi m2 80 28)) dX9_undo_38 c_96 (inb_vp b3) rfl ?_
    refine J_aload_n (j := 0) dX9_undo_39 rfl rfl ?_
    refine JM_getR (r := 97) fl_WithOneHandModel_62_8 dX9_undo_40 c_80 rfl rfl ?_
    refine J_aload_n (j := 0) dX9_undo_43 rfl rfl ?_
    refine JM_getI fl_WithOneHandModel_142_8 dX9_undo_44 c_80 rfl ?_
    refine JM_iald (j := ix (mi m2 80 28)) dX9_undo_47 c_97 (inb_vp b3) rfl ?_
    obtain ⟨m4, h5, hF⟩ := ob_some hF
    refine JM_callVv (As := [.int (mi m2 95 (ix (mi m2 80 28))), .int (mi m2 96 (ix (mi m2 80 28))), .int (mi m2 97 (ix (mi m2 80 28)))]) (S := []) lkV_WithOneHandModel_164_X9_write rfl (by decide) dX9_undo_48 c_80 (S_X9_write (by omega) h5) (by omega) rfl rfl (Nat.le_of_ble_eq_true rfl) rfl ?_
    refine J_aload_n (j := 0) dX9_undo_51 rfl rfl ?_
    refine JM_getI fl_WithOneHandModel_142_8 dX9_undo_52 c_80 rfl ?_
    obtain ⟨e_r, e_z⟩ := someP hF
    subst e_r
    subst e_z
    exact J_ireturn rfl rfl dX9_undo_55 ⟨rfl, rfl⟩
  · rw [if_pos q1] at hF
    refine J_bipush (v := (-5)) dX9_undo_7 (by decide) ?_
    obtain ⟨e_r, e_z⟩ := someP hF
    subst e_r
    subst e_z
    exact J_ireturn rfl rfl dX9_undo_9 ⟨rfl, rfl⟩
def f_X8_redo (x : MX) : Option (Int32 × MX) :=
  if (xi x 20 5) = 0 then
  some ((-5), x)
  else
  if inb (xi x 20 4) 40 = true then
  if inb (xi x 22 (ix (xi x 20 4))) 13 = true then
  if inb (xi x 21 (ix (xi x 20 4))) 8 = true then
  letx (xs x (7 + ix (xi x 22 (ix (xi x 20 4)))) (ix (xi x 21 (ix (xi x 20 4)))) (xi x 24 (ix (xi x 20 4)))) (fun x5 =>
  letx (xs x5 20 4 ((xi x5 20 4) + 1)) (fun x6 =>
  letx (xs x6 20 5 ((xi x6 20 5) - 1)) (fun x7 =>
  some (xi x7 20 5, x7))))
  else none
  else none
  else none
theorem S_X8_redo {g : GC} {d : Nat}  {x : MX} {m : MM} {r : Int32} {z : MX} (hd : 1 ≤ d) 
  (hF : f_X8_redo x = some (r, z)) : JC g m_X8_redo d 0 0 [.ref 5] (ST x m) (EQ (some (.int r)) (ST z m)) := by
  refine JC.of (by decide +kernel) (Nat.le_of_ble_eq_true rfl) ?_
  change J g m_X8_redo d 0 0 0 [(0, .ref 5)] [] (ST x m) 0 0 (EQ (some (.int r)) (ST z m))
  unfold f_X8_redo at hF
  refine J_aload_n (j := 0) dX8_redo_0 rfl rfl ?_
  refine JX_getR (r := 20) fl_WithOneHand_17_7 dX8_redo_1 c_5 rfl rfl ?_
  refine JX_getI fl_WithOneHand_268_1 dX8_redo_4 c_20 rfl ?_
  refine J_if_ne (tgt := 13) dX8_redo_7 (by decide) (fun q1 => ?_) (fun q1 => ?_)
  · rw [if_neg q1] at hF
    refine J_aload_n (j := 0) dX8_redo_13 rfl rfl ?_
    refine JX_getR (r := 20) fl_WithOneHand_17_7 dX8_redo_14 c_5 rfl rfl ?_
    refine JX_getI fl_WithOneHand_265_1 dX8_redo_17 c_20 rfl ?_
    refine J_istore_n (L' := [(1, .int (xi x 20 4)), (0, .ref 5)]) dX8_redo_20 rfl (by decide) rfl ?_
    refine J_aload_n (j := 1) dX8_redo_21 rfl rfl ?_
    refine JX_getR (r := 6) fl_WithOneHand_11_7 dX8_redo_22 c_5 rfl rfl ?_
    refine J_aload_n (j := 1) dX8_redo_25 rfl rfl ?_
    refine JX_getR (r := 20) fl_WithOneHand_17_7 dX8_redo_26 c_5 rfl rfl ?_
    refine JX_getR (r := 22) fl_WithOneHand_271_1 dX8_redo_29 c_20 rfl rfl ?_
    refine J_iload_n (j := 0) dX8_redo_32 rfl rfl ?_
    obtain ⟨b2, hF⟩ := chk hF
    refine JX_iald (j := ix (xi x 20 4)) dX8_redo_33 c_22 (inb_vp b2) rfl ?_
    obtain ⟨b3, hF⟩ := chk hF
    refine JX_aald (j := ix (xi x 22 (ix (xi x 20 4)))) (r := 7 + ix (xi x 22 (ix (xi x 20 4)))) (by decide) dX8_redo_34 c_6 (inb_vp b3) rfl (rw_6 _ (inb_lt b3)) ?_
    refine J_aload_n (j := 1) dX8_redo_35 rfl rfl ?_
    refine JX_getR (r := 20) fl_WithOneHand_17_7 dX8_redo_36 c_5 rfl rfl ?_
    refine JX_getR (r := 21) fl_WithOneHand_274_1 dX8_redo_39 c_20 rfl rfl ?_
    refine J_iload_n (j := 0) dX8_redo_42 rfl rfl ?_
    refine JX_iald (j := ix (xi x 20 4)) dX8_redo_43 c_21 (inb_vp b2) rfl ?_
    refine J_aload_n (j := 1) dX8_redo_44 rfl rfl ?_
    refine JX_getR (r := 20) fl_WithOneHand_17_7 dX8_redo_45 c_5 rfl rfl ?_
    refine JX_getR (r := 24) fl_WithOneHand_280_1 dX8_redo_48 c_20 rfl rfl ?_
    refine J_iload_n (j := 0) dX8_redo_51 rfl rfl ?_
    refine JX_iald (j := ix (xi x 20 4)) dX8_redo_52 c_24 (inb_vp b2) rfl ?_
    obtain ⟨b4, hF⟩ := chk hF
    obtain ⟨x5, e_x5, hF⟩ := letx_eq hF
    refine JX_iast (j := ix (xi x 21 (ix (xi x 20 4)))) dX8_redo_53 (cr_6 (inb_lt b3)) (inb_vp b4) rfl ?_
    rw [← e_x5]
    refine J_aload_n (j := 1) dX8_redo_54 rfl rfl ?_
    refine JX_getR (r := 20) fl_WithOneHand_17_7 dX8_redo_55 c_5 rfl rfl ?_
    refine J_dup dX8_redo_58 rfl ?_
    refine JX_getI fl_WithOneHand_265_1 dX8_redo_59 c_20 rfl ?_
    refine J_iconst (v := 1) dX8_redo_62 (by decide) ?_
    refine J_iadd dX8_redo_63 ?_
    obtain ⟨x6, e_x6, hF⟩ := letx_eq hF
    refine JX_putI fl_WithOneHand_265_1 dX8_redo_64 c_20 rfl rfl rfl ?_
    rw [← e_x6]
    refine J_aload_n (j := 1) dX8_redo_67 rfl rfl ?_
    refine JX_getR (r := 20) fl_WithOneHand_17_7 dX8_redo_68 c_5 rfl rfl ?_
    refine J_dup dX8_redo_71 rfl ?_
    refine JX_getI fl_WithOneHand_268_1 dX8_redo_72 c_20 rfl ?_
    refine J_iconst (v := 1) dX8_redo_75 (by decide) ?_
    refine J_isub dX8_redo_76 ?_
    obtain ⟨x7, e_x7, hF⟩ := letx_eq hF
    refine JX_putI fl_WithOneHand_268_1 dX8_redo_77 c_20 rfl rfl rfl ?_
    rw [← e_x7]
    refine J_aload_n (j := 1) dX8_redo_80 rfl rfl ?_
    refine JX_getR (r := 20) fl_WithOneHand_17_7 dX8_redo_81 c_5 rfl rfl ?_
    refine JX_getI fl_WithOneHand_268_1 dX8_redo_84 c_20 rfl ?_
    obtain ⟨e_r, e_z⟩ := someP hF
    subst e_r
    subst e_z
    exact J_ireturn rfl rfl dX8_redo_87 ⟨rfl, rfl⟩
  · rw [if_pos q1] at hF
    refine J_bipush (v := (-5)) dX8_redo_10 (by decide) ?_
    obtain ⟨e_r, e_z⟩ := someP hF
    subst e_r
    subst e_z
    exact J_ireturn rfl rfl dX8_redo_12 ⟨rfl, rfl⟩
def f_X9_redo (m : MM) : Option (Int32 × MM) :=
  if (mi m 80 28) = (mi m 80 29) then
  some ((-5), m)
  else
  if inb (mi m 80 28) 40 = true then
  ob (f_X9_write (mi m 95 (ix (mi m 80 28))) (mi m 96 (ix (mi m 80 28))) (mi m 98 (ix (mi m 80 28))) m) (fun m3 =>
  letx (ms m3 80 28 ((mi m3 80 28) + 1)) (fun m5 =>
  some ((mi m5 80 29) - (mi m5 80 28), m5)))
  else none
theorem S_X9_redo {g : GC} {d : Nat}  {x : MX} {m : MM} {r : Int32} {z : MM} (hd : 2 ≤ d) 
  (hF : f_X9_redo m = some (r, z)) : JC g m_X9_redo d 0 0 [.ref 80] (ST x m) (EQ (some (.int r)) (ST x z)) := by
  refine JC.of (by decide +kernel) (Nat.le_of_ble_eq_true rfl) ?_
  change J g m_X9_redo d 0 0 0 [(0, .ref 80)] [] (ST x m) 0 0 (EQ (some (.int r)) (ST x z))
  unfold f_X9_redo at hF
  refine J_aload_n (j := 0) dX9_redo_0 rfl rfl ?_
  refine JM_getI fl_WithOneHandModel_142_8 dX9_redo_1 c_80 rfl ?_
  refine J_aload_n (j := 0) dX9_redo_4 rfl rfl ?_
  refine JM_getI fl_WithOneHandModel_161_8 dX9_redo_5 c_80 rfl ?_
  refine J_icmp_ne (tgt := 14) dX9_redo_8 (by decide) (fun q1 => ?_) (fun q1 => ?_)
  · rw [if_neg q1] at hF
    refine J_aload_n (j := 0) dX9_redo_14 rfl rfl ?_
    refine J_aload_n (j := 0) dX9_redo_15 rfl rfl ?_
    refine JM_getR (r := 95) fl_WithOneHandModel_56_8 dX9_redo_16 c_80 rfl rfl ?_
    refine J_aload_n (j := 0) dX9_redo_19 rfl rfl ?_
    refine JM_getI fl_WithOneHandModel_142_8 dX9_redo_20 c_80 rfl ?_
    obtain ⟨b2, hF⟩ := chk hF
    refine JM_iald (j := ix (mi m 80 28)) dX9_redo_23 c_95 (inb_vp b2) rfl ?_
    refine J_aload_n (j := 0) dX9_redo_24 rfl rfl ?_
    refine JM_getR (r := 96) fl_WithOneHandModel_59_8 dX9_redo_25 c_80 rfl rfl ?_
    refine J_aload_n (j := 0) dX9_redo_28 rfl rfl ?_
    refine JM_getI fl_WithOneHandModel_142_8 dX9_redo_29 c_80 rfl ?_
    refine JM_iald (j := ix (mi m 80 28)) dX9_redo_32 c_96 (inb_vp b2) rfl ?_
    refine J_aload_n (j := 0) dX9_redo_33 rfl rfl ?_
    refine JM_getR (r := 98) fl_WithOneHandModel_65_8 dX9_redo_34 c_80 rfl rfl ?_
    refine J_aload_n (j := 0) dX9_redo_37 rfl rfl ?_
    refine JM_getI fl_WithOneHandModel_142_8 dX9_redo_38 c_80 rfl ?_
    refine JM_iald (j := ix (mi m 80 28)) dX9_redo_41 c_98 (inb_vp b2) rfl ?_
    obtain ⟨m3, h4, hF⟩ := ob_some hF
    refine JM_callVv (As := [.int (mi m 95 (ix (mi m 80 28))), .int (mi m 96 (ix (mi m 80 28))), .int (mi m 98 (ix (mi m 80 28)))]) (S := []) lkV_WithOneHandModel_164_X9_write rfl (by decide) dX9_redo_42 c_80 (S_X9_write (by omega) h4) (by omega) rfl rfl (Nat.le_of_ble_eq_true rfl) rfl ?_
    refine J_aload_n (j := 0) dX9_redo_45 rfl rfl ?_
    refine J_dup dX9_redo_46 rfl ?_
    refine JM_getI fl_WithOneHandModel_142_8 dX9_redo_47 c_80 rfl ?_
    refine J_iconst (v := 1) dX9_redo_50 (by decide) ?_
    refine J_iadd dX9_redo_51 ?_
    obtain ⟨m5, e_m5, hF⟩ := letx_eq hF
    refine JM_putI fl_WithOneHandModel_142_8 dX9_redo_52 c_80 rfl rfl rfl ?_
    rw [← e_m5]
    refine J_aload_n (j := 0) dX9_redo_55 rfl rfl ?_
    refine JM_getI fl_WithOneHandModel_161_8 dX9_redo_56 c_80 rfl ?_
    refine J_aload_n (j := 0) dX9_redo_59 rfl rfl ?_
    refine JM_getI fl_WithOneHandModel_142_8 dX9_redo_60 c_80 rfl ?_
    refine J_isub dX9_redo_63 ?_
    obtain ⟨e_r, e_z⟩ := someP hF
    subst e_r
    subst e_z
    exact J_ireturn rfl rfl dX9_redo_64 ⟨rfl, rfl⟩
  · rw [if_pos q1] at hF
    refine J_bipush (v := (-5)) dX9_redo_11 (by decide) ?_
    obtain ⟨e_r, e_z⟩ := someP hF
    subst e_r
    subst e_z
    exact J_ireturn rfl rfl dX9_redo_13 ⟨rfl, rfl⟩
def f_X2_isKind (a0 : Int32) : Bool :=
  if a0 < 0 then
  false
  else
  if 8 ≤ a0 then
  false
  else
  true
theorem S_X2_isKind {g : GC} {d : Nat} {a0 : Int32} {x : MX} {m : MM} {r : Bool} (hd : 1 ≤ d) 
  (hF : f_X2_isKind a0 = r) : JC g m_X2_isKind d 0 0 [.int a0] (ST x m) (EQ (some (.int (b2i r))) (ST x m)) := by
  refine JC.of (by decide +kernel) (Nat.le_of_ble_eq_true rfl) ?_
  change J g m_X2_isKind d 0 0 0 [(0, .int a0)] [] (ST x m) 0 0 (EQ (some (.int (b2i r))) (ST x m))
  unfold f_X2_isKind at hF
  refine J_iload_n (j := 0) dX2_isKind_0 rfl rfl ?_
  refine J_if_lt (tgt := 16) dX2_isKind_1 (by decide) (fun q1 => ?_) (fun q1 => ?_)
  · rw [if_pos q1] at hF
    refine J_iconst (v := 0) dX2_isKind_16 (by decide) ?_
    subst hF
    exact J_ireturn rfl rfl dX2_isKind_17 ⟨rfl, rfl⟩
  · rw [if_neg q1] at hF
    refine J_iload_n (j := 0) dX2_isKind_4 rfl rfl ?_
    refine J_gets (j := 2) (by decide) (tb 793 (by decide +kernel)) dX2_isKind_5 ?_
    refine J_alenS (v := 8) (by decide) dX2_isKind_8 (by decide) ?_
    refine J_icmp_ge (tgt := 16) dX2_isKind_9 (by decide) (fun q2 => ?_) (fun q2 => ?_)
    · rw [if_pos q2] at hF
      refine J_iconst (v := 0) dX2_isKind_16 (by decide) ?_
      subst hF
      exact J_ireturn rfl rfl dX2_isKind_17 ⟨rfl, rfl⟩
    · rw [if_neg q2] at hF
      refine J_iconst (v := 1) dX2_isKind_12 (by decide) ?_
      refine J_goto (tgt := 17) dX2_isKind_13 (by decide) ?_
      subst hF
      exact J_ireturn rfl rfl dX2_isKind_17 ⟨rfl, rfl⟩
def f_X8_body (a1 : Int32) (x : MX) : Option (Int32 × MX) :=
  if (f_X2_isKind a1) = true then
  if (xi x 51 2) < 50 then
  if inb (xi x 51 2) 50 = true then
  letx (xs x 52 (ix (xi x 51 2)) a1) (fun x4 =>
  letx (xs x4 51 2 ((xi x4 51 2) + 1)) (fun x5 =>
  some (xi x4 51 2, x5)))
  else none
  else
  some ((-3), x)
  else
  some ((-1), x)
theorem S_X8_body {g : GC} {d : Nat} {a1 : Int32} {x : MX} {m : MM} {r : Int32} {z : MX} (hd : 2 ≤ d) 
  (hF : f_X8_body a1 x = some (r, z)) : JC g m_X8_body d 0 0 [.ref 5, .int a1] (ST x m) (EQ (some (.int r)) (ST z m)) := by
  refine JC.of (by decide +kernel) (Nat.le_of_ble_eq_true rfl) ?_
  change J g m_X8_body d 0 0 0 [(0, .ref 5), (1, .int a1)] [] (ST x m) 0 0 (EQ (some (.int r)) (ST z m))
  unfold f_X8_body at hF
  refine J_iload_n (j := 1) dX8_body_0 rfl rfl ?_
  refine J_callSi (As := [.int a1]) (S := []) lkS_WithOneHand_283_X2_isKind dX8_body_1 (S_X2_isKind (by omega) rfl) (by omega) rfl rfl (Nat.le_of_ble_eq_true rfl) rfl ?_
  refine J_ifb_ne (tgt := 9) dX8_body_4 (by decide) (fun q1 => ?_) (fun q1 => ?_)
  · rw [if_pos q1] at hF
    refine J_aload_n (j := 0) dX8_body_9 rfl rfl ?_
    refine JX_getR (r := 51) fl_WithOneHand_52_7 dX8_body_10 c_5 rfl rfl ?_
    refine JX_getI fl_WithOneHand_286_2 dX8_body_13 c_51 rfl ?_
    refine J_bipush (v := 50) dX8_body_16 (by decide) ?_
    refine J_icmp_lt (tgt := 24) dX8_body_18 (by decide) (fun q2 => ?_) (fun q2 => ?_)
    · rw [if_pos q2] at hF
      refine J_aload_n (j := 0) dX8_body_24 rfl rfl ?_
      refine JX_getR (r := 51) fl_WithOneHand_52_7 dX8_body_25 c_5 rfl rfl ?_
      refine JX_getR (r := 52) fl_WithOneHand_289_2 dX8_body_28 c_51 rfl rfl ?_
      refine J_aload_n (j := 0) dX8_body_31 rfl rfl ?_
      refine JX_getR (r := 51) fl_WithOneHand_52_7 dX8_body_32 c_5 rfl rfl ?_
      refine JX_getI fl_WithOneHand_286_2 dX8_body_35 c_51 rfl ?_
      refine J_iload_n (j := 1) dX8_body_38 rfl rfl ?_
      obtain ⟨b3, hF⟩ := chk hF
      obtain ⟨x4, e_x4, hF⟩ := letx_eq hF
      refine JX_iast (j := ix (xi x 51 2)) dX8_body_39 c_52 (inb_vp b3) rfl ?_
      rw [← e_x4]
      refine J_aload_n (j := 0) dX8_body_40 rfl rfl ?_
      refine JX_getR (r := 51) fl_WithOneHand_52_7 dX8_body_41 c_5 rfl rfl ?_
      refine J_dup dX8_body_44 rfl ?_
      refine JX_getI fl_WithOneHand_286_2 dX8_body_45 c_51 rfl ?_
      refine J_dup_x1 dX8_body_48 rfl rfl ?_
      refine J_iconst (v := 1) dX8_body_49 (by decide) ?_
      refine J_iadd dX8_body_50 ?_
      obtain ⟨x5, e_x5, hF⟩ := letx_eq hF
      refine JX_putI fl_WithOneHand_286_2 dX8_body_51 c_51 rfl rfl rfl ?_
      rw [← e_x5]
      obtain ⟨e_r, e_z⟩ := someP hF
      subst e_r
      subst e_z
      exact J_ireturn rfl rfl dX8_body_54 ⟨rfl, rfl⟩
    · rw [if_neg q2] at hF
      refine J_bipush (v := (-3)) dX8_body_21 (by decide) ?_
      obtain ⟨e_r, e_z⟩ := someP hF
      subst e_r
      subst e_z
      exact J_ireturn rfl rfl dX8_body_23 ⟨rfl, rfl⟩
  · rw [if_neg q1] at hF
    refine J_iconst (v := (-1)) dX8_body_7 (by decide) ?_
    obtain ⟨e_r, e_z⟩ := someP hF
    subst e_r
    subst e_z
    exact J_ireturn rfl rfl dX8_body_8 ⟨rfl, rfl⟩
def f_X9_body (a1 : Int32) (m : MM) : Option (Int32 × MM) :=
  if (f_X9_isIn a1 0 7) = true then
  if (mi m 80 8) = 50 then
  some ((-3), m)
  else
  if inb (mi m 80 8) 50 = true then
  letx (ms m 103 (ix (mi m 80 8)) a1) (fun m4 =>
  letx (ms m4 80 8 ((mi m4 80 8) + 1)) (fun m5 =>
  some (mi m4 80 8, m5)))
  else none
  else
  some ((-1), m)
theorem S_X9_body {g : GC} {d : Nat} {a1 : Int32} {x : MX} {m : MM} {r : Int32} {z : MM} (hd : 2 ≤ d) 
  (hF : f_X9_body a1 m = some (r, z)) : JC g m_X9_body d 0 0 [.ref 80, .int a1] (ST x m) (EQ (some (.int r)) (ST x z)) := by
  refine JC.of (by decide +kernel) (Nat.le_of_ble_eq_true rfl) ?_
  change J g m_X9_body d 0 0 0 [(0, .ref 80), (1, .int a1)] [] (ST x m) 0 0 (EQ (some (.int r)) (ST x z))
  unfold f_X9_body at hF
  refine J_aload_n (j := 0) dX9_body_0 rfl rfl ?_
  refine J_iload_n (j := 1) dX9_body_1 rfl rfl ?_
  refine J_iconst (v := 0) dX9_body_2 (by decide) ?_
  refine J_bipush (v := 7) dX9_body_3 (by decide) ?_
  refine JM_callVi (As := [.int a1, .int 0, .int 7]) (S := []) lkV_WithOneHandModel_114_X9_isIn rfl (by decide) dX9_body_5 c_80 (S_X9_isIn (by omega) rfl) (by omega) rfl rfl (Nat.le_of_ble_eq_true rfl) rfl ?_
  refine J_ifb_ne (tgt := 13) dX9_body_8 (by decide) (fun q1 => ?_) (fun q1 => ?_)
  · rw [if_pos q1] at hF
    refine J_aload_n (j := 0) dX9_body_13 rfl rfl ?_
    refine JM_getI fl_WithOneHandModel_343_8 dX9_body_14 c_80 rfl ?_
    refine J_bipush (v := 50) dX9_body_17 (by decide) ?_
    refine J_icmp_ne (tgt := 25) dX9_body_19 (by decide) (fun q2 => ?_) (fun q2 => ?_)
    · rw [if_neg q2] at hF
      refine J_aload_n (j := 0) dX9_body_25 rfl rfl ?_
      refine JM_getR (r := 103) fl_WithOneHandModel_83_8 dX9_body_26 c_80 rfl rfl ?_
      refine J_aload_n (j := 0) dX9_body_29 rfl rfl ?_
      refine JM_getI fl_WithOneHandModel_343_8 dX9_body_30 c_80 rfl ?_
      refine J_iload_n (j := 1) dX9_body_33 rfl rfl ?_
      obtain ⟨b3, hF⟩ := chk hF
      obtain ⟨m4, e_m4, hF⟩ := letx_eq hF
      refine JM_iast (j := ix (mi m 80 8)) dX9_body_34 c_103 (inb_vp b3) rfl ?_
      rw [← e_m4]
      refine J_aload_n (j := 0) dX9_body_35 rfl rfl ?_
      refine J_dup dX9_body_36 rfl ?_
      refine JM_getI fl_WithOneHandModel_343_8 dX9_body_37 c_80 rfl ?_
      refine J_dup_x1 dX9_body_40 rfl rfl ?_
      refine J_iconst (v := 1) dX9_body_41 (by decide) ?_
      refine J_iadd dX9_body_42 ?_
      obtain ⟨m5, e_m5, hF⟩ := letx_eq hF
      refine JM_putI fl_WithOneHandModel_343_8 dX9_body_43 c_80 rfl rfl rfl ?_
      rw [← e_m5]
      obtain ⟨e_r, e_z⟩ := someP hF
      subst e_r
      subst e_z
      exact J_ireturn rfl rfl dX9_body_46 ⟨rfl, rfl⟩
    · rw [if_pos q2] at hF
      refine J_bipush (v := (-3)) dX9_body_22 (by decide) ?_
      obtain ⟨e_r, e_z⟩ := someP hF
      subst e_r
      subst e_z
      exact J_ireturn rfl rfl dX9_body_24 ⟨rfl, rfl⟩
  · rw [if_neg q1] at hF
    refine J_iconst (v := (-1)) dX9_body_11 (by decide) ?_
    obtain ⟨e_r, e_z⟩ := someP hF
    subst e_r
    subst e_z
    exact J_ireturn rfl rfl dX9_body_12 ⟨rfl, rfl⟩
def B_X2_note_19 (x : MX) : Option MX :=
  letx (xs x 51 3 ((xi x 51 3) + 1)) (fun x2 =>
  some x2)
theorem SB_X2_note_19 {g : GC} {d : Nat} {x : MX} {m : MM} {z : MX} (hd : 1 ≤ d) 
  (hF : B_X2_note_19 x = some z) : J g m_X2_note d 0 0 19 [(0, .ref 51)] [] (ST x m) 0 0 (EQ (none) (ST z m)) := by
  unfold B_X2_note_19 at hF
  refine J_aload_n (j := 0) dX2_note_19 rfl rfl ?_
  refine J_dup dX2_note_20 rfl ?_
  refine JX_getI fl_Holes_29_2 dX2_note_21 c_51 rfl ?_
  refine J_iconst (v := 1) dX2_note_24 (by decide) ?_
  refine J_iadd dX2_note_25 ?_
  obtain ⟨x2, e_x2, hF⟩ := letx_eq hF
  refine JX_putI fl_Holes_29_2 dX2_note_26 c_51 rfl rfl rfl ?_
  rw [← e_x2]
  have e_r := Option.some.inj hF
  subst e_r
  exact J_return rfl dX2_note_29 ⟨rfl, rfl⟩
def f_X2_note (a1 : Int32) (x : MX) : Option MX :=
  if 24 ≤ (xi x 51 3) then
  B_X2_note_19 x
  else
  if inb (xi x 51 3) 24 = true then
  letx (xs x 53 (ix (xi x 51 3)) a1) (fun x4 =>
  B_X2_note_19 x4)
  else none
theorem S_X2_note {g : GC} {d : Nat} {a1 : Int32} {x : MX} {m : MM} {z : MX} (hd : 1 ≤ d) 
  (hF : f_X2_note a1 x = some z) : JC g m_X2_note d 0 0 [.ref 51, .int a1] (ST x m) (EQ (none) (ST z m)) := by
  refine JC.of (by decide +kernel) (Nat.le_of_ble_eq_true rfl) ?_
  change J g m_X2_note d 0 0 0 [(0, .ref 51), (1, .int a1)] [] (ST x m) 0 0 (EQ (none) (ST z m))
  unfold f_X2_note at hF
  refine J_aload_n (j := 0) dX2_note_0 rfl rfl ?_
  refine JX_getI fl_Holes_29_2 dX2_note_1 c_51 rfl ?_
  refine J_bipush (v := 24) dX2_note_4 (by decide) ?_
  refine J_icmp_ge (tgt := 19) dX2_note_6 (by decide) (fun q1 => ?_) (fun q1 => ?_)
  · rw [if_pos q1] at hF
    refine J_sub [0] rfl ?_
    exact SB_X2_note_19 hd hF
  · rw [if_neg q1] at hF
    refine J_aload_n (j := 0) dX2_note_9 rfl rfl ?_
    refine JX_getR (r := 53) fl_Holes_15_2 dX2_note_10 c_51 rfl rfl ?_
    refine J_aload_n (j := 0) dX2_note_13 rfl rfl ?_
    refine JX_getI fl_Holes_29_2 dX2_note_14 c_51 rfl ?_
    refine J_iload_n (j := 1) dX2_note_17 rfl rfl ?_
    obtain ⟨b3, hF⟩ := chk hF
    obtain ⟨x4, e_x4, hF⟩ := letx_eq hF
    refine JX_iast (j := ix (xi x 51 3)) dX2_note_18 c_53 (inb_vp b3) rfl ?_
    rw [← e_x4]
    refine J_sub [0] rfl ?_
    exact SB_X2_note_19 hd hF
def R_X2_own (s_X2_own : Int32 → Int32 → Int32 → MX → Option (Int32 × MX)) (s_X2_runs : Int32 → Int32 → Int32 → Int32 → MX → Option (Int32 × MX)) (s_X2_ofHole : Int32 → Int32 → Int32 → MX → Option (Int32 × MX)) (s_X2_ofUnder : Int32 → Int32 → Int32 → Int32 → MX → Option (Int32 × MX)) (a1 : Int32) (a2 : Int32) (a3 : Int32) (x : MX) : Option (Int32 × MX) :=
  if inb (xi x 51 4) 50 = true then
  ob2 (s_X2_runs (xi x 52 (ix (xi x 51 4))) a1 a2 a3 x) (fun r2 x3 =>
  some (r2, x3))
  else none
theorem SR_X2_own {g : GC} {nn d : Nat} {s_X2_own : Int32 → Int32 → Int32 → MX → Option (Int32 × MX)} {s_X2_runs : Int32 → Int32 → Int32 → Int32 → MX → Option (Int32 × MX)} {s_X2_ofHole : Int32 → Int32 → Int32 → MX → Option (Int32 × MX)} {s_X2_ofUnder : Int32 → Int32 → Int32 → Int32 → MX → Option (Int32 × MX)} {a1 : Int32} {a2 : Int32} {a3 : Int32} {x : MX} {m : MM} {r : Int32} {z : MX} (hd : nn + 3 ≤ d) (hs_s_X2_own : ∀ (d : Nat), nn + 2 ≤ d → ∀ (a1 : Int32) (a2 : Int32) (a3 : Int32) (x : MX) (r : Int32) (z : MX), s_X2_own a1 a2 a3 x = some (r, z) → JC g m_X2_own d 0 0 [.ref 51, .int a1, .int a2, .int a3] (ST x m) (EQ (some (.int r)) (ST z m))) (hs_s_X2_runs : ∀ (d : Nat), nn + 2 ≤ d → ∀ (a1 : Int32) (a2 : Int32) (a3 : Int32) (a4 : Int32) (x : MX) (r : Int32) (z : MX), s_X2_runs a1 a2 a3 a4 x = some (r, z) → JC g m_X2_runs d 0 0 [.ref 51, .int a1, .int a2, .int a3, .int a4] (ST x m) (EQ (some (.int r)) (ST z m))) (hs_s_X2_ofHole : ∀ (d : Nat), nn + 2 ≤ d → ∀ (a1 : Int32) (a2 : Int32) (a3 : Int32) (x : MX) (r : Int32) (z : MX), s_X2_ofHole a1 a2 a3 x = some (r, z) → JC g m_X2_ofHole d 0 0 [.ref 51, .int a1, .int a2, .int a3] (ST x m) (EQ (some (.int r)) (ST z m))) (hs_s_X2_ofUnder : ∀ (d : Nat), nn + 2 ≤ d → ∀ (a1 : Int32) (a2 : Int32) (a3 : Int32) (a4 : Int32) (x : MX) (r : Int32) (z : MX), s_X2_ofUnder a1 a2 a3 a4 x = some (r, z) → JC g m_X2_ofUnder d 0 0 [.ref 51, .int a1, .int a2, .int a3, .int a4] (ST x m) (EQ (some (.int r)) (ST z m))) 
  (hF : R_X2_own s_X2_own s_X2_runs s_X2_ofHole s_X2_ofUnder a1 a2 a3 x = some (r, z)) : JC g m_X2_own d 0 0 [.ref 51, .int a1, .int a2, .int a3] (ST x m) (EQ (some (.int r)) (ST z m)) := by
  refine JC.of (by decide +kernel) (Nat.le_of_ble_eq_true rfl) ?_
  change J g m_X2_own d 0 0 0 [(0, .ref 51), (1, .int a1), (2, .int a2), (3, .int a3)] [] (ST x m) 0 0 (EQ (some (.int r)) (ST z m))
  unfold R_X2_own at hF
  refine J_aload_n (j := 0) dX2_own_0 rfl rfl ?_
  refine J_aload_n (j := 0) dX2_own_1 rfl rfl ?_
  refine JX_getR (r := 52) fl_Holes_9_2 dX2_own_2 c_51 rfl rfl ?_
  refine J_aload_n (j := 0) dX2_own_5 rfl rfl ?_
  refine JX_getI fl_Holes_32_2 dX2_own_6 c_51 rfl ?_
  obtain ⟨b1, hF⟩ := chk hF
  refine JX_iald (j := ix (xi x 51 4)) dX2_own_9 c_52 (inb_vp b1) rfl ?_
  refine J_iload_n (j := 1) dX2_own_10 rfl rfl ?_
  refine J_iload_n (j := 2) dX2_own_11 rfl rfl ?_
  refine J_iload_n (j := 3) dX2_own_12 rfl rfl ?_
  obtain ⟨r2, x3, h4, hF⟩ := ob2_some hF
  refine JX_callVi (As := [.int (xi x 52 (ix (xi x 51 4))), .int a1, .int a2, .int a3]) (S := []) lkV_Holes_39_X2_runs rfl (by decide) dX2_own_13 c_51 (hs_s_X2_runs (d - 1) (by omega) _ _ _ _ _ _ _ h4) (by omega) rfl rfl (Nat.le_of_ble_eq_true rfl) rfl ?_
  obtain ⟨e_r, e_z⟩ := someP hF
  subst e_r
  subst e_z
  exact J_ireturn rfl rfl dX2_own_16 ⟨rfl, rfl⟩
def B_X2_runs_50 (s_X2_own : Int32 → Int32 → Int32 → MX → Option (Int32 × MX)) (s_X2_runs : Int32 → Int32 → Int32 → Int32 → MX → Option (Int32 × MX)) (s_X2_ofHole : Int32 → Int32 → Int32 → MX → Option (Int32 × MX)) (s_X2_ofUnder : Int32 → Int32 → Int32 → Int32 → MX → Option (Int32 × MX)) (v2 : Int32) (v3 : Int32) (v4 : Int32) (v5 : Int32) (x : MX) : Option (Int32 × MX) :=
  if (f_X2_isKind v5) = true then
  if v4 ≤ 40 then
  if inb ((4 * v5) + v2) 32 = true then
  letx ((SA 3).getD (ix ((4 * v5) + v2)) 0) (fun y5 =>
  ob (f_X2_note y5 x) (fun x6 =>
  if v5 = 0 then
  ob2 (s_X2_ofHole y5 v3 (v4 + 1) x6) (fun r13 x14 =>
  some (r13, x14))
  else
  if inb v5 8 = true then
  ob2 (s_X2_ofUnder y5 ((SA 2).getD (ix v5) 0) v3 (v4 + 1) x6) (fun r10 x11 =>
  some (r10, x11))
  else none))
  else none
  else
  some (0, x)
  else
  some (0, x)
theorem SB_X2_runs_50 {g : GC} {nn d : Nat} {s_X2_own : Int32 → Int32 → Int32 → MX → Option (Int32 × MX)} {s_X2_runs : Int32 → Int32 → Int32 → Int32 → MX → Option (Int32 × MX)} {s_X2_ofHole : Int32 → Int32 → Int32 → MX → Option (Int32 × MX)} {s_X2_ofUnder : Int32 → Int32 → Int32 → Int32 → MX → Option (Int32 × MX)} {v2 : Int32} {v3 : Int32} {v4 : Int32} {v5 : Int32} {x : MX} {m : MM} {r : Int32} {z : MX} (hd : nn + 3 ≤ d) (hs_s_X2_own : ∀ (d : Nat), nn + 2 ≤ d → ∀ (a1 : Int32) (a2 : Int32) (a3 : Int32) (x : MX) (r : Int32) (z : MX), s_X2_own a1 a2 a3 x = some (r, z) → JC g m_X2_own d 0 0 [.ref 51, .int a1, .int a2, .int a3] (ST x m) (EQ (some (.int r)) (ST z m))) (hs_s_X2_runs : ∀ (d : Nat), nn + 2 ≤ d → ∀ (a1 : Int32) (a2 : Int32) (a3 : Int32) (a4 : Int32) (x : MX) (r : Int32) (z : MX), s_X2_runs a1 a2 a3 a4 x = some (r, z) → JC g m_X2_runs d 0 0 [.ref 51, .int a1, .int a2, .int a3, .int a4] (ST x m) (EQ (some (.int r)) (ST z m))) (hs_s_X2_ofHole : ∀ (d : Nat), nn + 2 ≤ d → ∀ (a1 : Int32) (a2 : Int32) (a3 : Int32) (x : MX) (r : Int32) (z : MX), s_X2_ofHole a1 a2 a3 x = some (r, z) → JC g m_X2_ofHole d 0 0 [.ref 51, .int a1, .int a2, .int a3] (ST x m) (EQ (some (.int r)) (ST z m))) (hs_s_X2_ofUnder : ∀ (d : Nat), nn + 2 ≤ d → ∀ (a1 : Int32) (a2 : Int32) (a3 : Int32) (a4 : Int32) (x : MX) (r : Int32) (z : MX), s_X2_ofUnder a1 a2 a3 a4 x = some (r, z) → JC g m_X2_ofUnder d 0 0 [.ref 51, .int a1, .int a2, .int a3, .int a4] (ST x m) (EQ (some (.int r)) (ST z m)))
  (hF : B_X2_runs_50 s_X2_own s_X2_runs s_X2_ofHole s_X2_ofUnder v2 v3 v4 v5 x = some (r, z)) : J g m_X2_runs d 0 0 50 [(0, .ref 51), (2, .int v2), (3, .int v3), (4, .int v4), (5, .int v5)] [] (ST x m) 0 0 (EQ (some (.int r)) (ST z m)) := by
  unfold B_X2_runs_50 at hF
  refine J_iload (j := 4) dX2_runs_50 rfl ?_
  refine J_callSi (As := [.int v5]) (S := []) lkS_Holes_25_X2_isKind dX2_runs_52 (S_X2_isKind (by omega) rfl) (by omega) rfl rfl (Nat.le_of_ble_eq_true rfl) rfl ?_
  refine J_ifb_eq (tgt := 65) dX2_runs_55 (by decide) (fun q2 => ?_) (fun q2 => ?_)
  · rw [if_neg q2] at hF
    refine J_iconst (v := 0) dX2_runs_65 (by decide) ?_
    obtain ⟨e_r, e_z⟩ := someP hF
    subst e_r
    subst e_z
    exact J_ireturn rfl rfl dX2_runs_66 ⟨rfl, rfl⟩
  · rw [if_pos q2] at hF
    refine J_iload (j := 3) dX2_runs_58 rfl ?_
    refine J_bipush (v := 40) dX2_runs_60 (by decide) ?_
    refine J_icmp_le (tgt := 67) dX2_runs_62 (by decide) (fun q3 => ?_) (fun q3 => ?_)
    · rw [if_pos q3] at hF
      refine J_gets (j := 3) (by decide) (tb 812 (by decide +kernel)) dX2_runs_67 ?_
      refine J_iconst (v := 4) dX2_runs_70 (by decide) ?_
      refine J_iload (j := 4) dX2_runs_71 rfl ?_
      refine J_imul dX2_runs_73 ?_
      refine J_iload_n (j := 1) dX2_runs_74 rfl rfl ?_
      refine J_iadd dX2_runs_75 ?_
      obtain ⟨b4, hF⟩ := chk hF
      refine J_ialdS (v := (SA 3).getD (ix ((4 * v5) + v2)) 0) (by decide) dX2_runs_76 (inb_vp b4) rfl ?_
      obtain ⟨y5, e_y5, hF⟩ := letx_eq hF
      rw [← e_y5]
      refine J_istore (L' := [(6, .int y5), (0, .ref 51), (2, .int v2), (3, .int v3), (4, .int v4), (5, .int v5)]) dX2_runs_77 (by decide) rfl ?_
      refine J_aload_n (j := 1) dX2_runs_79 rfl rfl ?_
      refine J_iload (j := 0) dX2_runs_80 rfl ?_
      obtain ⟨x6, h7, hF⟩ := ob_some hF
      refine JX_callVv (As := [.int y5]) (S := []) lkV_Holes_46_X2_note rfl (by decide) dX2_runs_82 c_51 (S_X2_note (by omega) h7) (by omega) rfl rfl (Nat.le_of_ble_eq_true rfl) rfl ?_
      refine J_iload (j := 5) dX2_runs_85 rfl ?_
      refine J_if_ne (tgt := 104) dX2_runs_87 (by decide) (fun q8 => ?_) (fun q8 => ?_)
      · rw [if_neg q8] at hF
        refine J_aload_n (j := 1) dX2_runs_104 rfl rfl ?_
        refine J_iload (j := 0) dX2_runs_105 rfl ?_
        refine J_gets (j := 2) (by decide) (tb 793 (by decide +kernel)) dX2_runs_107 ?_
        refine J_iload (j := 5) dX2_runs_110 rfl ?_
        obtain ⟨b9, hF⟩ := chk hF
        refine J_ialdS (v := (SA 2).getD (ix v5) 0) (by decide) dX2_runs_112 (inb_vp b9) rfl ?_
        refine J_iload_n (j := 3) dX2_runs_113 rfl rfl ?_
        refine J_iload (j := 4) dX2_runs_114 rfl ?_
        refine J_iconst (v := 1) dX2_runs_116 (by decide) ?_
        refine J_iadd dX2_runs_117 ?_
        obtain ⟨r10, x11, h12, hF⟩ := ob2_some hF
        refine JX_callVi (As := [.int y5, .int ((SA 2).getD (ix v5) 0), .int v3, .int (v4 + 1)]) (S := []) lkV_Holes_53_X2_ofUnder rfl (by decide) dX2_runs_118 c_51 (hs_s_X2_ofUnder (d - 1) (by omega) _ _ _ _ _ _ _ h12) (by omega) rfl rfl (Nat.le_of_ble_eq_true rfl) rfl ?_
        obtain ⟨e_r, e_z⟩ := someP hF
        subst e_r
        subst e_z
        exact J_ireturn rfl rfl dX2_runs_121 ⟨rfl, rfl⟩
      · rw [if_pos q8] at hF
        refine J_aload_n (j := 1) dX2_runs_90 rfl rfl ?_
        refine J_iload (j := 0) dX2_runs_91 rfl ?_
        refine J_iload_n (j := 3) dX2_runs_93 rfl rfl ?_
        refine J_iload (j := 4) dX2_runs_94 rfl ?_
        refine J_iconst (v := 1) dX2_runs_96 (by decide) ?_
        refine J_iadd dX2_runs_97 ?_
        obtain ⟨r13, x14, h15, hF⟩ := ob2_some hF
        refine JX_callVi (As := [.int y5, .int v3, .int (v4 + 1)]) (S := []) lkV_Holes_50_X2_ofHole rfl (by decide) dX2_runs_98 c_51 (hs_s_X2_ofHole (d - 1) (by omega) _ _ _ _ _ _ h15) (by omega) rfl rfl (Nat.le_of_ble_eq_true rfl) rfl ?_
        refine J_goto (tgt := 121) dX2_runs_101 (by decide) ?_
        obtain ⟨e_r, e_z⟩ := someP hF
        subst e_r
        subst e_z
        exact J_ireturn rfl rfl dX2_runs_121 ⟨rfl, rfl⟩
    · rw [if_neg q3] at hF
      refine J_iconst (v := 0) dX2_runs_65 (by decide) ?_
      obtain ⟨e_r, e_z⟩ := someP hF
      subst e_r
      subst e_z
      exact J_ireturn rfl rfl dX2_runs_66 ⟨rfl, rfl⟩
def B_X2_runs_6 (s_X2_own : Int32 → Int32 → Int32 → MX → Option (Int32 × MX)) (s_X2_runs : Int32 → Int32 → Int32 → Int32 → MX → Option (Int32 × MX)) (s_X2_ofHole : Int32 → Int32 → Int32 → MX → Option (Int32 × MX)) (s_X2_ofUnder : Int32 → Int32 → Int32 → Int32 → MX → Option (Int32 × MX)) (K6 : Int32 → Int32 → Int32 → Int32 → Int32 → MX → Option (Int32 × MX)) (v2 : Int32) (v3 : Int32) (v4 : Int32) (v5 : Int32) (v6 : Int32) (x : MX) : Option (Int32 × MX) :=
  if 8 ≤ v6 then
  B_X2_runs_50 s_X2_own s_X2_runs s_X2_ofHole s_X2_ofUnder v2 v3 v4 v5 x
  else
  if (f_X2_isKind v5) = true then
  if inb ((4 * v5) + v2) 32 = true then
  if ((SA 3).getD (ix ((4 * v5) + v2)) 0) = 0 then
  if inb v5 8 = true then
  K6 v2 v3 v4 ((SA 2).getD (ix v5) 0) (v6 + 1) x
  else none
  else
  B_X2_runs_50 s_X2_own s_X2_runs s_X2_ofHole s_X2_ofUnder v2 v3 v4 v5 x
  else none
  else
  B_X2_runs_50 s_X2_own s_X2_runs s_X2_ofHole s_X2_ofUnder v2 v3 v4 v5 x
theorem SB_X2_runs_6 {g : GC} {nn d : Nat} {s_X2_own : Int32 → Int32 → Int32 → MX → Option (Int32 × MX)} {s_X2_runs : Int32 → Int32 → Int32 → Int32 → MX → Option (Int32 × MX)} {s_X2_ofHole : Int32 → Int32 → Int32 → MX → Option (Int32 × MX)} {s_X2_ofUnder : Int32 → Int32 → Int32 → Int32 → MX → Option (Int32 × MX)} {K6 : Int32 → Int32 → Int32 → Int32 → Int32 → MX → Option (Int32 × MX)} {v2 : Int32} {v3 : Int32} {v4 : Int32} {v5 : Int32} {v6 : Int32} {x : MX} {m : MM} {r : Int32} {z : MX} (hd : nn + 3 ≤ d) (hs_s_X2_own : ∀ (d : Nat), nn + 2 ≤ d → ∀ (a1 : Int32) (a2 : Int32) (a3 : Int32) (x : MX) (r : Int32) (z : MX), s_X2_own a1 a2 a3 x = some (r, z) → JC g m_X2_own d 0 0 [.ref 51, .int a1, .int a2, .int a3] (ST x m) (EQ (some (.int r)) (ST z m))) (hs_s_X2_runs : ∀ (d : Nat), nn + 2 ≤ d → ∀ (a1 : Int32) (a2 : Int32) (a3 : Int32) (a4 : Int32) (x : MX) (r : Int32) (z : MX), s_X2_runs a1 a2 a3 a4 x = some (r, z) → JC g m_X2_runs d 0 0 [.ref 51, .int a1, .int a2, .int a3, .int a4] (ST x m) (EQ (some (.int r)) (ST z m))) (hs_s_X2_ofHole : ∀ (d : Nat), nn + 2 ≤ d → ∀ (a1 : Int32) (a2 : Int32) (a3 : Int32) (x : MX) (r : Int32) (z : MX), s_X2_ofHole a1 a2 a3 x = some (r, z) → JC g m_X2_ofHole d 0 0 [.ref 51, .int a1, .int a2, .int a3] (ST x m) (EQ (some (.int r)) (ST z m))) (hs_s_X2_ofUnder : ∀ (d : Nat), nn + 2 ≤ d → ∀ (a1 : Int32) (a2 : Int32) (a3 : Int32) (a4 : Int32) (x : MX) (r : Int32) (z : MX), s_X2_ofUnder a1 a2 a3 a4 x = some (r, z) → JC g m_X2_ofUnder d 0 0 [.ref 51, .int a1, .int a2, .int a3, .int a4] (ST x m) (EQ (some (.int r)) (ST z m))) (hK6 : ∀ (v2 : Int32) (v3 : Int32) (v4 : Int32) (v5 : Int32) (v6 : Int32) (x : MX) (r : Int32) (z : MX), K6 v2 v3 v4 v5 v6 x = some (r, z) → J g m_X2_runs d 0 0 6 [(0, .ref 51), (2, .int v2), (3, .int v3), (4, .int v4), (5, .int v5), (6, .int v6)] [] (ST x m) 0 0 (EQ (some (.int r)) (ST z m)))
  (hF : B_X2_runs_6 s_X2_own s_X2_runs s_X2_ofHole s_X2_ofUnder K6 v2 v3 v4 v5 v6 x = some (r, z)) : J g m_X2_runs d 0 0 6 [(0, .ref 51), (2, .int v2), (3, .int v3), (4, .int v4), (5, .int v5), (6, .int v6)] [] (ST x m) 0 0 (EQ (some (.int r)) (ST z m)) := by
  unfold B_X2_runs_6 at hF
  refine J_iload (j := 5) dX2_runs_6 rfl ?_
  refine J_gets (j := 2) (by decide) (tb 793 (by decide +kernel)) dX2_runs_8 ?_
  refine J_alenS (v := 8) (by decide) dX2_runs_11 (by decide) ?_
  refine J_icmp_ge (tgt := 50) dX2_runs_12 (by decide) (fun q1 => ?_) (fun q1 => ?_)
  · rw [if_pos q1] at hF
    refine J_sub [0, 1, 2, 3, 4] rfl ?_
    exact SB_X2_runs_50 hd hs_s_X2_own hs_s_X2_runs hs_s_X2_ofHole hs_s_X2_ofUnder hF
  · rw [if_neg q1] at hF
    refine J_iload (j := 4) dX2_runs_15 rfl ?_
    refine J_callSi (As := [.int v5]) (S := []) lkS_Holes_25_X2_isKind dX2_runs_17 (S_X2_isKind (by omega) rfl) (by omega) rfl rfl (Nat.le_of_ble_eq_true rfl) rfl ?_
    refine J_ifb_eq (tgt := 50) dX2_runs_20 (by decide) (fun q16 => ?_) (fun q16 => ?_)
    · rw [if_neg q16] at hF
      refine J_sub [0, 1, 2, 3, 4] rfl ?_
      exact SB_X2_runs_50 hd hs_s_X2_own hs_s_X2_runs hs_s_X2_ofHole hs_s_X2_ofUnder hF
    · rw [if_pos q16] at hF
      refine J_gets (j := 3) (by decide) (tb 812 (by decide +kernel)) dX2_runs_23 ?_
      refine J_iconst (v := 4) dX2_runs_26 (by decide) ?_
      refine J_iload (j := 4) dX2_runs_27 rfl ?_
      refine J_imul dX2_runs_29 ?_
      refine J_iload_n (j := 1) dX2_runs_30 rfl rfl ?_
      refine J_iadd dX2_runs_31 ?_
      obtain ⟨b17, hF⟩ := chk hF
      refine J_ialdS (v := (SA 3).getD (ix ((4 * v5) + v2)) 0) (by decide) dX2_runs_32 (inb_vp b17) rfl ?_
      refine J_if_ne (tgt := 50) dX2_runs_33 (by decide) (fun q18 => ?_) (fun q18 => ?_)
      · rw [if_neg q18] at hF
        refine J_sub [0, 1, 2, 3, 4] rfl ?_
        exact SB_X2_runs_50 hd hs_s_X2_own hs_s_X2_runs hs_s_X2_ofHole hs_s_X2_ofUnder hF
      · rw [if_pos q18] at hF
        refine J_gets (j := 2) (by decide) (tb 793 (by decide +kernel)) dX2_runs_36 ?_
        refine J_iload (j := 4) dX2_runs_39 rfl ?_
        obtain ⟨b19, hF⟩ := chk hF
        refine J_ialdS (v := (SA 2).getD (ix v5) 0) (by decide) dX2_runs_41 (inb_vp b19) rfl ?_
        refine J_istore (L' := [(5, .int ((SA 2).getD (ix v5) 0)), (0, .ref 51), (2, .int v2), (3, .int v3), (4, .int v4), (6, .int v6)]) dX2_runs_42 (by decide) rfl ?_
        refine J_iinc (j := 5) (v := v6 + 1) (L' := [(6, .int (v6 + 1)), (5, .int ((SA 2).getD (ix v5) 0)), (0, .ref 51), (2, .int v2), (3, .int v3), (4, .int v4)]) dX2_runs_44 rfl rfl (by decide) rfl ?_
        refine J_goto (tgt := 6) dX2_runs_47 (by decide) ?_
        refine J_sub [2, 3, 4, 5, 1, 0] rfl ?_
        exact hK6 _ _ _ _ _ _ _ _  hF
def f_X2_runs_6 (s_X2_own : Int32 → Int32 → Int32 → MX → Option (Int32 × MX)) (s_X2_runs : Int32 → Int32 → Int32 → Int32 → MX → Option (Int32 × MX)) (s_X2_ofHole : Int32 → Int32 → Int32 → MX → Option (Int32 × MX)) (s_X2_ofUnder : Int32 → Int32 → Int32 → Int32 → MX → Option (Int32 × MX)) : Nat → Int32 → Int32 → Int32 → Int32 → Int32 → MX → Option (Int32 × MX)
  | 0 => fun _ _ _ _ _ _ => none
  | n + 1 => fun v2 v3 v4 v5 v6 x => B_X2_runs_6 s_X2_own s_X2_runs s_X2_ofHole s_X2_ofUnder (f_X2_runs_6 s_X2_own s_X2_runs s_X2_ofHole s_X2_ofUnder n) v2 v3 v4 v5 v6 x
theorem Sf_X2_runs_6 {g : GC} {nn d : Nat} {m : MM} {s_X2_own : Int32 → Int32 → Int32 → MX → Option (Int32 × MX)} {s_X2_runs : Int32 → Int32 → Int32 → Int32 → MX → Option (Int32 × MX)} {s_X2_ofHole : Int32 → Int32 → Int32 → MX → Option (Int32 × MX)} {s_X2_ofUnder : Int32 → Int32 → Int32 → Int32 → MX → Option (Int32 × MX)} (hd : nn + 3 ≤ d) (hs_s_X2_own : ∀ (d : Nat), nn + 2 ≤ d → ∀ (a1 : Int32) (a2 : Int32) (a3 : Int32) (x : MX) (r : Int32) (z : MX), s_X2_own a1 a2 a3 x = some (r, z) → JC g m_X2_own d 0 0 [.ref 51, .int a1, .int a2, .int a3] (ST x m) (EQ (some (.int r)) (ST z m))) (hs_s_X2_runs : ∀ (d : Nat), nn + 2 ≤ d → ∀ (a1 : Int32) (a2 : Int32) (a3 : Int32) (a4 : Int32) (x : MX) (r : Int32) (z : MX), s_X2_runs a1 a2 a3 a4 x = some (r, z) → JC g m_X2_runs d 0 0 [.ref 51, .int a1, .int a2, .int a3, .int a4] (ST x m) (EQ (some (.int r)) (ST z m))) (hs_s_X2_ofHole : ∀ (d : Nat), nn + 2 ≤ d → ∀ (a1 : Int32) (a2 : Int32) (a3 : Int32) (x : MX) (r : Int32) (z : MX), s_X2_ofHole a1 a2 a3 x = some (r, z) → JC g m_X2_ofHole d 0 0 [.ref 51, .int a1, .int a2, .int a3] (ST x m) (EQ (some (.int r)) (ST z m))) (hs_s_X2_ofUnder : ∀ (d : Nat), nn + 2 ≤ d → ∀ (a1 : Int32) (a2 : Int32) (a3 : Int32) (a4 : Int32) (x : MX) (r : Int32) (z : MX), s_X2_ofUnder a1 a2 a3 a4 x = some (r, z) → JC g m_X2_ofUnder d 0 0 [.ref 51, .int a1, .int a2, .int a3, .int a4] (ST x m) (EQ (some (.int r)) (ST z m))) : ∀ (n : Nat) (v2 : Int32) (v3 : Int32) (v4 : Int32) (v5 : Int32) (v6 : Int32) (x : MX) (r : Int32) (z : MX), f_X2_runs_6 s_X2_own s_X2_runs s_X2_ofHole s_X2_ofUnder n v2 v3 v4 v5 v6 x = some (r, z) → J g m_X2_runs d 0 0 6 [(0, .ref 51), (2, .int v2), (3, .int v3), (4, .int v4), (5, .int v5), (6, .int v6)] [] (ST x m) 0 0 (EQ (some (.int r)) (ST z m)) := by
  intro n
  induction n with
  | zero => intro v2 v3 v4 v5 v6 x r z  hF; exact absurd hF (fun q => by cases q)
  | succ n ih =>
    intro v2 v3 v4 v5 v6 x r z  hF
    exact SB_X2_runs_6 hd hs_s_X2_own hs_s_X2_runs hs_s_X2_ofHole hs_s_X2_ofUnder (fun v2 v3 v4 v5 v6 x r z  hF => ih v2 v3 v4 v5 v6 x r z  hF) hF
def R_X2_runs (s_X2_own : Int32 → Int32 → Int32 → MX → Option (Int32 × MX)) (s_X2_runs : Int32 → Int32 → Int32 → Int32 → MX → Option (Int32 × MX)) (s_X2_ofHole : Int32 → Int32 → Int32 → MX → Option (Int32 × MX)) (s_X2_ofUnder : Int32 → Int32 → Int32 → Int32 → MX → Option (Int32 × MX)) (a1 : Int32) (a2 : Int32) (a3 : Int32) (a4 : Int32) (x : MX) : Option (Int32 × MX) :=
  f_X2_runs_6 s_X2_own s_X2_runs s_X2_ofHole s_X2_ofUnder LF a2 a3 a4 a1 0 x
theorem SR_X2_runs {g : GC} {nn d : Nat} {s_X2_own : Int32 → Int32 → Int32 → MX → Option (Int32 × MX)} {s_X2_runs : Int32 → Int32 → Int32 → Int32 → MX → Option (Int32 × MX)} {s_X2_ofHole : Int32 → Int32 → Int32 → MX → Option (Int32 × MX)} {s_X2_ofUnder : Int32 → Int32 → Int32 → Int32 → MX → Option (Int32 × MX)} {a1 : Int32} {a2 : Int32} {a3 : Int32} {a4 : Int32} {x : MX} {m : MM} {r : Int32} {z : MX} (hd : nn + 3 ≤ d) (hs_s_X2_own : ∀ (d : Nat), nn + 2 ≤ d → ∀ (a1 : Int32) (a2 : Int32) (a3 : Int32) (x : MX) (r : Int32) (z : MX), s_X2_own a1 a2 a3 x = some (r, z) → JC g m_X2_own d 0 0 [.ref 51, .int a1, .int a2, .int a3] (ST x m) (EQ (some (.int r)) (ST z m))) (hs_s_X2_runs : ∀ (d : Nat), nn + 2 ≤ d → ∀ (a1 : Int32) (a2 : Int32) (a3 : Int32) (a4 : Int32) (x : MX) (r : Int32) (z : MX), s_X2_runs a1 a2 a3 a4 x = some (r, z) → JC g m_X2_runs d 0 0 [.ref 51, .int a1, .int a2, .int a3, .int a4] (ST x m) (EQ (some (.int r)) (ST z m))) (hs_s_X2_ofHole : ∀ (d : Nat), nn + 2 ≤ d → ∀ (a1 : Int32) (a2 : Int32) (a3 : Int32) (x : MX) (r : Int32) (z : MX), s_X2_ofHole a1 a2 a3 x = some (r, z) → JC g m_X2_ofHole d 0 0 [.ref 51, .int a1, .int a2, .int a3] (ST x m) (EQ (some (.int r)) (ST z m))) (hs_s_X2_ofUnder : ∀ (d : Nat), nn + 2 ≤ d → ∀ (a1 : Int32) (a2 : Int32) (a3 : Int32) (a4 : Int32) (x : MX) (r : Int32) (z : MX), s_X2_ofUnder a1 a2 a3 a4 x = some (r, z) → JC g m_X2_ofUnder d 0 0 [.ref 51, .int a1, .int a2, .int a3, .int a4] (ST x m) (EQ (some (.int r)) (ST z m))) 
  (hF : R_X2_runs s_X2_own s_X2_runs s_X2_ofHole s_X2_ofUnder a1 a2 a3 a4 x = some (r, z)) : JC g m_X2_runs d 0 0 [.ref 51, .int a1, .int a2, .int a3, .int a4] (ST x m) (EQ (some (.int r)) (ST z m)) := by
  refine JC.of (by decide +kernel) (Nat.le_of_ble_eq_true rfl) ?_
  change J g m_X2_runs d 0 0 0 [(0, .ref 51), (1, .int a1), (2, .int a2), (3, .int a3), (4, .int a4)] [] (ST x m) 0 0 (EQ (some (.int r)) (ST z m))
  unfold R_X2_runs at hF
  refine J_iload_n (j := 1) dX2_runs_0 rfl rfl ?_
  refine J_istore (L' := [(5, .int a1), (0, .ref 51), (1, .int a1), (2, .int a2), (3, .int a3), (4, .int a4)]) dX2_runs_1 (by decide) rfl ?_
  refine J_iconst (v := 0) dX2_runs_3 (by decide) ?_
  refine J_istore (L' := [(6, .int 0), (5, .int a1), (0, .ref 51), (1, .int a1), (2, .int a2), (3, .int a3), (4, .int a4)]) dX2_runs_4 (by decide) rfl ?_
  refine J_sub [2, 4, 5, 6, 1, 0] rfl ?_
  exact Sf_X2_runs_6 hd hs_s_X2_own hs_s_X2_runs hs_s_X2_ofHole hs_s_X2_ofUnder _ _ _ _ _ _ _ _ _ hF
def R_X2_ofHole (s_X2_own : Int32 → Int32 → Int32 → MX → Option (Int32 × MX)) (s_X2_runs : Int32 → Int32 → Int32 → Int32 → MX → Option (Int32 × MX)) (s_X2_ofHole : Int32 → Int32 → Int32 → MX → Option (Int32 × MX)) (s_X2_ofUnder : Int32 → Int32 → Int32 → Int32 → MX → Option (Int32 × MX)) (a1 : Int32) (a2 : Int32) (a3 : Int32) (x : MX) : Option (Int32 × MX) :=
  if a1 = 1 then
  some (a2 + (xi x 51 4), x)
  else
  if a1 = 2 then
  ob2 (s_X2_own 1 a2 a3 x) (fun r3 x4 =>
  ob2 (s_X2_own 2 1 a3 x4) (fun r6 x7 =>
  some (r3 - r6, x7)))
  else
  if a1 = 10 then
  ob2 (s_X2_own 0 a2 a3 x) (fun r10 x11 =>
  some (r10 * 2, x11))
  else
  if a1 = 11 then
  some (a2 ^^^ (xi x 51 4), x)
  else
  some (0, x)
theorem SR_X2_ofHole {g : GC} {nn d : Nat} {s_X2_own : Int32 → Int32 → Int32 → MX → Option (Int32 × MX)} {s_X2_runs : Int32 → Int32 → Int32 → Int32 → MX → Option (Int32 × MX)} {s_X2_ofHole : Int32 → Int32 → Int32 → MX → Option (Int32 × MX)} {s_X2_ofUnder : Int32 → Int32 → Int32 → Int32 → MX → Option (Int32 × MX)} {a1 : Int32} {a2 : Int32} {a3 : Int32} {x : MX} {m : MM} {r : Int32} {z : MX} (hd : nn + 3 ≤ d) (hs_s_X2_own : ∀ (d : Nat), nn + 2 ≤ d → ∀ (a1 : Int32) (a2 : Int32) (a3 : Int32) (x : MX) (r : Int32) (z : MX), s_X2_own a1 a2 a3 x = some (r, z) → JC g m_X2_own d 0 0 [.ref 51, .int a1, .int a2, .int a3] (ST x m) (EQ (some (.int r)) (ST z m))) (hs_s_X2_runs : ∀ (d : Nat), nn + 2 ≤ d → ∀ (a1 : Int32) (a2 : Int32) (a3 : Int32) (a4 : Int32) (x : MX) (r : Int32) (z : MX), s_X2_runs a1 a2 a3 a4 x = some (r, z) → JC g m_X2_runs d 0 0 [.ref 51, .int a1, .int a2, .int a3, .int a4] (ST x m) (EQ (some (.int r)) (ST z m))) (hs_s_X2_ofHole : ∀ (d : Nat), nn + 2 ≤ d → ∀ (a1 : Int32) (a2 : Int32) (a3 : Int32) (x : MX) (r : Int32) (z : MX), s_X2_ofHole a1 a2 a3 x = some (r, z) → JC g m_X2_ofHole d 0 0 [.ref 51, .int a1, .int a2, .int a3] (ST x m) (EQ (some (.int r)) (ST z m))) (hs_s_X2_ofUnder : ∀ (d : Nat), nn + 2 ≤ d → ∀ (a1 : Int32) (a2 : Int32) (a3 : Int32) (a4 : Int32) (x : MX) (r : Int32) (z : MX), s_X2_ofUnder a1 a2 a3 a4 x = some (r, z) → JC g m_X2_ofUnder d 0 0 [.ref 51, .int a1, .int a2, .int a3, .int a4] (ST x m) (EQ (some (.int r)) (ST z m))) 
  (hF : R_X2_ofHole s_X2_own s_X2_runs s_X2_ofHole s_X2_ofUnder a1 a2 a3 x = some (r, z)) : JC g m_X2_ofHole d 0 0 [.ref 51, .int a1, .int a2, .int a3] (ST x m) (EQ (some (.int r)) (ST z m)) := by
  refine JC.of (by decide +kernel) (Nat.le_of_ble_eq_true rfl) ?_
  change J g m_X2_ofHole d 0 0 0 [(0, .ref 51), (1, .int a1), (2, .int a2), (3, .int a3)] [] (ST x m) 0 0 (EQ (some (.int r)) (ST z m))
  unfold R_X2_ofHole at hF
  refine J_iload_n (j := 1) dX2_ofHole_0 rfl rfl ?_
  refine J_lsw (td := 84) (cs := [(1, 44), (2, 68), (10, 51), (11, 61)]) dX2_ofHole_1 (by decide +kernel) (by decide) (by decide) (by decide +kernel) ?_
  refine J_sw (fun q1 => ?_) (fun q1 => ?_)
  · rw [if_pos q1] at hF
    refine J_iload_n (j := 2) dX2_ofHole_44 rfl rfl ?_
    refine J_aload_n (j := 0) dX2_ofHole_45 rfl rfl ?_
    refine JX_getI fl_Holes_32_2 dX2_ofHole_46 c_51 rfl ?_
    refine J_iadd dX2_ofHole_49 ?_
    obtain ⟨e_r, e_z⟩ := someP hF
    subst e_r
    subst e_z
    exact J_ireturn rfl rfl dX2_ofHole_50 ⟨rfl, rfl⟩
  rw [if_neg q1] at hF
  refine J_sw (fun q2 => ?_) (fun q2 => ?_)
  · rw [if_pos q2] at hF
    refine J_aload_n (j := 0) dX2_ofHole_68 rfl rfl ?_
    refine J_iconst (v := 1) dX2_ofHole_69 (by decide) ?_
    refine J_iload_n (j := 2) dX2_ofHole_70 rfl rfl ?_
    refine J_iload_n (j := 3) dX2_ofHole_71 rfl rfl ?_
    obtain ⟨r3, x4, h5, hF⟩ := ob2_some hF
    refine JX_callVi (As := [.int 1, .int a2, .int a3]) (S := []) lkV_Holes_35_X2_own rfl (by decide) dX2_ofHole_72 c_51 (hs_s_X2_own (d - 1) (by omega) _ _ _ _ _ _ h5) (by omega) rfl rfl (Nat.le_of_ble_eq_true rfl) rfl ?_
    refine J_aload_n (j := 0) dX2_ofHole_75 rfl rfl ?_
    refine J_iconst (v := 2) dX2_ofHole_76 (by decide) ?_
    refine J_iconst (v := 1) dX2_ofHole_77 (by decide) ?_
    refine J_iload_n (j := 3) dX2_ofHole_78 rfl rfl ?_
    obtain ⟨r6, x7, h8, hF⟩ := ob2_some hF
    refine JX_callVi (As := [.int 2, .int 1, .int a3]) (S := [.int r3]) lkV_Holes_35_X2_own rfl (by decide) dX2_ofHole_79 c_51 (hs_s_X2_own (d - 1) (by omega) _ _ _ _ _ _ h8) (by omega) rfl rfl (Nat.le_of_ble_eq_true rfl) rfl ?_
    refine J_isub dX2_ofHole_82 ?_
    obtain ⟨e_r, e_z⟩ := someP hF
    subst e_r
    subst e_z
    exact J_ireturn rfl rfl dX2_ofHole_83 ⟨rfl, rfl⟩
  rw [if_neg q2] at hF
  refine J_sw (fun q9 => ?_) (fun q9 => ?_)
  · rw [if_pos q9] at hF
    refine J_aload_n (j := 0) dX2_ofHole_51 rfl rfl ?_
    refine J_iconst (v := 0) dX2_ofHole_52 (by decide) ?_
    refine J_iload_n (j := 2) dX2_ofHole_53 rfl rfl ?_
    refine J_iload_n (j := 3) dX2_ofHole_54 rfl rfl ?_
    obtain ⟨r10, x11, h12, hF⟩ := ob2_some hF
    refine JX_callVi (As := [.int 0, .int a2, .int a3]) (S := []) lkV_Holes_35_X2_own rfl (by decide) dX2_ofHole_55 c_51 (hs_s_X2_own (d - 1) (by omega) _ _ _ _ _ _ h12) (by omega) rfl rfl (Nat.le_of_ble_eq_true rfl) rfl ?_
    refine J_iconst (v := 2) dX2_ofHole_58 (by decide) ?_
    refine J_imul dX2_ofHole_59 ?_
    obtain ⟨e_r, e_z⟩ := someP hF
    subst e_r
    subst e_z
    exact J_ireturn rfl rfl dX2_ofHole_60 ⟨rfl, rfl⟩
  rw [if_neg q9] at hF
  refine J_sw (fun q13 => ?_) (fun q13 => ?_)
  · rw [if_pos q13] at hF
    refine J_iload_n (j := 2) dX2_ofHole_61 rfl rfl ?_
    refine J_aload_n (j := 0) dX2_ofHole_62 rfl rfl ?_
    refine JX_getI fl_Holes_32_2 dX2_ofHole_63 c_51 rfl ?_
    refine J_ixor dX2_ofHole_66 ?_
    obtain ⟨e_r, e_z⟩ := someP hF
    subst e_r
    subst e_z
    exact J_ireturn rfl rfl dX2_ofHole_67 ⟨rfl, rfl⟩
  rw [if_neg q13] at hF
  refine J_swd ?_
  refine J_iconst (v := 0) dX2_ofHole_84 (by decide) ?_
  obtain ⟨e_r, e_z⟩ := someP hF
  subst e_r
  subst e_z
  exact J_ireturn rfl rfl dX2_ofHole_85 ⟨rfl, rfl⟩
def R_X2_ofUnder (s_X2_own : Int32 → Int32 → Int32 → MX → Option (Int32 × MX)) (s_X2_runs : Int32 → Int32 → Int32 → Int32 → MX → Option (Int32 × MX)) (s_X2_ofHole : Int32 → Int32 → Int32 → MX → Option (Int32 × MX)) (s_X2_ofUnder : Int32 → Int32 → Int32 → Int32 → MX → Option (Int32 × MX)) (a1 : Int32) (a2 : Int32) (a3 : Int32) (a4 : Int32) (x : MX) : Option (Int32 × MX) :=
  if a1 = 20 then
  ob2 (s_X2_runs a2 0 a3 a4 x) (fun r2 x3 =>
  some (r2 + 3, x3))
  else
  if a1 = 30 then
  ob2 (s_X2_runs a2 1 a3 a4 x) (fun r6 x7 =>
  some (-r6, x7))
  else
  if a1 = 40 then
  ob2 (s_X2_runs a2 2 a3 a4 x) (fun r10 x11 =>
  some (r10 * 3, x11))
  else
  if a1 = 41 then
  ob2 (s_X2_runs a2 1 (a3 + 1) a4 x) (fun r14 x15 =>
  some (r14, x15))
  else
  if a1 = 50 then
  ob2 (s_X2_runs a2 2 a3 a4 x) (fun r18 x19 =>
  ob2 (s_X2_own 0 2 a4 x19) (fun r21 x22 =>
  some (r18 - r21, x22)))
  else
  if a1 = 60 then
  ob2 (s_X2_runs a2 3 a3 a4 x) (fun r25 x26 =>
  some (r25 ^^^ 5, x26))
  else
  if a1 = 70 then
  ob2 (s_X2_runs a2 0 a3 a4 x) (fun r29 x30 =>
  some (r29 * 2, x30))
  else
  if a1 = 80 then
  ob2 (s_X2_runs a2 1 a3 a4 x) (fun r33 x34 =>
  ob2 (s_X2_own 2 2 a4 x34) (fun r36 x37 =>
  some (r33 + r36, x37)))
  else
  if a1 = 81 then
  ob2 (s_X2_runs a2 3 a3 a4 x) (fun r40 x41 =>
  some (r40 - 1, x41))
  else
  some (0, x)
theorem SR_X2_ofUnder {g : GC} {nn d : Nat} {s_X2_own : Int32 → Int32 → Int32 → MX → Option (Int32 × MX)} {s_X2_runs : Int32 → Int32 → Int32 → Int32 → MX → Option (Int32 × MX)} {s_X2_ofHole : Int32 → Int32 → Int32 → MX → Option (Int32 × MX)} {s_X2_ofUnder : Int32 → Int32 → Int32 → Int32 → MX → Option (Int32 × MX)} {a1 : Int32} {a2 : Int32} {a3 : Int32} {a4 : Int32} {x : MX} {m : MM} {r : Int32} {z : MX} (hd : nn + 3 ≤ d) (hs_s_X2_own : ∀ (d : Nat), nn + 2 ≤ d → ∀ (a1 : Int32) (a2 : Int32) (a3 : Int32) (x : MX) (r : Int32) (z : MX), s_X2_own a1 a2 a3 x = some (r, z) → JC g m_X2_own d 0 0 [.ref 51, .int a1, .int a2, .int a3] (ST x m) (EQ (some (.int r)) (ST z m))) (hs_s_X2_runs : ∀ (d : Nat), nn + 2 ≤ d → ∀ (a1 : Int32) (a2 : Int32) (a3 : Int32) (a4 : Int32) (x : MX) (r : Int32) (z : MX), s_X2_runs a1 a2 a3 a4 x = some (r, z) → JC g m_X2_runs d 0 0 [.ref 51, .int a1, .int a2, .int a3, .int a4] (ST x m) (EQ (some (.int r)) (ST z m))) (hs_s_X2_ofHole : ∀ (d : Nat), nn + 2 ≤ d → ∀ (a1 : Int32) (a2 : Int32) (a3 : Int32) (x : MX) (r : Int32) (z : MX), s_X2_ofHole a1 a2 a3 x = some (r, z) → JC g m_X2_ofHole d 0 0 [.ref 51, .int a1, .int a2, .int a3] (ST x m) (EQ (some (.int r)) (ST z m))) (hs_s_X2_ofUnder : ∀ (d : Nat), nn + 2 ≤ d → ∀ (a1 : Int32) (a2 : Int32) (a3 : Int32) (a4 : Int32) (x : MX) (r : Int32) (z : MX), s_X2_ofUnder a1 a2 a3 a4 x = some (r, z) → JC g m_X2_ofUnder d 0 0 [.ref 51, .int a1, .int a2, .int a3, .int a4] (ST x m) (EQ (some (.int r)) (ST z m))) 
  (hF : R_X2_ofUnder s_X2_own s_X2_runs s_X2_ofHole s_X2_ofUnder a1 a2 a3 a4 x = some (r, z)) : JC g m_X2_ofUnder d 0 0 [.ref 51, .int a1, .int a2, .int a3, .int a4] (ST x m) (EQ (some (.int r)) (ST z m)) := by
  refine JC.of (by decide +kernel) (Nat.le_of_ble_eq_true rfl) ?_
  change J g m_X2_ofUnder d 0 0 0 [(0, .ref 51), (1, .int a1), (2, .int a2), (3, .int a3), (4, .int a4)] [] (ST x m) 0 0 (EQ (some (.int r)) (ST z m))
  unfold R_X2_ofUnder at hF
  refine J_iload_n (j := 1) dX2_ofUnder_0 rfl rfl ?_
  refine J_lsw (td := 205) (cs := [(20, 84), (30, 96), (40, 107), (41, 119), (50, 131), (60, 150), (70, 162), (80, 174), (81, 193)]) dX2_ofUnder_1 (by decide +kernel) (by decide) (by decide) (by decide +kernel) ?_
  refine J_sw (fun q1 => ?_) (fun q1 => ?_)
  · rw [if_pos q1] at hF
    refine J_aload_n (j := 0) dX2_ofUnder_84 rfl rfl ?_
    refine J_iload_n (j := 2) dX2_ofUnder_85 rfl rfl ?_
    refine J_iconst (v := 0) dX2_ofUnder_86 (by decide) ?_
    refine J_iload_n (j := 3) dX2_ofUnder_87 rfl rfl ?_
    refine J_iload (j := 4) dX2_ofUnder_88 rfl ?_
    obtain ⟨r2, x3, h4, hF⟩ := ob2_some hF
    refine JX_callVi (As := [.int a2, .int 0, .int a3, .int a4]) (S := []) lkV_Holes_39_X2_runs rfl (by decide) dX2_ofUnder_90 c_51 (hs_s_X2_runs (d - 1) (by omega) _ _ _ _ _ _ _ h4) (by omega) rfl rfl (Nat.le_of_ble_eq_true rfl) rfl ?_
    refine J_iconst (v := 3) dX2_ofUnder_93 (by decide) ?_
    refine J_iadd dX2_ofUnder_94 ?_
    obtain ⟨e_r, e_z⟩ := someP hF
    subst e_r
    subst e_z
    exact J_ireturn rfl rfl dX2_ofUnder_95 ⟨rfl, rfl⟩
  rw [if_neg q1] at hF
  refine J_sw (fun q5 => ?_) (fun q5 => ?_)
  · rw [if_pos q5] at hF
    refine J_aload_n (j := 0) dX2_ofUnder_96 rfl rfl ?_
    refine J_iload_n (j := 2) dX2_ofUnder_97 rfl rfl ?_
    refine J_iconst (v := 1) dX2_ofUnder_98 (by decide) ?_
    refine J_iload_n (j := 3) dX2_ofUnder_99 rfl rfl ?_
    refine J_iload (j := 4) dX2_ofUnder_100 rfl ?_
    obtain ⟨r6, x7, h8, hF⟩ := ob2_some hF
    refine JX_callVi (As := [.int a2, .int 1, .int a3, .int a4]) (S := []) lkV_Holes_39_X2_runs rfl (by decide) dX2_ofUnder_102 c_51 (hs_s_X2_runs (d - 1) (by omega) _ _ _ _ _ _ _ h8) (by omega) rfl rfl (Nat.le_of_ble_eq_true rfl) rfl ?_
    refine J_ineg dX2_ofUnder_105 ?_
    obtain ⟨e_r, e_z⟩ := someP hF
    subst e_r
    subst e_z
    exact J_ireturn rfl rfl dX2_ofUnder_106 ⟨rfl, rfl⟩
  rw [if_neg q5] at hF
  refine J_sw (fun q9 => ?_) (fun q9 => ?_)
  · rw [if_pos q9] at hF
    refine J_aload_n (j := 0) dX2_ofUnder_107 rfl rfl ?_
    refine J_iload_n (j := 2) dX2_ofUnder_108 rfl rfl ?_
    refine J_iconst (v := 2) dX2_ofUnder_109 (by decide) ?_
    refine J_iload_n (j := 3) dX2_ofUnder_110 rfl rfl ?_
    refine J_iload (j := 4) dX2_ofUnder_111 rfl ?_
    obtain ⟨r10, x11, h12, hF⟩ := ob2_some hF
    refine JX_callVi (As := [.int a2, .int 2, .int a3, .int a4]) (S := []) lkV_Holes_39_X2_runs rfl (by decide) dX2_ofUnder_113 c_51 (hs_s_X2_runs (d - 1) (by omega) _ _ _ _ _ _ _ h12) (by omega) rfl rfl (Nat.le_of_ble_eq_true rfl) rfl ?_
    refine J_iconst (v := 3) dX2_ofUnder_116 (by decide) ?_
    refine J_imul dX2_ofUnder_117 ?_
    obtain ⟨e_r, e_z⟩ := someP hF
    subst e_r
    subst e_z
    exact J_ireturn rfl rfl dX2_ofUnder_118 ⟨rfl, rfl⟩
  rw [if_neg q9] at hF
  refine J_sw (fun q13 => ?_) (fun q13 => ?_)
  · rw [if_pos q13] at hF
    refine J_aload_n (j := 0) dX2_ofUnder_119 rfl rfl ?_
    refine J_iload_n (j := 2) dX2_ofUnder_120 rfl rfl ?_
    refine J_iconst (v := 1) dX2_ofUnder_121 (by decide) ?_
    refine J_iload_n (j := 3) dX2_ofUnder_122 rfl rfl ?_
    refine J_iconst (v := 1) dX2_ofUnder_123 (by decide) ?_
    refine J_iadd dX2_ofUnder_124 ?_
    refine J_iload (j := 4) dX2_ofUnder_125 rfl ?_
    obtain ⟨r14, x15, h16, hF⟩ := ob2_some hF
    refine JX_callVi (As := [.int a2, .int 1, .int (a3 + 1), .int a4]) (S := []) lkV_Holes_39_X2_runs rfl (by decide) dX2_ofUnder_127 c_51 (hs_s_X2_runs (d - 1) (by omega) _ _ _ _ _ _ _ h16) (by omega) rfl rfl (Nat.le_of_ble_eq_true rfl) rfl ?_
    obtain ⟨e_r, e_z⟩ := someP hF
    subst e_r
    subst e_z
    exact J_ireturn rfl rfl dX2_ofUnder_130 ⟨rfl, rfl⟩
  rw [if_neg q13] at hF
  refine J_sw (fun q17 => ?_) (fun q17 => ?_)
  · rw [if_pos q17] at hF
    refine J_aload_n (j := 0) dX2_ofUnder_131 rfl rfl ?_
    refine J_iload_n (j := 2) dX2_ofUnder_132 rfl rfl ?_
    refine J_iconst (v := 2) dX2_ofUnder_133 (by decide) ?_
    refine J_iload_n (j := 3) dX2_ofUnder_134 rfl rfl ?_
    refine J_iload (j := 4) dX2_ofUnder_135 rfl ?_
    obtain ⟨r18, x19, h20, hF⟩ := ob2_some hF
    refine JX_callVi (As := [.int a2, .int 2, .int a3, .int a4]) (S := []) lkV_Holes_39_X2_runs rfl (by decide) dX2_ofUnder_137 c_51 (hs_s_X2_runs (d - 1) (by omega) _ _ _ _ _ _ _ h20) (by omega) rfl rfl (Nat.le_of_ble_eq_true rfl) rfl ?_
    refine J_aload_n (j := 0) dX2_ofUnder_140 rfl rfl ?_
    refine J_iconst (v := 0) dX2_ofUnder_141 (by decide) ?_
    refine J_iconst (v := 2) dX2_ofUnder_142 (by decide) ?_
    refine J_iload (j := 4) dX2_ofUnder_143 rfl ?_
    obtain ⟨r21, x22, h23, hF⟩ := ob2_some hF
    refine JX_callVi (As := [.int 0, .int 2, .int a4]) (S := [.int r18]) lkV_Holes_35_X2_own rfl (by decide) dX2_ofUnder_145 c_51 (hs_s_X2_own (d - 1) (by omega) _ _ _ _ _ _ h23) (by omega) rfl rfl (Nat.le_of_ble_eq_true rfl) rfl ?_
    refine J_isub dX2_ofUnder_148 ?_
    obtain ⟨e_r, e_z⟩ := someP hF
    subst e_r
    subst e_z
    exact J_ireturn rfl rfl dX2_ofUnder_149 ⟨rfl, rfl⟩
  rw [if_neg q17] at hF
  refine J_sw (fun q24 => ?_) (fun q24 => ?_)
  · rw [if_pos q24] at hF
    refine J_aload_n (j := 0) dX2_ofUnder_150 rfl rfl ?_
    refine J_iload_n (j := 2) dX2_ofUnder_151 rfl rfl ?_
    refine J_iconst (v := 3) dX2_ofUnder_152 (by decide) ?_
    refine J_iload_n (j := 3) dX2_ofUnder_153 rfl rfl ?_
    refine J_iload (j := 4) dX2_ofUnder_154 rfl ?_
    obtain ⟨r25, x26, h27, hF⟩ := ob2_some hF
    refine JX_callVi (As := [.int a2, .int 3, .int a3, .int a4]) (S := []) lkV_Holes_39_X2_runs rfl (by decide) dX2_ofUnder_156 c_51 (hs_s_X2_runs (d - 1) (by omega) _ _ _ _ _ _ _ h27) (by omega) rfl rfl (Nat.le_of_ble_eq_true rfl) rfl ?_
    refine J_iconst (v := 5) dX2_ofUnder_159 (by decide) ?_
    refine J_ixor dX2_ofUnder_160 ?_
    obtain ⟨e_r, e_z⟩ := someP hF
    subst e_r
    subst e_z
    exact J_ireturn rfl rfl dX2_ofUnder_161 ⟨rfl, rfl⟩
  rw [if_neg q24] at hF
  refine J_sw (fun q28 => ?_) (fun q28 => ?_)
  · rw [if_pos q28] at hF
    refine J_aload_n (j := 0) dX2_ofUnder_162 rfl rfl ?_
    refine J_iload_n (j := 2) dX2_ofUnder_163 rfl rfl ?_
    refine J_iconst (v := 0) dX2_ofUnder_164 (by decide) ?_
    refine J_iload_n (j := 3) dX2_ofUnder_165 rfl rfl ?_
    refine J_iload (j := 4) dX2_ofUnder_166 rfl ?_
    obtain ⟨r29, x30, h31, hF⟩ := ob2_some hF
    refine JX_callVi (As := [.int a2, .int 0, .int a3, .int a4]) (S := []) lkV_Holes_39_X2_runs rfl (by decide) dX2_ofUnder_168 c_51 (hs_s_X2_runs (d - 1) (by omega) _ _ _ _ _ _ _ h31) (by omega) rfl rfl (Nat.le_of_ble_eq_true rfl) rfl ?_
    refine J_iconst (v := 2) dX2_ofUnder_171 (by decide) ?_
    refine J_imul dX2_ofUnder_172 ?_
    obtain ⟨e_r, e_z⟩ := someP hF
    subst e_r
    subst e_z
    exact J_ireturn rfl rfl dX2_ofUnder_173 ⟨rfl, rfl⟩
  rw [if_neg q28] at hF
  refine J_sw (fun q32 => ?_) (fun q32 => ?_)
  · rw [if_pos q32] at hF
    refine J_aload_n (j := 0) dX2_ofUnder_174 rfl rfl ?_
    refine J_iload_n (j := 2) dX2_ofUnder_175 rfl rfl ?_
    refine J_iconst (v := 1) dX2_ofUnder_176 (by decide) ?_
    refine J_iload_n (j := 3) dX2_ofUnder_177 rfl rfl ?_
    refine J_iload (j := 4) dX2_ofUnder_178 rfl ?_
    obtain ⟨r33, x34, h35, hF⟩ := ob2_some hF
    refine JX_callVi (As := [.int a2, .int 1, .int a3, .int a4]) (S := []) lkV_Holes_39_X2_runs rfl (by decide) dX2_ofUnder_180 c_51 (hs_s_X2_runs (d - 1) (by omega) _ _ _ _ _ _ _ h35) (by omega) rfl rfl (Nat.le_of_ble_eq_true rfl) rfl ?_
    refine J_aload_n (j := 0) dX2_ofUnder_183 rfl rfl ?_
    refine J_iconst (v := 2) dX2_ofUnder_184 (by decide) ?_
    refine J_iconst (v := 2) dX2_ofUnder_185 (by decide) ?_
    refine J_iload (j := 4) dX2_ofUnder_186 rfl ?_
    obtain ⟨r36, x37, h38, hF⟩ := ob2_some hF
    refine JX_callVi (As := [.int 2, .int 2, .int a4]) (S := [.int r33]) lkV_Holes_35_X2_own rfl (by decide) dX2_ofUnder_188 c_51 (hs_s_X2_own (d - 1) (by omega) _ _ _ _ _ _ h38) (by omega) rfl rfl (Nat.le_of_ble_eq_true rfl) rfl ?_
    refine J_iadd dX2_ofUnder_191 ?_
    obtain ⟨e_r, e_z⟩ := someP hF
    subst e_r
    subst e_z
    exact J_ireturn rfl rfl dX2_ofUnder_192 ⟨rfl, rfl⟩
  rw [if_neg q32] at hF
  refine J_sw (fun q39 => ?_) (fun q39 => ?_)
  · rw [if_pos q39] at hF
    refine J_aload_n (j := 0) dX2_ofUnder_193 rfl rfl ?_
    refine J_iload_n (j := 2) dX2_ofUnder_194 rfl rfl ?_
    refine J_iconst (v := 3) dX2_ofUnder_195 (by decide) ?_
    refine J_iload_n (j := 3) dX2_ofUnder_196 rfl rfl ?_
    refine J_iload (j := 4) dX2_ofUnder_197 rfl ?_
    obtain ⟨r40, x41, h42, hF⟩ := ob2_some hF
    refine JX_callVi (As := [.int a2, .int 3, .int a3, .int a4]) (S := []) lkV_Holes_39_X2_runs rfl (by decide) dX2_ofUnder_199 c_51 (hs_s_X2_runs (d - 1) (by omega) _ _ _ _ _ _ _ h42) (by omega) rfl rfl (Nat.le_of_ble_eq_true rfl) rfl ?_
    refine J_iconst (v := 1) dX2_ofUnder_202 (by decide) ?_
    refine J_isub dX2_ofUnder_203 ?_
    obtain ⟨e_r, e_z⟩ := someP hF
    subst e_r
    subst e_z
    exact J_ireturn rfl rfl dX2_ofUnder_204 ⟨rfl, rfl⟩
  rw [if_neg q39] at hF
  refine J_swd ?_
  refine J_iconst (v := 0) dX2_ofUnder_205 (by decide) ?_
  obtain ⟨e_r, e_z⟩ := someP hF
  subst e_r
  subst e_z
  exact J_ireturn rfl rfl dX2_ofUnder_206 ⟨rfl, rfl⟩
def G_X2_own : Nat → (Int32 → Int32 → Int32 → MX → Option (Int32 × MX)) × (Int32 → Int32 → Int32 → Int32 → MX → Option (Int32 × MX)) × (Int32 → Int32 → Int32 → MX → Option (Int32 × MX)) × (Int32 → Int32 → Int32 → Int32 → MX → Option (Int32 × MX))
  | 0 => (fun _ _ _ _ => none, fun _ _ _ _ _ => none, fun _ _ _ _ => none, fun _ _ _ _ _ => none)
  | n + 1 => (R_X2_own (G_X2_own n).1 (G_X2_own n).2.1 (G_X2_own n).2.2.1 (G_X2_own n).2.2.2, R_X2_runs (G_X2_own n).1 (G_X2_own n).2.1 (G_X2_own n).2.2.1 (G_X2_own n).2.2.2, R_X2_ofHole (G_X2_own n).1 (G_X2_own n).2.1 (G_X2_own n).2.2.1 (G_X2_own n).2.2.2, R_X2_ofUnder (G_X2_own n).1 (G_X2_own n).2.1 (G_X2_own n).2.2.1 (G_X2_own n).2.2.2)
theorem SG_X2_own {g : GC} {m : MM} : ∀ n : Nat, (∀ (d : Nat), n + 2 ≤ d → ∀ (a1 : Int32) (a2 : Int32) (a3 : Int32) (x : MX) (r : Int32) (z : MX), (G_X2_own n).1 a1 a2 a3 x = some (r, z) → JC g m_X2_own d 0 0 [.ref 51, .int a1, .int a2, .int a3] (ST x m) (EQ (some (.int r)) (ST z m))) ∧ (∀ (d : Nat), n + 2 ≤ d → ∀ (a1 : Int32) (a2 : Int32) (a3 : Int32) (a4 : Int32) (x : MX) (r : Int32) (z : MX), (G_X2_own n).2.1 a1 a2 a3 a4 x = some (r, z) → JC g m_X2_runs d 0 0 [.ref 51, .int a1, .int a2, .int a3, .int a4] (ST x m) (EQ (some (.int r)) (ST z m))) ∧ (∀ (d : Nat), n + 2 ≤ d → ∀ (a1 : Int32) (a2 : Int32) (a3 : Int32) (x : MX) (r : Int32) (z : MX), (G_X2_own n).2.2.1 a1 a2 a3 x = some (r, z) → JC g m_X2_ofHole d 0 0 [.ref 51, .int a1, .int a2, .int a3] (ST x m) (EQ (some (.int r)) (ST z m))) ∧ (∀ (d : Nat), n + 2 ≤ d → ∀ (a1 : Int32) (a2 : Int32) (a3 : Int32) (a4 : Int32) (x : MX) (r : Int32) (z : MX), (G_X2_own n).2.2.2 a1 a2 a3 a4 x = some (r, z) → JC g m_X2_ofUnder d 0 0 [.ref 51, .int a1, .int a2, .int a3, .int a4] (ST x m) (EQ (some (.int r)) (ST z m))) := by
  intro n
  induction n with
  | zero =>
    exact ⟨fun d hd _ _ _ _ _ _ hF => absurd hF (fun q => by cases q), fun d hd _ _ _ _ _ _ _ hF => absurd hF (fun q => by cases q), fun d hd _ _ _ _ _ _ hF => absurd hF (fun q => by cases q), fun d hd _ _ _ _ _ _ _ hF => absurd hF (fun q => by cases q)⟩
  | succ n ih =>
    exact ⟨fun d hd _ _ _ _ _ _  hF => SR_X2_own (nn := n) (by omega) ih.1 ih.2.1 ih.2.2.1 ih.2.2.2  hF, fun d hd _ _ _ _ _ _ _  hF => SR_X2_runs (nn := n) (by omega) ih.1 ih.2.1 ih.2.2.1 ih.2.2.2  hF, fun d hd _ _ _ _ _ _  hF => SR_X2_ofHole (nn := n) (by omega) ih.1 ih.2.1 ih.2.2.1 ih.2.2.2  hF, fun d hd _ _ _ _ _ _ _  hF => SR_X2_ofUnder (nn := n) (by omega) ih.1 ih.2.1 ih.2.2.1 ih.2.2.2  hF⟩
def f_X2_own (a1 : Int32) (a2 : Int32) (a3 : Int32) (x : MX) : Option (Int32 × MX) := (G_X2_own RF).1 a1 a2 a3 x
theorem S_X2_own {g : GC} {d : Nat} {a1 : Int32} {a2 : Int32} {a3 : Int32} {x : MX} {m : MM} {r : Int32} {z : MX} (hd : 102 ≤ d) 
  (hF : f_X2_own a1 a2 a3 x = some (r, z)) : JC g m_X2_own d 0 0 [.ref 51, .int a1, .int a2, .int a3] (ST x m) (EQ (some (.int r)) (ST z m)) := (SG_X2_own RF).1 d (by unfold RF; omega) _ _ _ _ _ _  hF
def f_X2_runs (a1 : Int32) (a2 : Int32) (a3 : Int32) (a4 : Int32) (x : MX) : Option (Int32 × MX) := (G_X2_own RF).2.1 a1 a2 a3 a4 x
theorem S_X2_runs {g : GC} {d : Nat} {a1 : Int32} {a2 : Int32} {a3 : Int32} {a4 : Int32} {x : MX} {m : MM} {r : Int32} {z : MX} (hd : 102 ≤ d) 
  (hF : f_X2_runs a1 a2 a3 a4 x = some (r, z)) : JC g m_X2_runs d 0 0 [.ref 51, .int a1, .int a2, .int a3, .int a4] (ST x m) (EQ (some (.int r)) (ST z m)) := (SG_X2_own RF).2.1 d (by unfold RF; omega) _ _ _ _ _ _ _  hF
def f_X2_ofHole (a1 : Int32) (a2 : Int32) (a3 : Int32) (x : MX) : Option (Int32 × MX) := (G_X2_own RF).2.2.1 a1 a2 a3 x
theorem S_X2_ofHole {g : GC} {d : Nat} {a1 : Int32} {a2 : Int32} {a3 : Int32} {x : MX} {m : MM} {r : Int32} {z : MX} (hd : 102 ≤ d) 
  (hF : f_X2_ofHole a1 a2 a3 x = some (r, z)) : JC g m_X2_ofHole d 0 0 [.ref 51, .int a1, .int a2, .int a3] (ST x m) (EQ (some (.int r)) (ST z m)) := (SG_X2_own RF).2.2.1 d (by unfold RF; omega) _ _ _ _ _ _  hF
def f_X2_ofUnder (a1 : Int32) (a2 : Int32) (a3 : Int32) (a4 : Int32) (x : MX) : Option (Int32 × MX) := (G_X2_own RF).2.2.2 a1 a2 a3 a4 x
theorem S_X2_ofUnder {g : GC} {d : Nat} {a1 : Int32} {a2 : Int32} {a3 : Int32} {a4 : Int32} {x : MX} {m : MM} {r : Int32} {z : MX} (hd : 102 ≤ d) 
  (hF : f_X2_ofUnder a1 a2 a3 a4 x = some (r, z)) : JC g m_X2_ofUnder d 0 0 [.ref 51, .int a1, .int a2, .int a3, .int a4] (ST x m) (EQ (some (.int r)) (ST z m)) := (SG_X2_own RF).2.2.2 d (by unfold RF; omega) _ _ _ _ _ _ _  hF
