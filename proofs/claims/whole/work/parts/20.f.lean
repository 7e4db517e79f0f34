def f_X8_canBe (a0 : Int32) (a1 : Int32) : Option Bool :=
  if inb a0 13 = true then
  if a1 < ((SA 0).getD (ix a0) 0) then
  some false
  else
  if ((SA 1).getD (ix a0) 0) < a1 then
  some false
  else
  some true
  else none
theorem S_X8_canBe {g : GC} {d : Nat} {a0 : Int32} {a1 : Int32} {x : MX} {m : MM} {r : Bool} (hd : 1 ≤ d) 
  (hF : f_X8_canBe a0 a1 = some r) : JC g m_X8_canBe d 0 0 [.int a0, .int a1] (ST x m) (EQ (some (.int (b2i r))) (ST x m)) := by
  refine JC.of (by decide +kernel) (Nat.le_of_ble_eq_true rfl) ?_
  change J g m_X8_canBe d 0 0 0 [(0, .int a0), (1, .int a1)] [] (ST x m) 0 0 (EQ (some (.int (b2i r))) (ST x m))
  unfold f_X8_canBe at hF
  refine J_iload_n (j := 1) dX8_canBe_0 rfl rfl ?_
  refine J_gets (j := 0) (by decide) (tb 363 (by decide +kernel)) dX8_canBe_1 ?_
  refine J_iload_n (j := 0) dX8_canBe_4 rfl rfl ?_
  obtain ⟨b1, hF⟩ := chk hF
  refine J_ialdS (v := (SA 0).getD (ix a0) 0) (by decide) dX8_canBe_5 (inb_vp b1) rfl ?_
  refine J_icmp_lt (tgt := 22) dX8_canBe_6 (by decide) (fun q2 => ?_) (fun q2 => ?_)
  · rw [if_pos q2] at hF
    refine J_iconst (v := 0) dX8_canBe_22 (by decide) ?_
    have e_r := Option.some.inj hF
    subst e_r
    exact J_ireturn rfl rfl dX8_canBe_23 ⟨rfl, rfl⟩
  · rw [if_neg q2] at hF
    refine J_iload_n (j := 1) dX8_canBe_9 rfl rfl ?_
    refine J_gets (j := 1) (by decide) (tb 365 (by decide +kernel)) dX8_canBe_10 ?_
    refine J_iload_n (j := 0) dX8_canBe_13 rfl rfl ?_
    refine J_ialdS (v := (SA 1).getD (ix a0) 0) (by decide) dX8_canBe_14 (inb_vp b1) rfl ?_
    refine J_icmp_gt (tgt := 22) dX8_canBe_15 (by decide) (fun q3 => ?_) (fun q3 => ?_)
    · rw [if_pos q3] at hF
      refine J_iconst (v := 0) dX8_canBe_22 (by decide) ?_
      have e_r := Option.some.inj hF
      subst e_r
      exact J_ireturn rfl rfl dX8_canBe_23 ⟨rfl, rfl⟩
    · rw [if_neg q3] at hF
      refine J_iconst (v := 1) dX8_canBe_18 (by decide) ?_
      refine J_goto (tgt := 23) dX8_canBe_19 (by decide) ?_
      have e_r := Option.some.inj hF
      subst e_r
      exact J_ireturn rfl rfl dX8_canBe_23 ⟨rfl, rfl⟩
def f_X8_link (a1 : Int32) (a2 : Int32) (x : MX) : Option (Int32 × MX) :=
  ob (f_X8_canBe 0 a1) (fun r1 =>
  if r1 = true then
  ob (f_X8_canBe 1 a2) (fun r4 =>
  if r4 = true then
  if (xi x 5 12) < 6 then
  if inb (xi x 5 12) 8 = true then
  letx (xs x 7 (ix (xi x 5 12)) a1) (fun x9 =>
  if inb (xi x9 5 12) 8 = true then
  letx (xs x9 8 (ix (xi x9 5 12)) a2) (fun x11 =>
  letx (xs x11 5 12 ((xi x11 5 12) + 1)) (fun x12 =>
  some (xi x11 5 12, x12)))
  else none)
  else none
  else
  some ((-3), x)
  else
  some ((-1), x))
  else
  some ((-1), x))
theorem S_X8_link {g : GC} {d : Nat} {a1 : Int32} {a2 : Int32} {x : MX} {m : MM} {r : Int32} {z : MX} (hd : 2 ≤ d) 
  (hF : f_X8_link a1 a2 x = some (r, z)) : JC g m_X8_link d 0 0 [.ref 5, .int a1, .int a2] (ST x m) (EQ (some (.int r)) (ST z m)) := by
  refine JC.of (by decide +kernel) (Nat.le_of_ble_eq_true rfl) ?_
  change J g m_X8_link d 0 0 0 [(0, .ref 5), (1, .int a1), (2, .int a2)] [] (ST x m) 0 0 (EQ (some (.int r)) (ST z m))
  unfold f_X8_link at hF
  refine J_iconst (v := 0) dX8_link_0 (by decide) ?_
  refine J_iload_n (j := 1) dX8_link_1 rfl rfl ?_
  obtain ⟨r1, h2, hF⟩ := ob_some hF
  refine J_callSi (As := [.int 0, .int a1]) (S := []) lkS_WithOneHand_76_X8_canBe dX8_link_2 (S_X8_canBe (by omega) h2) (by omega) rfl rfl (Nat.le_of_ble_eq_true rfl) rfl ?_
  refine J_ifb_eq (tgt := 16) dX8_link_5 (by decide) (fun q3 => ?_) (fun q3 => ?_)
  · rw [if_neg q3] at hF
    refine J_iconst (v := (-1)) dX8_link_16 (by decide) ?_
    obtain ⟨e_r, e_z⟩ := someP hF
    subst e_r
    subst e_z
    exact J_ireturn rfl rfl dX8_link_17 ⟨rfl, rfl⟩
  · rw [if_pos q3] at hF
    refine J_iconst (v := 1) dX8_link_8 (by decide) ?_
    refine J_iload_n (j := 2) dX8_link_9 rfl rfl ?_
    obtain ⟨r4, h5, hF⟩ := ob_some hF
    refine J_callSi (As := [.int 1, .int a2]) (S := []) lkS_WithOneHand_76_X8_canBe dX8_link_10 (S_X8_canBe (by omega) h5) (by omega) rfl rfl (Nat.le_of_ble_eq_true rfl) rfl ?_
    refine J_ifb_ne (tgt := 18) dX8_link_13 (by decide) (fun q6 => ?_) (fun q6 => ?_)
    · rw [if_pos q6] at hF
      refine J_aload_n (j := 0) dX8_link_18 rfl rfl ?_
      refine JX_getI fl_WithOneHand_80_7 dX8_link_19 c_5 rfl ?_
      refine J_bipush (v := 6) dX8_link_22 (by decide) ?_
      refine J_icmp_lt (tgt := 30) dX8_link_24 (by decide) (fun q7 => ?_) (fun q7 => ?_)
      · rw [if_pos q7] at hF
        refine J_aload_n (j := 0) dX8_link_30 rfl rfl ?_
        refine JX_getR (r := 6) fl_WithOneHand_11_7 dX8_link_31 c_5 rfl rfl ?_
        refine J_iconst (v := 0) dX8_link_34 (by decide) ?_
        refine JX_aald (j := 0) (r := 7) (by decide) dX8_link_35 c_6 (by unfold vp_in; decide) (by decide) rfl ?_
        refine J_aload_n (j := 0) dX8_link_36 rfl rfl ?_
        refine JX_getI fl_WithOneHand_80_7 dX8_link_37 c_5 rfl ?_
        refine J_iload_n (j := 1) dX8_link_40 rfl rfl ?_
        obtain ⟨b8, hF⟩ := chk hF
        obtain ⟨x9, e_x9, hF⟩ := letx_eq hF
        refine JX_iast (j := ix (xi x 5 12)) dX8_link_41 c_7 (inb_vp b8) rfl ?_
        rw [← e_x9]
        refine J_aload_n (j := 0) dX8_link_42 rfl rfl ?_
        refine JX_getR (r := 6) fl_WithOneHand_11_7 dX8_link_43 c_5 rfl rfl ?_
        refine J_iconst (v := 1) dX8_link_46 (by decide) ?_
        refine JX_aald (j := 1) (r := 8) (by decide) dX8_link_47 c_6 (by unfold vp_in; decide) (by decide) rfl ?_
        refine J_aload_n (j := 0) dX8_link_48 rfl rfl ?_
        refine JX_getI fl_WithOneHand_80_7 dX8_link_49 c_5 rfl ?_
        refine J_iload_n (j := 2) dX8_link_52 rfl rfl ?_
        obtain ⟨b10, hF⟩ := chk hF
        obtain ⟨x11, e_x11, hF⟩ := letx_eq hF
        refine JX_iast (j := ix (xi x9 5 12)) dX8_link_53 c_8 (inb_vp b10) rfl ?_
        rw [← e_x11]
        refine J_aload_n (j := 0) dX8_link_54 rfl rfl ?_
        refine J_dup dX8_link_55 rfl ?_
        refine JX_getI fl_WithOneHand_80_7 dX8_link_56 c_5 rfl ?_
        refine J_dup_x1 dX8_link_59 rfl rfl ?_
        refine J_iconst (v := 1) dX8_link_60 (by decide) ?_
        refine J_iadd dX8_link_61 ?_
        obtain ⟨x12, e_x12, hF⟩ := letx_eq hF
        refine JX_putI fl_WithOneHand_80_7 dX8_link_62 c_5 rfl rfl rfl ?_
        rw [← e_x12]
        obtain ⟨e_r, e_z⟩ := someP hF
        subst e_r
        subst e_z
        exact J_ireturn rfl rfl dX8_link_65 ⟨rfl, rfl⟩
      · rw [if_neg q7] at hF
        refine J_bipush (v := (-3)) dX8_link_27 (by decide) ?_
        obtain ⟨e_r, e_z⟩ := someP hF
        subst e_r
        subst e_z
        exact J_ireturn rfl rfl dX8_link_29 ⟨rfl, rfl⟩
    · rw [if_neg q6] at hF
      refine J_iconst (v := (-1)) dX8_link_16 (by decide) ?_
      obtain ⟨e_r, e_z⟩ := someP hF
      subst e_r
      subst e_z
      exact J_ireturn rfl rfl dX8_link_17 ⟨rfl, rfl⟩
def f_X9_isIn (a1 : Int32) (a2 : Int32) (a3 : Int32) : Bool :=
  if a1 < a2 then
  false
  else
  if a3 < a1 then
  false
  else
  true
theorem S_X9_isIn {g : GC} {d : Nat} {a1 : Int32} {a2 : Int32} {a3 : Int32} {x : MX} {m : MM} {r : Bool} (hd : 1 ≤ d) 
  (hF : f_X9_isIn a1 a2 a3 = r) : JC g m_X9_isIn d 0 0 [.ref 80, .int a1, .int a2, .int a3] (ST x m) (EQ (some (.int (b2i r))) (ST x m)) := by
  refine JC.of (by decide +kernel) (Nat.le_of_ble_eq_true rfl) ?_
  change J g m_X9_isIn d 0 0 0 [(0, .ref 80), (1, .int a1), (2, .int a2), (3, .int a3)] [] (ST x m) 0 0 (EQ (some (.int (b2i r))) (ST x m))
  unfold f_X9_isIn at hF
  refine J_iload_n (j := 1) dX9_isIn_0 rfl rfl ?_
  refine J_iload_n (j := 2) dX9_isIn_1 rfl rfl ?_
  refine J_icmp_lt (tgt := 14) dX9_isIn_2 (by decide) (fun q1 => ?_) (fun q1 => ?_)
  · rw [if_pos q1] at hF
    refine J_iconst (v := 0) dX9_isIn_14 (by decide) ?_
    subst hF
    exact J_ireturn rfl rfl dX9_isIn_15 ⟨rfl, rfl⟩
  · rw [if_neg q1] at hF
    refine J_iload_n (j := 1) dX9_isIn_5 rfl rfl ?_
    refine J_iload_n (j := 3) dX9_isIn_6 rfl rfl ?_
    refine J_icmp_gt (tgt := 14) dX9_isIn_7 (by decide) (fun q2 => ?_) (fun q2 => ?_)
    · rw [if_pos q2] at hF
      refine J_iconst (v := 0) dX9_isIn_14 (by decide) ?_
      subst hF
      exact J_ireturn rfl rfl dX9_isIn_15 ⟨rfl, rfl⟩
    · rw [if_neg q2] at hF
      refine J_iconst (v := 1) dX9_isIn_10 (by decide) ?_
      refine J_goto (tgt := 15) dX9_isIn_11 (by decide) ?_
      subst hF
      exact J_ireturn rfl rfl dX9_isIn_15 ⟨rfl, rfl⟩
def f_X9_link (a1 : Int32) (a2 : Int32) (m : MM) : Option (Int32 × MM) :=
  if (f_X9_isIn a1 1 9) = true then
  if (f_X9_isIn a2 0 9) = true then
  if (mi m 80 0) = 6 then
  some ((-3), m)
  else
  if inb (mi m 80 0) 6 = true then
  letx (ms m 81 (ix (mi m 80 0)) a1) (fun m5 =>
  if inb (mi m5 80 0) 6 = true then
  letx (ms m5 82 (ix (mi m5 80 0)) a2) (fun m7 =>
  letx (ms m7 80 0 ((mi m7 80 0) + 1)) (fun m8 =>
  some (mi m7 80 0, m8)))
  else none)
  else none
  else
  some ((-1), m)
  else
  some ((-1), m)
theorem S_X9_link {g : GC} {d : Nat} {a1 : Int32} {a2 : Int32} {x : MX} {m : MM} {r : Int32} {z : MM} (hd : 2 ≤ d) 
  (hF : f_X9_link a1 a2 m = some (r, z)) : JC g m_X9_link d 0 0 [.ref 80, .int a1, .int a2] (ST x m) (EQ (some (.int r)) (ST x z)) := by
  refine JC.of (by decide +kernel) (Nat.le_of_ble_eq_true rfl) ?_
  change J g m_X9_link d 0 0 0 [(0, .ref 80), (1, .int a1), (2, .int a2)] [] (ST x m) 0 0 (EQ (some (.int r)) (ST x z))
  unfold f_X9_link at hF
  refine J_aload_n (j := 0) dX9_link_0 rfl rfl ?_
  refine J_iload_n (j := 1) dX9_link_1 rfl rfl ?_
  refine J_iconst (v := 1) dX9_link_2 (by decide) ?_
  refine J_bipush (v := 9) dX9_link_3 (by decide) ?_
  refine JM_callVi (As := [.int a1, .int 1, .int 9]) (S := []) lkV_WithOneHandModel_114_X9_isIn rfl (by decide) dX9_link_5 c_80 (S_X9_isIn (by omega) rfl) (by omega) rfl rfl (Nat.le_of_ble_eq_true rfl) rfl ?_
  refine J_ifb_eq (tgt := 22) dX9_link_8 (by decide) (fun q1 => ?_) (fun q1 => ?_)
  · rw [if_neg q1] at hF
    refine J_iconst (v := (-1)) dX9_link_22 (by decide) ?_
    obtain ⟨e_r, e_z⟩ := someP hF
    subst e_r
    subst e_z
    exact J_ireturn rfl rfl dX9_link_23 ⟨rfl, rfl⟩
  · rw [if_pos q1] at hF
    refine J_aload_n (j := 0) dX9_link_11 rfl rfl ?_
    refine J_iload_n (j := 2) dX9_link_12 rfl rfl ?_
    refine J_iconst (v := 0) dX9_link_13 (by decide) ?_
    refine J_bipush (v := 9) dX9_link_14 (by decide) ?_
    refine JM_callVi (As := [.int a2, .int 0, .int 9]) (S := []) lkV_WithOneHandModel_114_X9_isIn rfl (by decide) dX9_link_16 c_80 (S_X9_isIn (by omega) rfl) (by omega) rfl rfl (Nat.le_of_ble_eq_true rfl) rfl ?_
    refine J_ifb_ne (tgt := 24) dX9_link_19 (by decide) (fun q2 => ?_) (fun q2 => ?_)
    · rw [if_pos q2] at hF
      refine J_aload_n (j := 0) dX9_link_24 rfl rfl ?_
      refine JM_getI fl_WithOneHandModel_108_8 dX9_link_25 c_80 rfl ?_
      refine J_bipush (v := 6) dX9_link_28 (by decide) ?_
      refine J_icmp_ne (tgt := 36) dX9_link_30 (by decide) (fun q3 => ?_) (fun q3 => ?_)
      · rw [if_neg q3] at hF
        refine J_aload_n (j := 0) dX9_link_36 rfl rfl ?_
        refine JM_getR (r := 81) fl_WithOneHandModel_13_8 dX9_link_37 c_80 rfl rfl ?_
        refine J_aload_n (j := 0) dX9_link_40 rfl rfl ?_
        refine JM_getI fl_WithOneHandModel_108_8 dX9_link_41 c_80 rfl ?_
        refine J_iload_n (j := 1) dX9_link_44 rfl rfl ?_
        obtain ⟨b4, hF⟩ := chk hF
        obtain ⟨m5, e_m5, hF⟩ := letx_eq hF
        refine JM_iast (j := ix (mi m 80 0)) dX9_link_45 c_81 (inb_vp b4) rfl ?_
        rw [← e_m5]
        refine J_aload_n (j := 0) dX9_link_46 rfl rfl ?_
        refine JM_getR (r := 82) fl_WithOneHandModel_17_8 dX9_link_47 c_80 rfl rfl ?_
        refine J_aload_n (j := 0) dX9_link_50 rfl rfl ?_
        refine JM_getI fl_WithOneHandModel_108_8 dX9_link_51 c_80 rfl ?_
        refine J_iload_n (j := 2) dX9_link_54 rfl rfl ?_
        obtain ⟨b6, hF⟩ := chk hF
        obtain ⟨m7, e_m7, hF⟩ := letx_eq hF
        refine JM_iast (j := ix (mi m5 80 0)) dX9_link_55 c_82 (inb_vp b6) rfl ?_
        rw [← e_m7]
        refine J_aload_n (j := 0) dX9_link_56 rfl rfl ?_
        refine J_dup dX9_link_57 rfl ?_
        refine JM_getI fl_WithOneHandModel_108_8 dX9_link_58 c_80 rfl ?_
        refine J_dup_x1 dX9_link_61 rfl rfl ?_
        refine J_iconst (v := 1) dX9_link_62 (by decide) ?_
        refine J_iadd dX9_link_63 ?_
        obtain ⟨m8, e_m8, hF⟩ := letx_eq hF
        refine JM_putI fl_WithOneHandModel_108_8 dX9_link_64 c_80 rfl rfl rfl ?_
        rw [← e_m8]
        obtain ⟨e_r, e_z⟩ := someP hF
        subst e_r
        subst e_z
        exact J_ireturn rfl rfl dX9_link_67 ⟨rfl, rfl⟩
      · rw [if_pos q3] at hF
        refine J_bipush (v := (-3)) dX9_link_33 (by decide) ?_
        obtain ⟨e_r, e_z⟩ := someP hF
        subst e_r
        subst e_z
        exact J_ireturn rfl rfl dX9_link_35 ⟨rfl, rfl⟩
    · rw [if_neg q2] at hF
      refine J_iconst (v := (-1)) dX9_link_22 (by decide) ?_
      obtain ⟨e_r, e_z⟩ := someP hF
      subst e_r
      subst e_z
      exact J_ireturn rfl rfl dX9_link_23 ⟨rfl, rfl⟩
def f_X8_addCuff (a1 : Int32) (a2 : Int32) (a3 : Int32) (x : MX) : Option (Int32 × MX) :=
  if inb (xi x 5 13) 8 = true then
  letx (xs x 9 (ix (xi x 5 13)) a1) (fun x2 =>
  if inb (xi x2 5 13) 8 = true then
  letx (xs x2 10 (ix (xi x2 5 13)) a2) (fun x4 =>
  if inb (xi x4 5 13) 8 = true then
  letx (xs x4 11 (ix (xi x4 5 13)) a3) (fun x6 =>
  if inb (xi x6 5 13) 8 = true then
  letx (xs x6 12 (ix (xi x6 5 13)) 20) (fun x8 =>
  letx (xs x8 5 13 ((xi x8 5 13) + 1)) (fun x9 =>
  some (xi x8 5 13, x9)))
  else none)
  else none)
  else none)
  else none
theorem S_X8_addCuff {g : GC} {d : Nat} {a1 : Int32} {a2 : Int32} {a3 : Int32} {x : MX} {m : MM} {r : Int32} {z : MX} (hd : 1 ≤ d) 
  (hF : f_X8_addCuff a1 a2 a3 x = some (r, z)) : JC g m_X8_addCuff d 0 0 [.ref 5, .int a1, .int a2, .int a3] (ST x m) (EQ (some (.int r)) (ST z m)) := by
  refine JC.of (by decide +kernel) (Nat.le_of_ble_eq_true rfl) ?_
  change J g m_X8_addCuff d 0 0 0 [(0, .ref 5), (1, .int a1), (2, .int a2), (3, .int a3)] [] (ST x m) 0 0 (EQ (some (.int r)) (ST z m))
  unfold f_X8_addCuff at hF
  refine J_aload_n (j := 0) dX8_addCuff_0 rfl rfl ?_
  refine JX_getR (r := 6) fl_WithOneHand_11_7 dX8_addCuff_1 c_5 rfl rfl ?_
  refine J_iconst (v := 2) dX8_addCuff_4 (by decide) ?_
  refine JX_aald (j := 2) (r := 9) (by decide) dX8_addCuff_5 c_6 (by unfold vp_in; decide) (by decide) rfl ?_
  refine J_aload_n (j := 0) dX8_addCuff_6 rfl rfl ?_
  refine JX_getI fl_WithOneHand_84_7 dX8_addCuff_7 c_5 rfl ?_
  refine J_iload_n (j := 1) dX8_addCuff_10 rfl rfl ?_
  obtain ⟨b1, hF⟩ := chk hF
  obtain ⟨x2, e_x2, hF⟩ := letx_eq hF
  refine JX_iast (j := ix (xi x 5 13)) dX8_addCuff_11 c_9 (inb_vp b1) rfl ?_
  rw [← e_x2]
  refine J_aload_n (j := 0) dX8_addCuff_12 rfl rfl ?_
  refine JX_getR (r := 6) fl_WithOneHand_11_7 dX8_addCuff_13 c_5 rfl rfl ?_
  refine J_iconst (v := 3) dX8_addCuff_16 (by decide) ?_
  refine JX_aald (j := 3) (r := 10) (by decide) dX8_addCuff_17 c_6 (by unfold vp_in; decide) (by decide) rfl ?_
  refine J_aload_n (j := 0) dX8_addCuff_18 rfl rfl ?_
  refine JX_getI fl_WithOneHand_84_7 dX8_addCuff_19 c_5 rfl ?_
  refine J_iload_n (j := 2) dX8_addCuff_22 rfl rfl ?_
  obtain ⟨b3, hF⟩ := chk hF
  obtain ⟨x4, e_x4, hF⟩ := letx_eq hF
  refine JX_iast (j := ix (xi x2 5 13)) dX8_addCuff_23 c_10 (inb_vp b3) rfl ?_
  rw [← e_x4]
  refine J_aload_n (j := 0) dX8_addCuff_24 rfl rfl ?_
  refine JX_getR (r := 6) fl_WithOneHand_11_7 dX8_addCuff_25 c_5 rfl rfl ?_
  refine J_iconst (v := 4) dX8_addCuff_28 (by decide) ?_
  refine JX_aald (j := 4) (r := 11) (by decide) dX8_addCuff_29 c_6 (by unfold vp_in; decide) (by decide) rfl ?_
  refine J_aload_n (j := 0) dX8_addCuff_30 rfl rfl ?_
  refine JX_getI fl_WithOneHand_84_7 dX8_addCuff_31 c_5 rfl ?_
  refine J_iload_n (j := 3) dX8_addCuff_34 rfl rfl ?_
  obtain ⟨b5, hF⟩ := chk hF
  obtain ⟨x6, e_x6, hF⟩ := letx_eq hF
  refine JX_iast (j := ix (xi x4 5 13)) dX8_addCuff_35 c_11 (inb_vp b5) rfl ?_
  rw [← e_x6]
  refine J_aload_n (j := 0) dX8_addCuff_36 rfl rfl ?_
  refine JX_getR (r := 6) fl_WithOneHand_11_7 dX8_addCuff_37 c_5 rfl rfl ?_
  refine J_iconst (v := 5) dX8_addCuff_40 (by decide) ?_
  refine JX_aald (j := 5) (r := 12) (by decide) dX8_addCuff_41 c_6 (by unfold vp_in; decide) (by decide) rfl ?_
  refine J_aload_n (j := 0) dX8_addCuff_42 rfl rfl ?_
  refine JX_getI fl_WithOneHand_84_7 dX8_addCuff_43 c_5 rfl ?_
  refine J_bipush (v := 20) dX8_addCuff_46 (by decide) ?_
  obtain ⟨b7, hF⟩ := chk hF
  obtain ⟨x8, e_x8, hF⟩ := letx_eq hF
  refine JX_iast (j := ix (xi x6 5 13)) dX8_addCuff_48 c_12 (inb_vp b7) rfl ?_
  rw [← e_x8]
  refine J_aload_n (j := 0) dX8_addCuff_49 rfl rfl ?_
  refine J_dup dX8_addCuff_50 rfl ?_
  refine JX_getI fl_WithOneHand_84_7 dX8_addCuff_51 c_5 rfl ?_
  refine J_dup_x1 dX8_addCuff_54 rfl rfl ?_
  refine J_iconst (v := 1) dX8_addCuff_55 (by decide) ?_
  refine J_iadd dX8_addCuff_56 ?_
  obtain ⟨x9, e_x9, hF⟩ := letx_eq hF
  refine JX_putI fl_WithOneHand_84_7 dX8_addCuff_57 c_5 rfl rfl rfl ?_
  rw [← e_x9]
  obtain ⟨e_r, e_z⟩ := someP hF
  subst e_r
  subst e_z
  exact J_ireturn rfl rfl dX8_addCuff_60 ⟨rfl, rfl⟩
def f_X8_cuff (a1 : Int32) (a2 : Int32) (x : MX) : Option (Int32 × MX) :=
  ob (f_X8_canBe 2 a1) (fun r1 =>
  if r1 = true then
  ob (f_X8_canBe 3 a2) (fun r4 =>
  if r4 = true then
  if (xi x 5 13) < 6 then
  ob2 (f_X8_addCuff a1 a2 0 x) (fun r8 x9 =>
  some (r8, x9))
  else
  some ((-3), x)
  else
  some ((-1), x))
  else
  some ((-1), x))
theorem S_X8_cuff {g : GC} {d : Nat} {a1 : Int32} {a2 : Int32} {x : MX} {m : MM} {r : Int32} {z : MX} (hd : 2 ≤ d) 
  (hF : f_X8_cuff a1 a2 x = some (r, z)) : JC g m_X8_cuff d 0 0 [.ref 5, .int a1, .int a2] (ST x m) (EQ (some (.int r)) (ST z m)) := by
  refine JC.of (by decide +kernel) (Nat.le_of_ble_eq_true rfl) ?_
  change J g m_X8_cuff d 0 0 0 [(0, .ref 5), (1, .int a1), (2, .int a2)] [] (ST x m) 0 0 (EQ (some (.int r)) (ST z m))
  unfold f_X8_cuff at hF
  refine J_iconst (v := 2) dX8_cuff_0 (by decide) ?_
  refine J_iload_n (j := 1) dX8_cuff_1 rfl rfl ?_
  obtain ⟨r1, h2, hF⟩ := ob_some hF
  refine J_callSi (As := [.int 2, .int a1]) (S := []) lkS_WithOneHand_76_X8_canBe dX8_cuff_2 (S_X8_canBe (by omega) h2) (by omega) rfl rfl (Nat.le_of_ble_eq_true rfl) rfl ?_
  refine J_ifb_eq (tgt := 16) dX8_cuff_5 (by decide) (fun q3 => ?_) (fun q3 => ?_)
  · rw [if_neg q3] at hF
    refine J_iconst (v := (-1)) dX8_cuff_16 (by decide) ?_
    obtain ⟨e_r, e_z⟩ := someP hF
    subst e_r
    subst e_z
    exact J_ireturn rfl rfl dX8_cuff_17 ⟨rfl, rfl⟩
  · rw [if_pos q3] at hF
    refine J_iconst (v := 3) dX8_cuff_8 (by decide) ?_
    refine J_iload_n (j := 2) dX8_cuff_9 rfl rfl ?_
    obtain ⟨r4, h5, hF⟩ := ob_some hF
    refine J_callSi (As := [.int 3, .int a2]) (S := []) lkS_WithOneHand_76_X8_canBe dX8_cuff_10 (S_X8_canBe (by omega) h5) (by omega) rfl rfl (Nat.le_of_ble_eq_true rfl) rfl ?_
    refine J_ifb_ne (tgt := 18) dX8_cuff_13 (by decide) (fun q6 => ?_) (fun q6 => ?_)
    · rw [if_pos q6] at hF
      refine J_aload_n (j := 0) dX8_cuff_18 rfl rfl ?_
      refine JX_getI fl_WithOneHand_84_7 dX8_cuff_19 c_5 rfl ?_
      refine J_bipush (v := 6) dX8_cuff_22 (by decide) ?_
      refine J_icmp_lt (tgt := 30) dX8_cuff_24 (by decide) (fun q7 => ?_) (fun q7 => ?_)
      · rw [if_pos q7] at hF
        refine J_aload_n (j := 0) dX8_cuff_30 rfl rfl ?_
        refine J_iload_n (j := 1) dX8_cuff_31 rfl rfl ?_
        refine J_iload_n (j := 2) dX8_cuff_32 rfl rfl ?_
        refine J_iconst (v := 0) dX8_cuff_33 (by decide) ?_
        obtain ⟨r8, x9, h10, hF⟩ := ob2_some hF
        refine JX_callVi (As := [.int a1, .int a2, .int 0]) (S := []) lkV_WithOneHand_87_X8_addCuff rfl (by decide) dX8_cuff_34 c_5 (S_X8_addCuff (by omega) h10) (by omega) rfl rfl (Nat.le_of_ble_eq_true rfl) rfl ?_
        obtain ⟨e_r, e_z⟩ := someP hF
        subst e_r
        subst e_z
        exact J_ireturn rfl rfl dX8_cuff_37 ⟨rfl, rfl⟩
      · rw [if_neg q7] at hF
        refine J_bipush (v := (-3)) dX8_cuff_27 (by decide) ?_
        obtain ⟨e_r, e_z⟩ := someP hF
        subst e_r
        subst e_z
        exact J_ireturn rfl rfl dX8_cuff_29 ⟨rfl, rfl⟩
    · rw [if_neg q6] at hF
      refine J_iconst (v := (-1)) dX8_cuff_16 (by decide) ?_
      obtain ⟨e_r, e_z⟩ := someP hF
      subst e_r
      subst e_z
      exact J_ireturn rfl rfl dX8_cuff_17 ⟨rfl, rfl⟩
def f_X9_adds (a1 : Int32) (a2 : Int32) (a3 : Int32) (m : MM) : Option (Int32 × MM) :=
  if inb (mi m 80 1) 6 = true then
  letx (ms m 83 (ix (mi m 80 1)) a1) (fun m2 =>
  if inb (mi m2 80 1) 6 = true then
  letx (ms m2 84 (ix (mi m2 80 1)) a2) (fun m4 =>
  if inb (mi m4 80 1) 6 = true then
  letx (ms m4 85 (ix (mi m4 80 1)) a3) (fun m6 =>
  if inb (mi m6 80 1) 6 = true then
  letx (ms m6 86 (ix (mi m6 80 1)) 20) (fun m8 =>
  if inb (mi m8 80 1) 6 = true then
  letx (ms m8 87 (ix (mi m8 80 1)) (-2)) (fun m10 =>
  letx (ms m10 80 1 ((mi m10 80 1) + 1)) (fun m11 =>
  some (mi m10 80 1, m11)))
  else none)
  else none)
  else none)
  else none)
  else none
theorem S_X9_adds {g : GC} {d : Nat} {a1 : Int32} {a2 : Int32} {a3 : Int32} {x : MX} {m : MM} {r : Int32} {z : MM} (hd : 1 ≤ d) 
  (hF : f_X9_adds a1 a2 a3 m = some (r, z)) : JC g m_X9_adds d 0 0 [.ref 80, .int a1, .int a2, .int a3] (ST x m) (EQ (some (.int r)) (ST x z)) := by
  refine JC.of (by decide +kernel) (Nat.le_of_ble_eq_true rfl) ?_
  change J g m_X9_adds d 0 0 0 [(0, .ref 80), (1, .int a1), (2, .int a2), (3, .int a3)] [] (ST x m) 0 0 (EQ (some (.int r)) (ST x z))
  unfold f_X9_adds at hF
  refine J_aload_n (j := 0) dX9_adds_0 rfl rfl ?_
  refine JM_getR (r := 83) fl_WithOneHandModel_20_8 dX9_adds_1 c_80 rfl rfl ?_
  refine J_aload_n (j := 0) dX9_adds_4 rfl rfl ?_
  refine JM_getI fl_WithOneHandModel_111_8 dX9_adds_5 c_80 rfl ?_
  refine J_iload_n (j := 1) dX9_adds_8 rfl rfl ?_
  obtain ⟨b1, hF⟩ := chk hF
  obtain ⟨m2, e_m2, hF⟩ := letx_eq hF
  refine JM_iast (j := ix (mi m 80 1)) dX9_adds_9 c_83 (inb_vp b1) rfl ?_
  rw [← e_m2]
  refine J_aload_n (j := 0) dX9_adds_10 rfl rfl ?_
  refine JM_getR (r := 84) fl_WithOneHandModel_23_8 dX9_adds_11 c_80 rfl rfl ?_
  refine J_aload_n (j := 0) dX9_adds_14 rfl rfl ?_
  refine JM_getI fl_WithOneHandModel_111_8 dX9_adds_15 c_80 rfl ?_
  refine J_iload_n (j := 2) dX9_adds_18 rfl rfl ?_
  obtain ⟨b3, hF⟩ := chk hF
  obtain ⟨m4, e_m4, hF⟩ := letx_eq hF
  refine JM_iast (j := ix (mi m2 80 1)) dX9_adds_19 c_84 (inb_vp b3) rfl ?_
  rw [← e_m4]
  refine J_aload_n (j := 0) dX9_adds_20 rfl rfl ?_
  refine JM_getR (r := 85) fl_WithOneHandModel_26_8 dX9_adds_21 c_80 rfl rfl ?_
  refine J_aload_n (j := 0) dX9_adds_24 rfl rfl ?_
  refine JM_getI fl_WithOneHandModel_111_8 dX9_adds_25 c_80 rfl ?_
  refine J_iload_n (j := 3) dX9_adds_28 rfl rfl ?_
  obtain ⟨b5, hF⟩ := chk hF
  obtain ⟨m6, e_m6, hF⟩ := letx_eq hF
  refine JM_iast (j := ix (mi m4 80 1)) dX9_adds_29 c_85 (inb_vp b5) rfl ?_
  rw [← e_m6]
  refine J_aload_n (j := 0) dX9_adds_30 rfl rfl ?_
  refine JM_getR (r := 86) fl_WithOneHandModel_29_8 dX9_adds_31 c_80 rfl rfl ?_
  refine J_aload_n (j := 0) dX9_adds_34 rfl rfl ?_
  refine JM_getI fl_WithOneHandModel_111_8 dX9_adds_35 c_80 rfl ?_
  refine J_bipush (v := 20) dX9_adds_38 (by decide) ?_
  obtain ⟨b7, hF⟩ := chk hF
  obtain ⟨m8, e_m8, hF⟩ := letx_eq hF
  refine JM_iast (j := ix (mi m6 80 1)) dX9_adds_40 c_86 (inb_vp b7) rfl ?_
  rw [← e_m8]
  refine J_aload_n (j := 0) dX9_adds_41 rfl rfl ?_
  refine JM_getR (r := 87) fl_WithOneHandModel_32_8 dX9_adds_42 c_80 rfl rfl ?_
  refine J_aload_n (j := 0) dX9_adds_45 rfl rfl ?_
  refine JM_getI fl_WithOneHandModel_111_8 dX9_adds_46 c_80 rfl ?_
  refine J_bipush (v := (-2)) dX9_adds_49 (by decide) ?_
  obtain ⟨b9, hF⟩ := chk hF
  obtain ⟨m10, e_m10, hF⟩ := letx_eq hF
  refine JM_iast (j := ix (mi m8 80 1)) dX9_adds_51 c_87 (inb_vp b9) rfl ?_
  rw [← e_m10]
  refine J_aload_n (j := 0) dX9_adds_52 rfl rfl ?_
  refine J_dup dX9_adds_53 rfl ?_
  refine JM_getI fl_WithOneHandModel_111_8 dX9_adds_54 c_80 rfl ?_
  refine J_dup_x1 dX9_adds_57 rfl rfl ?_
  refine J_iconst (v := 1) dX9_adds_58 (by decide) ?_
  refine J_iadd dX9_adds_59 ?_
  obtain ⟨m11, e_m11, hF⟩ := letx_eq hF
  refine JM_putI fl_WithOneHandModel_111_8 dX9_adds_60 c_80 rfl rfl rfl ?_
  rw [← e_m11]
  obtain ⟨e_r, e_z⟩ := someP hF
  subst e_r
  subst e_z
  exact J_ireturn rfl rfl dX9_adds_63 ⟨rfl, rfl⟩
def f_X9_cuff (a1 : Int32) (a2 : Int32) (m : MM) : Option (Int32 × MM) :=
  if (f_X9_isIn a1 0 9) = true then
  if (f_X9_isIn a2 0 9) = true then
  if (mi m 80 1) = 6 then
  some ((-3), m)
  else
  ob2 (f_X9_adds a1 a2 0 m) (fun r4 m5 =>
  some (r4, m5))
  else
  some ((-1), m)
  else
  some ((-1), m)
theorem S_X9_cuff {g : GC} {d : Nat} {a1 : Int32} {a2 : Int32} {x : MX} {m : MM} {r : Int32} {z : MM} (hd : 2 ≤ d) 
  (hF : f_X9_cuff a1 a2 m = some (r, z)) : JC g m_X9_cuff d 0 0 [.ref 80, .int a1, .int a2] (ST x m) (EQ (some (.int r)) (ST x z)) := by
  refine JC.of (by decide +kernel) (Nat.le_of_ble_eq_true rfl) ?_
  change J g m_X9_cuff d 0 0 0 [(0, .ref 80), (1, .int a1), (2, .int a2)] [] (ST x m) 0 0 (EQ (some (.int r)) (ST x z))
  unfold f_X9_cuff at hF
  refine J_aload_n (j := 0) dX9_cuff_0 rfl rfl ?_
  refine J_iload_n (j := 1) dX9_cuff_1 rfl rfl ?_
  refine J_iconst (v := 0) dX9_cuff_2 (by decide) ?_
  refine J_bipush (v := 9) dX9_cuff_3 (by decide) ?_
  refine JM_callVi (As := [.int a1, .int 0, .int 9]) (S := []) lkV_WithOneHandModel_114_X9_isIn rfl (by decide) dX9_cuff_5 c_80 (S_X9_isIn (by omega) rfl) (by omega) rfl rfl (Nat.le_of_ble_eq_true rfl) rfl ?_
  refine J_ifb_eq (tgt := 22) dX9_cuff_8 (by decide) (fun q1 => ?_) (fun q1 => ?_)
  · rw [if_neg q1] at hF
    refine J_iconst (v := (-1)) dX9_cuff_22 (by decide) ?_
    obtain ⟨e_r, e_z⟩ := someP hF
    subst e_r
    subst e_z
    exact J_ireturn rfl rfl dX9_cuff_23 ⟨rfl, rfl⟩
  · rw [if_pos q1] at hF
    refine J_aload_n (j := 0) dX9_cuff_11 rfl rfl ?_
    refine J_iload_n (j := 2) dX9_cuff_12 rfl rfl ?_
    refine J_iconst (v := 0) dX9_cuff_13 (by decide) ?_
    refine J_bipush (v := 9) dX9_cuff_14 (by decide) ?_
    refine JM_callVi (As := [.int a2, .int 0, .int 9]) (S := []) lkV_WithOneHandModel_114_X9_isIn rfl (by decide) dX9_cuff_16 c_80 (S_X9_isIn (by omega) rfl) (by omega) rfl rfl (Nat.le_of_ble_eq_true rfl) rfl ?_
    refine J_ifb_ne (tgt := 24) dX9_cuff_19 (by decide) (fun q2 => ?_) (fun q2 => ?_)
    · rw [if_pos q2] at hF
      refine J_aload_n (j := 0) dX9_cuff_24 rfl rfl ?_
      refine JM_getI fl_WithOneHandModel_111_8 dX9_cuff_25 c_80 rfl ?_
      refine J_bipush (v := 6) dX9_cuff_28 (by decide) ?_
      refine J_icmp_ne (tgt := 38) dX9_cuff_30 (by decide) (fun q3 => ?_) (fun q3 => ?_)
      · rw [if_neg q3] at hF
        refine J_aload_n (j := 0) dX9_cuff_38 rfl rfl ?_
        refine J_iload_n (j := 1) dX9_cuff_39 rfl rfl ?_
        refine J_iload_n (j := 2) dX9_cuff_40 rfl rfl ?_
        refine J_iconst (v := 0) dX9_cuff_41 (by decide) ?_
        obtain ⟨r4, m5, h6, hF⟩ := ob2_some hF
        refine JM_callVi (As := [.int a1, .int a2, .int 0]) (S := []) lkV_WithOneHandModel_118_X9_adds rfl (by decide) dX9_cuff_42 c_80 (S_X9_adds (by omega) h6) (by omega) rfl rfl (Nat.le_of_ble_eq_true rfl) rfl ?_
        obtain ⟨e_r, e_z⟩ := someP hF
        subst e_r
        subst e_z
        exact J_ireturn rfl rfl dX9_cuff_45 ⟨rfl, rfl⟩
      · rw [if_pos q3] at hF
        refine J_bipush (v := (-3)) dX9_cuff_33 (by decide) ?_
        refine J_goto (tgt := 45) dX9_cuff_35 (by decide) ?_
        obtain ⟨e_r, e_z⟩ := someP hF
        subst e_r
        subst e_z
        exact J_ireturn rfl rfl dX9_cuff_45 ⟨rfl, rfl⟩
    · rw [if_neg q2] at hF
      refine J_iconst (v := (-1)) dX9_cuff_22 (by decide) ?_
      obtain ⟨e_r, e_z⟩ := someP hF
      subst e_r
      subst e_z
      exact J_ireturn rfl rfl dX9_cuff_23 ⟨rfl, rfl⟩
def f_X8_isShelf (a0 : Int32) : Bool :=
  if a0 < 0 then
  false
  else
  if 6 ≤ a0 then
  false
  else
  true
theorem S_X8_isShelf {g : GC} {d : Nat} {a0 : Int32} {x : MX} {m : MM} {r : Bool} (hd : 1 ≤ d) 
  (hF : f_X8_isShelf a0 = r) : JC g m_X8_isShelf d 0 0 [.int a0] (ST x m) (EQ (some (.int (b2i r))) (ST x m)) := by
  refine JC.of (by decide +kernel) (Nat.le_of_ble_eq_true rfl) ?_
  change J g m_X8_isShelf d 0 0 0 [(0, .int a0)] [] (ST x m) 0 0 (EQ (some (.int (b2i r))) (ST x m))
  unfold f_X8_isShelf at hF
  refine J_iload_n (j := 0) dX8_isShelf_0 rfl rfl ?_
  refine J_if_lt (tgt := 14) dX8_isShelf_1 (by decide) (fun q1 => ?_) (fun q1 => ?_)
  · rw [if_pos q1] at hF
    refine J_iconst (v := 0) dX8_isShelf_14 (by decide) ?_
    subst hF
    exact J_ireturn rfl rfl dX8_isShelf_15 ⟨rfl, rfl⟩
  · rw [if_neg q1] at hF
    refine J_iload_n (j := 0) dX8_isShelf_4 rfl rfl ?_
    refine J_bipush (v := 6) dX8_isShelf_5 (by decide) ?_
    refine J_icmp_ge (tgt := 14) dX8_isShelf_7 (by decide) (fun q2 => ?_) (fun q2 => ?_)
    · rw [if_pos q2] at hF
      refine J_iconst (v := 0) dX8_isShelf_14 (by decide) ?_
      subst hF
      exact J_ireturn rfl rfl dX8_isShelf_15 ⟨rfl, rfl⟩
    · rw [if_neg q2] at hF
      refine J_iconst (v := 1) dX8_isShelf_10 (by decide) ?_
      refine J_goto (tgt := 15) dX8_isShelf_11 (by decide) ?_
      subst hF
      exact J_ireturn rfl rfl dX8_isShelf_15 ⟨rfl, rfl⟩
def f_X6_holdsNothing (h0 : Nat) (x : MX) : Bool :=
  if (xi x h0 1) = (-2) then
  true
  else
  false
theorem S_X6_holdsNothing {g : GC} {d : Nat} {h0 : Nat} {x : MX} {m : MM} {r : Bool} (hd : 1 ≤ d) (e_h0 : isSh h0)
  (hF : f_X6_holdsNothing h0 x = r) : JC g m_X6_holdsNothing d 0 0 [.ref h0] (ST x m) (EQ (some (.int (b2i r))) (ST x m)) := by
  refine JC.of (by decide +kernel) (Nat.le_of_ble_eq_true rfl) ?_
  change J g m_X6_holdsNothing d 0 0 0 [(0, .ref h0)] [] (ST x m) 0 0 (EQ (some (.int (b2i r))) (ST x m))
  unfold f_X6_holdsNothing at hF
  refine J_aload_n (j := 0) dX6_holdsNothing_0 rfl rfl ?_
  refine JX_getI fl_Shelf_15_5 dX6_holdsNothing_1 (c_sh e_h0) rfl ?_
  refine J_bipush (v := (-2)) dX6_holdsNothing_4 (by decide) ?_
  refine J_icmp_ne (tgt := 13) dX6_holdsNothing_6 (by decide) (fun q1 => ?_) (fun q1 => ?_)
  · rw [if_neg q1] at hF
    refine J_iconst (v := 0) dX6_holdsNothing_13 (by decide) ?_
    subst hF
    exact J_ireturn rfl rfl dX6_holdsNothing_14 ⟨rfl, rfl⟩
  · rw [if_pos q1] at hF
    refine J_iconst (v := 1) dX6_holdsNothing_9 (by decide) ?_
    refine J_goto (tgt := 14) dX6_holdsNothing_10 (by decide) ?_
    subst hF
    exact J_ireturn rfl rfl dX6_holdsNothing_14 ⟨rfl, rfl⟩
def f_X6_isSort (a0 : Int32) : Bool :=
  if a0 < 0 then
  false
  else
  if 4 < a0 then
  false
  else
  true
theorem S_X6_isSort {g : GC} {d : Nat} {a0 : Int32} {x : MX} {m : MM} {r : Bool} (hd : 1 ≤ d) 
  (hF : f_X6_isSort a0 = r) : JC g m_X6_isSort d 0 0 [.int a0] (ST x m) (EQ (some (.int (b2i r))) (ST x m)) := by
  refine JC.of (by decide +kernel) (Nat.le_of_ble_eq_true rfl) ?_
  change J g m_X6_isSort d 0 0 0 [(0, .int a0)] [] (ST x m) 0 0 (EQ (some (.int (b2i r))) (ST x m))
  unfold f_X6_isSort at hF
  refine J_iload_n (j := 0) dX6_isSort_0 rfl rfl ?_
  refine J_if_lt (tgt := 13) dX6_isSort_1 (by decide) (fun q1 => ?_) (fun q1 => ?_)
  · rw [if_pos q1] at hF
    refine J_iconst (v := 0) dX6_isSort_13 (by decide) ?_
    subst hF
    exact J_ireturn rfl rfl dX6_isSort_14 ⟨rfl, rfl⟩
  · rw [if_neg q1] at hF
    refine J_iload_n (j := 0) dX6_isSort_4 rfl rfl ?_
    refine J_iconst (v := 4) dX6_isSort_5 (by decide) ?_
    refine J_icmp_gt (tgt := 13) dX6_isSort_6 (by decide) (fun q2 => ?_) (fun q2 => ?_)
    · rw [if_pos q2] at hF
      refine J_iconst (v := 0) dX6_isSort_13 (by decide) ?_
      subst hF
      exact J_ireturn rfl rfl dX6_isSort_14 ⟨rfl, rfl⟩
    · rw [if_neg q2] at hF
      refine J_iconst (v := 1) dX6_isSort_9 (by decide) ?_
      refine J_goto (tgt := 14) dX6_isSort_10 (by decide) ?_
      subst hF
      exact J_ireturn rfl rfl dX6_isSort_14 ⟨rfl, rfl⟩
def f_X6_holdsRowOf (h0 : Nat) (a1 : Int32) (x : MX) : Bool :=
  if (f_X6_isSort (xi x h0 1)) = true then
  if (xi x h0 1) = a1 then
  true
  else
  false
  else
  false
theorem S_X6_holdsRowOf {g : GC} {d : Nat} {h0 : Nat} {a1 : Int32} {x : MX} {m : MM} {r : Bool} (hd : 2 ≤ d) (e_h0 : isSh h0)
  (hF : f_X6_holdsRowOf h0 a1 x = r) : JC g m_X6_holdsRowOf d 0 0 [.ref h0, .int a1] (ST x m) (EQ (some (.int (b2i r))) (ST x m)) := by
  refine JC.of (by decide +kernel) (Nat.le_of_ble_eq_true rfl) ?_
  change J g m_X6_holdsRowOf d 0 0 0 [(0, .ref h0), (1, .int a1)] [] (ST x m) 0 0 (EQ (some (.int (b2i r))) (ST x m))
  unfold f_X6_holdsRowOf at hF
  refine J_aload_n (j := 0) dX6_holdsRowOf_0 rfl rfl ?_
  refine JX_getI fl_Shelf_15_5 dX6_holdsRowOf_1 (c_sh e_h0) rfl ?_
  refine J_callSi (As := [.int (xi x h0 1)]) (S := []) lkS_Shelf_19_X6_isSort dX6_holdsRowOf_4 (S_X6_isSort (by omega) rfl) (by omega) rfl rfl (Nat.le_of_ble_eq_true rfl) rfl ?_
  refine J_ifb_eq (tgt := 22) dX6_holdsRowOf_7 (by decide) (fun q1 => ?_) (fun q1 => ?_)
  · rw [if_neg q1] at hF
    refine J_iconst (v := 0) dX6_holdsRowOf_22 (by decide) ?_
    subst hF
    exact J_ireturn rfl rfl dX6_holdsRowOf_23 ⟨rfl, rfl⟩
  · rw [if_pos q1] at hF
    refine J_aload_n (j := 0) dX6_holdsRowOf_10 rfl rfl ?_
    refine JX_getI fl_Shelf_15_5 dX6_holdsRowOf_11 (c_sh e_h0) rfl ?_
    refine J_iload_n (j := 1) dX6_holdsRowOf_14 rfl rfl ?_
    refine J_icmp_ne (tgt := 22) dX6_holdsRowOf_15 (by decide) (fun q2 => ?_) (fun q2 => ?_)
    · rw [if_neg q2] at hF
      refine J_iconst (v := 0) dX6_holdsRowOf_22 (by decide) ?_
      subst hF
      exact J_ireturn rfl rfl dX6_holdsRowOf_23 ⟨rfl, rfl⟩
    · rw [if_pos q2] at hF
      refine J_iconst (v := 1) dX6_holdsRowOf_18 (by decide) ?_
      refine J_goto (tgt := 23) dX6_holdsRowOf_19 (by decide) ?_
      subst hF
      exact J_ireturn rfl rfl dX6_holdsRowOf_23 ⟨rfl, rfl⟩
def f_X6_hasPlaces (h0 : Nat) (a1 : Int32) (a2 : Int32) (x : MX) : Bool :=
  if a1 < 0 then
  false
  else
  if a2 < 0 then
  false
  else
  if (xi x h0 2) < a2 then
  false
  else
  if ((xi x h0 2) - a2) < a1 then
  false
  else
  true
theorem S_X6_hasPlaces {g : GC} {d : Nat} {h0 : Nat} {a1 : Int32} {a2 : Int32} {x : MX} {m : MM} {r : Bool} (hd : 1 ≤ d) (e_h0 : isSh h0)
  (hF : f_X6_hasPlaces h0 a1 a2 x = r) : JC g m_X6_hasPlaces d 0 0 [.ref h0, .int a1, .int a2] (ST x m) (EQ (some (.int (b2i r))) (ST x m)) := by
  refine JC.of (by decide +kernel) (Nat.le_of_ble_eq_true rfl) ?_
  change J g m_X6_hasPlaces d 0 0 0 [(0, .ref h0), (1, .int a1), (2, .int a2)] [] (ST x m) 0 0 (EQ (some (.int (b2i r))) (ST x m))
  unfold f_X6_hasPlaces at hF
  refine J_iload_n (j := 1) dX6_hasPlaces_0 rfl rfl ?_
  refine J_if_lt (tgt := 30) dX6_hasPlaces_1 (by decide) (fun q1 => ?_) (fun q1 => ?_)
  · rw [if_pos q1] at hF
    refine J_iconst (v := 0) dX6_hasPlaces_30 (by decide) ?_
    subst hF
    exact J_ireturn rfl rfl dX6_hasPlaces_31 ⟨rfl, rfl⟩
  · rw [if_neg q1] at hF
    refine J_iload_n (j := 2) dX6_hasPlaces_4 rfl rfl ?_
    refine J_if_lt (tgt := 30) dX6_hasPlaces_5 (by decide) (fun q2 => ?_) (fun q2 => ?_)
    · rw [if_pos q2] at hF
      refine J_iconst (v := 0) dX6_hasPlaces_30 (by decide) ?_
      subst hF
      exact J_ireturn rfl rfl dX6_hasPlaces_31 ⟨rfl, rfl⟩
    · rw [if_neg q2] at hF
      refine J_iload_n (j := 2) dX6_hasPlaces_8 rfl rfl ?_
      refine J_aload_n (j := 0) dX6_hasPlaces_9 rfl rfl ?_
      refine JX_getI fl_Shelf_33_5 dX6_hasPlaces_10 (c_sh e_h0) rfl ?_
      refine J_icmp_gt (tgt := 30) dX6_hasPlaces_13 (by decide) (fun q3 => ?_) (fun q3 => ?_)
      · rw [if_pos q3] at hF
        refine J_iconst (v := 0) dX6_hasPlaces_30 (by decide) ?_
        subst hF
        exact J_ireturn rfl rfl dX6_hasPlaces_31 ⟨rfl, rfl⟩
      · rw [if_neg q3] at hF
        refine J_iload_n (j := 1) dX6_hasPlaces_16 rfl rfl ?_
        refine J_aload_n (j := 0) dX6_hasPlaces_17 rfl rfl ?_
        refine JX_getI fl_Shelf_33_5 dX6_hasPlaces_18 (c_sh e_h0) rfl ?_
        refine J_iload_n (j := 2) dX6_hasPlaces_21 rfl rfl ?_
        refine J_isub dX6_hasPlaces_22 ?_
        refine J_icmp_gt (tgt := 30) dX6_hasPlaces_23 (by decide) (fun q4 => ?_) (fun q4 => ?_)
        · rw [if_pos q4] at hF
          refine J_iconst (v := 0) dX6_hasPlaces_30 (by decide) ?_
          subst hF
          exact J_ireturn rfl rfl dX6_hasPlaces_31 ⟨rfl, rfl⟩
        · rw [if_neg q4] at hF
          refine J_iconst (v := 1) dX6_hasPlaces_26 (by decide) ?_
          refine J_goto (tgt := 31) dX6_hasPlaces_27 (by decide) ?_
          subst hF
          exact J_ireturn rfl rfl dX6_hasPlaces_31 ⟨rfl, rfl⟩
def f_X8_cameFrom (h1 : Nat) (a2 : Int32) (x : MX) : Option (Bool × MX) :=
  if 6 ≤ (xi x 5 13) then
  some (false, x)
  else
  if (f_X6_hasPlaces h1 a2 3 x) = true then
  if inb a2 60 = true then
  letx (Int64.toInt32 (xl x (h1 + 1) (ix a2))) (fun y4 =>
  if inb (a2 + 1) 60 = true then
  letx (Int64.toInt32 (xl x (h1 + 1) (ix (a2 + 1)))) (fun y6 =>
  if inb (a2 + 2) 60 = true then
  letx (Int64.toInt32 (xl x (h1 + 1) (ix (a2 + 2)))) (fun y8 =>
  ob (f_X8_canBe 2 y4) (fun r9 =>
  if r9 = true then
  ob (f_X8_canBe 3 y6) (fun r12 =>
  if r12 = true then
  ob (f_X8_canBe 4 y8) (fun r15 =>
  if r15 = true then
  ob2 (f_X8_addCuff y4 y6 y8 x) (fun r18 x19 =>
  some (true, x19))
  else
  some (false, x))
  else
  some (false, x))
  else
  some (false, x)))
  else none)
  else none)
  else none
  else
  some (false, x)
theorem S_X8_cameFrom {g : GC} {d : Nat} {h1 : Nat} {a2 : Int32} {x : MX} {m : MM} {r : Bool} {z : MX} (hd : 2 ≤ d) (e_h1 : isSh h1)
  (hF : f_X8_cameFrom h1 a2 x = some (r, z)) : JC g m_X8_cameFrom d 0 0 [.ref 5, .ref h1, .int a2] (ST x m) (EQ (some (.int (b2i r))) (ST z m)) := by
  refine JC.of (by decide +kernel) (Nat.le_of_ble_eq_true rfl) ?_
  change J g m_X8_cameFrom d 0 0 0 [(0, .ref 5), (1, .ref h1), (2, .int a2)] [] (ST x m) 0 0 (EQ (some (.int (b2i r))) (ST z m))
  unfold f_X8_cameFrom at hF
  refine J_aload_n (j := 0) dX8_cameFrom_0 rfl rfl ?_
  refine JX_getI fl_WithOneHand_84_7 dX8_cameFrom_1 c_5 rfl ?_
  refine J_bipush (v := 6) dX8_cameFrom_4 (by decide) ?_
  refine J_icmp_ge (tgt := 18) dX8_cameFrom_6 (by decide) (fun q1 => ?_) (fun q1 => ?_)
  · rw [if_pos q1] at hF
    refine J_iconst (v := 0) dX8_cameFrom_18 (by decide) ?_
    obtain ⟨e_r, e_z⟩ := someP hF
    subst e_r
    subst e_z
    exact J_ireturn rfl rfl dX8_cameFrom_19 ⟨rfl, rfl⟩
  · rw [if_neg q1] at hF
    refine J_aload_n (j := 1) dX8_cameFrom_9 rfl rfl ?_
    refine J_iload_n (j := 2) dX8_cameFrom_10 rfl rfl ?_
    refine J_iconst (v := 3) dX8_cameFrom_11 (by decide) ?_
    refine JX_callVi (As := [.int a2, .int 3]) (S := []) lkV_WithOneHand_317_X6_hasPlaces rfl (by decide) dX8_cameFrom_12 (c_sh e_h1) (S_X6_hasPlaces (by omega) e_h1 rfl) (by omega) rfl rfl (Nat.le_of_ble_eq_true rfl) rfl ?_
    refine J_ifb_ne (tgt := 20) dX8_cameFrom_15 (by decide) (fun q2 => ?_) (fun q2 => ?_)
    · rw [if_pos q2] at hF
      refine J_aload_n (j := 1) dX8_cameFrom_20 rfl rfl ?_
      refine JX_getR (r := (h1 + 1)) fl_WithOneHand_320_5 dX8_cameFrom_21 (c_sh e_h1) rfl rfl ?_
      refine J_iload_n (j := 2) dX8_cameFrom_24 rfl rfl ?_
      obtain ⟨b3, hF⟩ := chk hF
      refine JX_lald (j := ix a2) dX8_cameFrom_25 (c_she e_h1) (inb_vp b3) rfl ?_
      refine J_l2i dX8_cameFrom_26 ?_
      obtain ⟨y4, e_y4, hF⟩ := letx_eq hF
      rw [← e_y4]
      refine J_istore_n (L' := [(3, .int y4), (0, .ref 5), (1, .ref h1), (2, .int a2)]) dX8_cameFrom_27 rfl (by decide) rfl ?_
      refine J_aload_n (j := 2) dX8_cameFrom_28 rfl rfl ?_
      refine JX_getR (r := (h1 + 1)) fl_WithOneHand_320_5 dX8_cameFrom_29 (c_sh e_h1) rfl rfl ?_
      refine J_iload_n (j := 3) dX8_cameFrom_32 rfl rfl ?_
      refine J_iconst (v := 1) dX8_cameFrom_33 (by decide) ?_
      refine J_iadd dX8_cameFrom_34 ?_
      obtain ⟨b5, hF⟩ := chk hF
      refine JX_lald (j := ix (a2 + 1)) dX8_cameFrom_35 (c_she e_h1) (inb_vp b5) rfl ?_
      refine J_l2i dX8_cameFrom_36 ?_
      obtain ⟨y6, e_y6, hF⟩ := letx_eq hF
      rw [← e_y6]
      refine J_istore (L' := [(4, .int y6), (3, .int y4), (0, .ref 5), (1, .ref h1), (2, .int a2)]) dX8_cameFrom_37 (by decide) rfl ?_
      refine J_aload_n (j := 3) dX8_cameFrom_39 rfl rfl ?_
      refine JX_getR (r := (h1 + 1)) fl_WithOneHand_320_5 dX8_cameFrom_40 (c_sh e_h1) rfl rfl ?_
      refine J_iload_n (j := 4) dX8_cameFrom_43 rfl rfl ?_
      refine J_iconst (v := 2) dX8_cameFrom_44 (by decide) ?_
      refine J_iadd dX8_cameFrom_45 ?_
      obtain ⟨b7, hF⟩ := chk hF
      refine JX_lald (j := ix (a2 + 2)) dX8_cameFrom_46 (c_she e_h1) (inb_vp b7) rfl ?_
      refine J_l2i dX8_cameFrom_47 ?_
      obtain ⟨y8, e_y8, hF⟩ := letx_eq hF
      rw [← e_y8]
      refine J_istore (L' := [(5, .int y8), (4, .int y6), (3, .int y4), (0, .ref 5), (1, .ref h1), (2, .int a2)]) dX8_cameFrom_48 (by decide) rfl ?_
      refine J_iconst (v := 2) dX8_cameFrom_50 (by decide) ?_
      refine J_iload_n (j := 2) dX8_cameFrom_51 rfl rfl ?_
      obtain ⟨r9, h10, hF⟩ := ob_some hF
      refine J_callSi (As := [.int 2, .int y4]) (S := []) lkS_WithOneHand_76_X8_canBe dX8_cameFrom_52 (S_X8_canBe (by omega) h10) (by omega) rfl rfl (Nat.le_of_ble_eq_true rfl) rfl ?_
      refine J_ifb_eq (tgt := 76) dX8_cameFrom_55 (by decide) (fun q11 => ?_) (fun q11 => ?_)
      · rw [if_neg q11] at hF
        refine J_iconst (v := 0) dX8_cameFrom_76 (by decide) ?_
        obtain ⟨e_r, e_z⟩ := someP hF
        subst e_r
        subst e_z
        exact J_ireturn rfl rfl dX8_cameFrom_77 ⟨rfl, rfl⟩
      · rw [if_pos q11] at hF
        refine J_iconst (v := 3) dX8_cameFrom_58 (by decide) ?_
        refine J_iload (j := 1) dX8_cameFrom_59 rfl ?_
        obtain ⟨r12, h13, hF⟩ := ob_some hF
        refine J_callSi (As := [.int 3, .int y6]) (S := []) lkS_WithOneHand_76_X8_canBe dX8_cameFrom_61 (S_X8_canBe (by omega) h13) (by omega) rfl rfl (Nat.le_of_ble_eq_true rfl) rfl ?_
        refine J_ifb_eq (tgt := 76) dX8_cameFrom_64 (by decide) (fun q14 => ?_) (fun q14 => ?_)
        · rw [if_neg q14] at hF
          refine J_iconst (v := 0) dX8_cameFrom_76 (by decide) ?_
          obtain ⟨e_r, e_z⟩ := someP hF
          subst e_r
          subst e_z
          exact J_ireturn rfl rfl dX8_cameFrom_77 ⟨rfl, rfl⟩
        · rw [if_pos q14] at hF
          refine J_iconst (v := 4) dX8_cameFrom_67 (by decide) ?_
          refine J_iload (j := 0) dX8_cameFrom_68 rfl ?_
          obtain ⟨r15, h16, hF⟩ := ob_some hF
          refine J_callSi (As := [.int 4, .int y8]) (S := []) lkS_WithOneHand_76_X8_canBe dX8_cameFrom_70 (S_X8_canBe (by omega) h16) (by omega) rfl rfl (Nat.le_of_ble_eq_true rfl) rfl ?_
          refine J_ifb_ne (tgt := 78) dX8_cameFrom_73 (by decide) (fun q17 => ?_) (fun q17 => ?_)
          · rw [if_pos q17] at hF
            refine J_aload_n (j := 3) dX8_cameFrom_78 rfl rfl ?_
            refine J_iload_n (j := 2) dX8_cameFrom_79 rfl rfl ?_
            refine J_iload (j := 1) dX8_cameFrom_80 rfl ?_
            refine J_iload (j := 0) dX8_cameFrom_82 rfl ?_
            obtain ⟨r18, x19, h20, hF⟩ := ob2_some hF
            refine JX_callVi (As := [.int y4, .int y6, .int y8]) (S := []) lkV_WithOneHand_87_X8_addCuff rfl (by decide) dX8_cameFrom_84 c_5 (S_X8_addCuff (by omega) h20) (by omega) rfl rfl (Nat.le_of_ble_eq_true rfl) rfl ?_
            refine J_pop dX8_cameFrom_87 rfl ?_
            refine J_iconst (v := 1) dX8_cameFrom_88 (by decide) ?_
            obtain ⟨e_r, e_z⟩ := someP hF
            subst e_r
            subst e_z
            exact J_ireturn rfl rfl dX8_cameFrom_89 ⟨rfl, rfl⟩
          · rw [if_neg q17] at hF
            refine J_iconst (v := 0) dX8_cameFrom_76 (by decide) ?_
            obtain ⟨e_r, e_z⟩ := someP hF
            subst e_r
            subst e_z
            exact J_ireturn rfl rfl dX8_cameFrom_77 ⟨rfl, rfl⟩
    · rw [if_neg q2] at hF
      refine J_iconst (v := 0) dX8_cameFrom_18 (by decide) ?_
      obtain ⟨e_r, e_z⟩ := someP hF
      subst e_r
      subst e_z
      exact J_ireturn rfl rfl dX8_cameFrom_19 ⟨rfl, rfl⟩
def B_X8_cuffs_53 (K53 : Int32 → Int32 → Nat → Int32 → MX → Option (Int32 × MX)) (v2 : Int32) (v3 : Int32) (v4 : Nat) (v5 : Int32) (x : MX) : Option (Int32 × MX) :=
  if v3 ≤ v5 then
  some (v5, x)
  else
  ob2 (f_X8_cameFrom v4 (v2 + (3 * v5)) x) (fun r8 x9 =>
  if r8 = true then
  K53 v2 v3 v4 (v5 + 1) x9
  else
  some (v5, x9))
theorem SB_X8_cuffs_53 {g : GC} {d : Nat} {K53 : Int32 → Int32 → Nat → Int32 → MX → Option (Int32 × MX)} {v2 : Int32} {v3 : Int32} {v4 : Nat} {v5 : Int32} {x : MX} {m : MM} {r : Int32} {z : MX} (hd : 3 ≤ d) (hK53 : ∀ (v2 : Int32) (v3 : Int32) (v4 : Nat) (v5 : Int32) (x : MX) (r : Int32) (z : MX), isSh v4 → K53 v2 v3 v4 v5 x = some (r, z) → J g m_X8_cuffs d 0 0 53 [(0, .ref 5), (2, .int v2), (3, .int v3), (4, .ref v4), (5, .int v5)] [] (ST x m) 0 0 (EQ (some (.int r)) (ST z m))) (e_v4 : isSh v4)
  (hF : B_X8_cuffs_53 K53 v2 v3 v4 v5 x = some (r, z)) : J g m_X8_cuffs d 0 0 53 [(0, .ref 5), (2, .int v2), (3, .int v3), (4, .ref v4), (5, .int v5)] [] (ST x m) 0 0 (EQ (some (.int r)) (ST z m)) := by
  unfold B_X8_cuffs_53 at hF
  refine J_iload (j := 4) dX8_cuffs_53 rfl ?_
  refine J_iload_n (j := 2) dX8_cuffs_55 rfl rfl ?_
  refine J_icmp_ge (tgt := 80) dX8_cuffs_56 (by decide) (fun q7 => ?_) (fun q7 => ?_)
  · rw [if_pos q7] at hF
    refine J_iload (j := 4) dX8_cuffs_80 rfl ?_
    obtain ⟨e_r, e_z⟩ := someP hF
    subst e_r
    subst e_z
    exact J_ireturn rfl rfl dX8_cuffs_82 ⟨rfl, rfl⟩
  · rw [if_neg q7] at hF
    refine J_aload_n (j := 0) dX8_cuffs_59 rfl rfl ?_
    refine J_aload (j := 3) dX8_cuffs_60 rfl ?_
    refine J_iload_n (j := 1) dX8_cuffs_62 rfl rfl ?_
    refine J_iconst (v := 3) dX8_cuffs_63 (by decide) ?_
    refine J_iload (j := 4) dX8_cuffs_64 rfl ?_
    refine J_imul dX8_cuffs_66 ?_
    refine J_iadd dX8_cuffs_67 ?_
    obtain ⟨r8, x9, h10, hF⟩ := ob2_some hF
    refine JX_callVi (As := [.ref v4, .int (v2 + (3 * v5))]) (S := []) lkV_WithOneHand_102_X8_cameFrom rfl (by decide) dX8_cuffs_68 c_5 (S_X8_cameFrom (by omega) e_v4 h10) (by omega) rfl rfl (Nat.le_of_ble_eq_true rfl) rfl ?_
    refine J_ifb_eq (tgt := 80) dX8_cuffs_71 (by decide) (fun q11 => ?_) (fun q11 => ?_)
    · rw [if_neg q11] at hF
      refine J_iload (j := 4) dX8_cuffs_80 rfl ?_
      obtain ⟨e_r, e_z⟩ := someP hF
      subst e_r
      subst e_z
      exact J_ireturn rfl rfl dX8_cuffs_82 ⟨rfl, rfl⟩
    · rw [if_pos q11] at hF
      refine J_iinc (j := 4) (v := v5 + 1) (L' := [(5, .int (v5 + 1)), (0, .ref 5), (2, .int v2), (3, .int v3), (4, .ref v4)]) dX8_cuffs_74 rfl rfl (by decide) rfl ?_
      refine J_goto (tgt := 53) dX8_cuffs_77 (by decide) ?_
      refine J_sub [1, 2, 3, 4, 0] rfl ?_
      exact hK53 _ _ _ _ _ _ _ e_v4 hF
def f_X8_cuffs_53  : Nat → Int32 → Int32 → Nat → Int32 → MX → Option (Int32 × MX)
  | 0 => fun _ _ _ _ _ => none
  | n + 1 => fun v2 v3 v4 v5 x => B_X8_cuffs_53 (f_X8_cuffs_53  n) v2 v3 v4 v5 x
theorem Sf_X8_cuffs_53 {g : GC} {d : Nat} {m : MM} (hd : 3 ≤ d)  : ∀ (n : Nat) (v2 : Int32) (v3 : Int32) (v4 : Nat) (v5 : Int32) (x : MX) (r : Int32) (z : MX), (e_v4 : isSh v4) → f_X8_cuffs_53  n v2 v3 v4 v5 x = some (r, z) → J g m_X8_cuffs d 0 0 53 [(0, .ref 5), (2, .int v2), (3, .int v3), (4, .ref v4), (5, .int v5)] [] (ST x m) 0 0 (EQ (some (.int r)) (ST z m)) := by
  intro n
  induction n with
  | zero => intro v2 v3 v4 v5 x r z e_v4 hF; exact absurd hF (fun q => by cases q)
  | succ n ih =>
    intro v2 v3 v4 v5 x r z e_v4 hF
    exact SB_X8_cuffs_53 hd (fun v2 v3 v4 v5 x r z e_v4 hF => ih v2 v3 v4 v5 x r z e_v4 hF) e_v4 hF
def f_X8_cuffs (a1 : Int32) (a2 : Int32) (a3 : Int32) (x : MX) : Option (Int32 × MX) :=
  if (f_X8_isShelf a1) = true then
  if a3 < 1 then
  some ((-1), x)
  else
  if a3 ≤ 6 then
  if inb a1 6 = true then
  if (f_X6_holdsNothing (68 + 2 * ix a1) x) = true then
  some (0, x)
  else
  if (f_X6_holdsRowOf (68 + 2 * ix a1) 0 x) = true then
  f_X8_cuffs_53 LF a2 a3 (68 + 2 * ix a1) 0 x
  else
  some ((-12), x)
  else none
  else
  some ((-1), x)
  else
  some ((-1), x)
theorem S_X8_cuffs {g : GC} {d : Nat} {a1 : Int32} {a2 : Int32} {a3 : Int32} {x : MX} {m : MM} {r : Int32} {z : MX} (hd : 3 ≤ d) 
  (hF : f_X8_cuffs a1 a2 a3 x = some (r, z)) : JC g m_X8_cuffs d 0 0 [.ref 5, .int a1, .int a2, .int a3] (ST x m) (EQ (some (.int r)) (ST z m)) := by
  refine JC.of (by decide +kernel) (Nat.le_of_ble_eq_true rfl) ?_
  change J g m_X8_cuffs d 0 0 0 [(0, .ref 5), (1, .int a1), (2, .int a2), (3, .int a3)] [] (ST x m) 0 0 (EQ (some (.int r)) (ST z m))
  unfold f_X8_cuffs at hF
  refine J_iload_n (j := 1) dX8_cuffs_0 rfl rfl ?_
  refine J_callSi (As := [.int a1]) (S := []) lkS_WithOneHand_91_X8_isShelf dX8_cuffs_1 (S_X8_isShelf (by omega) rfl) (by omega) rfl rfl (Nat.le_of_ble_eq_true rfl) rfl ?_
  refine J_ifb_eq (tgt := 18) dX8_cuffs_4 (by decide) (fun q1 => ?_) (fun q1 => ?_)
  · rw [if_neg q1] at hF
    refine J_iconst (v := (-1)) dX8_cuffs_18 (by decide) ?_
    obtain ⟨e_r, e_z⟩ := someP hF
    subst e_r
    subst e_z
    exact J_ireturn rfl rfl dX8_cuffs_19 ⟨rfl, rfl⟩
  · rw [if_pos q1] at hF
    refine J_iload_n (j := 3) dX8_cuffs_7 rfl rfl ?_
    refine J_iconst (v := 1) dX8_cuffs_8 (by decide) ?_
    refine J_icmp_lt (tgt := 18) dX8_cuffs_9 (by decide) (fun q2 => ?_) (fun q2 => ?_)
    · rw [if_pos q2] at hF
      refine J_iconst (v := (-1)) dX8_cuffs_18 (by decide) ?_
      obtain ⟨e_r, e_z⟩ := someP hF
      subst e_r
      subst e_z
      exact J_ireturn rfl rfl dX8_cuffs_19 ⟨rfl, rfl⟩
    · rw [if_neg q2] at hF
      refine J_iload_n (j := 3) dX8_cuffs_12 rfl rfl ?_
      refine J_bipush (v := 6) dX8_cuffs_13 (by decide) ?_
      refine J_icmp_le (tgt := 20) dX8_cuffs_15 (by decide) (fun q3 => ?_) (fun q3 => ?_)
      · rw [if_pos q3] at hF
        refine J_aload_n (j := 0) dX8_cuffs_20 rfl rfl ?_
        refine JX_getR (r := 54) fl_WithOneHand_58_7 dX8_cuffs_21 c_5 rfl rfl ?_
        refine J_iload_n (j := 1) dX8_cuffs_24 rfl rfl ?_
        obtain ⟨b4, hF⟩ := chk hF
        refine JX_aald (j := ix a1) (r := 68 + 2 * ix a1) (by decide) dX8_cuffs_25 c_54 (inb_vp b4) rfl (rw_54 _ (inb_lt b4)) ?_
        refine J_astore (L' := [(4, .ref (68 + 2 * ix a1)), (0, .ref 5), (1, .int a1), (2, .int a2), (3, .int a3)]) dX8_cuffs_26 (by decide) rfl ?_
        refine J_aload (j := 0) dX8_cuffs_28 rfl ?_
        refine JX_callVi (As := []) (S := []) lkV_WithOneHand_95_X6_holdsNothing rfl (by decide) dX8_cuffs_30 (c_sh (sh_of (inb_lt b4))) (S_X6_holdsNothing (by omega) (sh_of (inb_lt b4)) rfl) (by omega) rfl rfl (Nat.le_of_ble_eq_true rfl) rfl ?_
        refine J_ifb_eq (tgt := 38) dX8_cuffs_33 (by decide) (fun q5 => ?_) (fun q5 => ?_)
        · rw [if_neg q5] at hF
          refine J_aload (j := 0) dX8_cuffs_38 rfl ?_
          refine J_iconst (v := 0) dX8_cuffs_40 (by decide) ?_
          refine JX_callVi (As := [.int 0]) (S := []) lkV_WithOneHand_99_X6_holdsRowOf rfl (by decide) dX8_cuffs_41 (c_sh (sh_of (inb_lt b4))) (S_X6_holdsRowOf (by omega) (sh_of (inb_lt b4)) rfl) (by omega) rfl rfl (Nat.le_of_ble_eq_true rfl) rfl ?_
          refine J_ifb_ne (tgt := 50) dX8_cuffs_44 (by decide) (fun q6 => ?_) (fun q6 => ?_)
          · rw [if_pos q6] at hF
            refine J_iconst (v := 0) dX8_cuffs_50 (by decide) ?_
            refine J_istore (L' := [(5, .int 0), (4, .ref (68 + 2 * ix a1)), (0, .ref 5), (1, .int a1), (2, .int a2), (3, .int a3)]) dX8_cuffs_51 (by decide) rfl ?_
            refine J_sub [2, 4, 5, 1, 0] rfl ?_
            exact Sf_X8_cuffs_53 hd _ _ _ _ _ _ _ _ (sh_of (inb_lt b4)) hF
          · rw [if_neg q6] at hF
            refine J_bipush (v := (-12)) dX8_cuffs_47 (by decide) ?_
            obtain ⟨e_r, e_z⟩ := someP hF
            subst e_r
            subst e_z
            exact J_ireturn rfl rfl dX8_cuffs_49 ⟨rfl, rfl⟩
        · rw [if_pos q5] at hF
          refine J_iconst (v := 0) dX8_cuffs_36 (by decide) ?_
          obtain ⟨e_r, e_z⟩ := someP hF
          subst e_r
          subst e_z
          exact J_ireturn rfl rfl dX8_cuffs_37 ⟨rfl, rfl⟩
      · rw [if_neg q3] at hF
        refine J_iconst (v := (-1)) dX8_cuffs_18 (by decide) ?_
        obtain ⟨e_r, e_z⟩ := someP hF
        subst e_r
        subst e_z
        exact J_ireturn rfl rfl dX8_cuffs_19 ⟨rfl, rfl⟩
def f_X9_isShelf (a1 : Int32) : Bool :=
  if a1 < 0 then
  false
  else
  if 6 ≤ a1 then
  false
  else
  true
theorem S_X9_isShelf {g : GC} {d : Nat} {a1 : Int32} {x : MX} {m : MM} {r : Bool} (hd : 1 ≤ d) 
  (hF : f_X9_isShelf a1 = r) : JC g m_X9_isShelf d 0 0 [.ref 80, .int a1] (ST x m) (EQ (some (.int (b2i r))) (ST x m)) := by
  refine JC.of (by decide +kernel) (Nat.le_of_ble_eq_true rfl) ?_
  change J g m_X9_isShelf d 0 0 0 [(0, .ref 80), (1, .int a1)] [] (ST x m) 0 0 (EQ (some (.int (b2i r))) (ST x m))
  unfold f_X9_isShelf at hF
  refine J_iload_n (j := 1) dX9_isShelf_0 rfl rfl ?_
  refine J_if_lt (tgt := 14) dX9_isShelf_1 (by decide) (fun q1 => ?_) (fun q1 => ?_)
  · rw [if_pos q1] at hF
    refine J_iconst (v := 0) dX9_isShelf_14 (by decide) ?_
    subst hF
    exact J_ireturn rfl rfl dX9_isShelf_15 ⟨rfl, rfl⟩
  · rw [if_neg q1] at hF
    refine J_iload_n (j := 1) dX9_isShelf_4 rfl rfl ?_
    refine J_bipush (v := 6) dX9_isShelf_5 (by decide) ?_
    refine J_icmp_ge (tgt := 14) dX9_isShelf_7 (by decide) (fun q2 => ?_) (fun q2 => ?_)
    · rw [if_pos q2] at hF
      refine J_iconst (v := 0) dX9_isShelf_14 (by decide) ?_
      subst hF
      exact J_ireturn rfl rfl dX9_isShelf_15 ⟨rfl, rfl⟩
    · rw [if_neg q2] at hF
      refine J_iconst (v := 1) dX9_isShelf_10 (by decide) ?_
      refine J_goto (tgt := 15) dX9_isShelf_11 (by decide) ?_
      subst hF
      exact J_ireturn rfl rfl dX9_isShelf_15 ⟨rfl, rfl⟩
def f_X9_intAt (a1 : Int32) (a2 : Int32) (m : MM) : Option Int32 :=
  if inb ((60 * a1) + a2) 360 = true then
  some (Int64.toInt32 (ml m 109 (ix ((60 * a1) + a2))))
  else none
theorem S_X9_intAt {g : GC} {d : Nat} {a1 : Int32} {a2 : Int32} {x : MX} {m : MM} {r : Int32} (hd : 1 ≤ d) 
  (hF : f_X9_intAt a1 a2 m = some r) : JC g m_X9_intAt d 0 0 [.ref 80, .int a1, .int a2] (ST x m) (EQ (some (.int r)) (ST x m)) := by
  refine JC.of (by decide +kernel) (Nat.le_of_ble_eq_true rfl) ?_
  change J g m_X9_intAt d 0 0 0 [(0, .ref 80), (1, .int a1), (2, .int a2)] [] (ST x m) 0 0 (EQ (some (.int r)) (ST x m))
  unfold f_X9_intAt at hF
  refine J_aload_n (j := 0) dX9_intAt_0 rfl rfl ?_
  refine JM_getR (r := 109) fl_WithOneHandModel_101_8 dX9_intAt_1 c_80 rfl rfl ?_
  refine J_bipush (v := 60) dX9_intAt_4 (by decide) ?_
  refine J_iload_n (j := 1) dX9_intAt_6 rfl rfl ?_
  refine J_imul dX9_intAt_7 ?_
  refine J_iload_n (j := 2) dX9_intAt_8 rfl rfl ?_
  refine J_iadd dX9_intAt_9 ?_
  obtain ⟨b1, hF⟩ := chk hF
  refine JM_lald (j := ix ((60 * a1) + a2)) dX9_intAt_10 c_109 (inb_vp b1) rfl ?_
  refine J_l2i dX9_intAt_11 ?_
  have e_r := Option.some.inj hF
  subst e_r
  exact J_ireturn rfl rfl dX9_intAt_12 ⟨rfl, rfl⟩
def B_X9_cuffs_60 (K60 : Int32 → Int32 → Int32 → Int32 → Int32 → MM → Option (Int32 × MM)) (v1 : Int32) (v2 : Int32) (v3 : Int32) (v4 : Int32) (v5 : Int32) (m : MM) : Option (Int32 × MM) :=
  if v3 ≤ v4 then
  some (v4, m)
  else
  if v2 < 0 then
  some (v4, m)
  else
  if inb v1 6 = true then
  if ((mi m 107 (ix v1)) - 3) < v5 then
  some (v4, m)
  else
  if (mi m 80 1) = 6 then
  some (v4, m)
  else
  ob (f_X9_intAt v1 v5 m) (fun r12 =>
  ob (f_X9_intAt v1 (v5 + 1) m) (fun r14 =>
  ob (f_X9_intAt v1 (v5 + 2) m) (fun r16 =>
  if (f_X9_isIn r12 0 9) = true then
  if (f_X9_isIn r14 0 9) = true then
  if (f_X9_isIn r16 0 1) = true then
  ob2 (f_X9_adds r12 r14 r16 m) (fun r21 m22 =>
  K60 v1 v2 v3 (v4 + 1) (v5 + 3) m22)
  else
  some (v4, m)
  else
  some (v4, m)
  else
  some (v4, m))))
  else none
theorem SB_X9_cuffs_60 {g : GC} {d : Nat} {K60 : Int32 → Int32 → Int32 → Int32 → Int32 → MM → Option (Int32 × MM)} {v1 : Int32} {v2 : Int32} {v3 : Int32} {v4 : Int32} {v5 : Int32} {x : MX} {m : MM} {r : Int32} {z : MM} (hd : 2 ≤ d) (hK60 : ∀ (v1 : Int32) (v2 : Int32) (v3 : Int32) (v4 : Int32) (v5 : Int32) (m : MM) (r : Int32) (z : MM), K60 v1 v2 v3 v4 v5 m = some (r, z) → J g m_X9_cuffs d 0 0 60 [(0, .ref 80), (1, .int v1), (2, .int v2), (3, .int v3), (4, .int v4), (5, .int v5)] [] (ST x m) 0 0 (EQ (some (.int r)) (ST x z)))
  (hF : B_X9_cuffs_60 K60 v1 v2 v3 v4 v5 m = some (r, z)) : J g m_X9_cuffs d 0 0 60 [(0, .ref 80), (1, .int v1), (2, .int v2), (3, .int v3), (4, .int v4), (5, .int v5)] [] (ST x m) 0 0 (EQ (some (.int r)) (ST x z)) := by
  unfold B_X9_cuffs_60 at hF
  refine J_iload (j := 4) dX9_cuffs_60 rfl ?_
  refine J_iload_n (j := 3) dX9_cuffs_62 rfl rfl ?_
  refine J_icmp_ge (tgt := 184) dX9_cuffs_63 (by decide) (fun q7 => ?_) (fun q7 => ?_)
  · rw [if_pos q7] at hF
    refine J_iload (j := 4) dX9_cuffs_184 rfl ?_
    obtain ⟨e_r, e_z⟩ := someP hF
    subst e_r
    subst e_z
    exact J_ireturn rfl rfl dX9_cuffs_186 ⟨rfl, rfl⟩
  · rw [if_neg q7] at hF
    refine J_iload_n (j := 2) dX9_cuffs_66 rfl rfl ?_
    refine J_if_lt (tgt := 184) dX9_cuffs_67 (by decide) (fun q8 => ?_) (fun q8 => ?_)
    · rw [if_pos q8] at hF
      refine J_iload (j := 4) dX9_cuffs_184 rfl ?_
      obtain ⟨e_r, e_z⟩ := someP hF
      subst e_r
      subst e_z
      exact J_ireturn rfl rfl dX9_cuffs_186 ⟨rfl, rfl⟩
    · rw [if_neg q8] at hF
      refine J_iload (j := 5) dX9_cuffs_70 rfl ?_
      refine J_aload_n (j := 0) dX9_cuffs_72 rfl rfl ?_
      refine JM_getR (r := 107) fl_WithOneHandModel_95_8 dX9_cuffs_73 c_80 rfl rfl ?_
      refine J_iload_n (j := 1) dX9_cuffs_76 rfl rfl ?_
      obtain ⟨b9, hF⟩ := chk hF
      refine JM_iald (j := ix v1) dX9_cuffs_77 c_107 (inb_vp b9) rfl ?_
      refine J_iconst (v := 3) dX9_cuffs_78 (by decide) ?_
      refine J_isub dX9_cuffs_79 ?_
      refine J_icmp_gt (tgt := 92) dX9_cuffs_80 (by decide) (fun q10 => ?_) (fun q10 => ?_)
      · rw [if_pos q10] at hF
        refine J_iload (j := 4) dX9_cuffs_92 rfl ?_
        obtain ⟨e_r, e_z⟩ := someP hF
        subst e_r
        subst e_z
        exact J_ireturn rfl rfl dX9_cuffs_94 ⟨rfl, rfl⟩
      · rw [if_neg q10] at hF
        refine J_aload_n (j := 0) dX9_cuffs_83 rfl rfl ?_
        refine JM_getI fl_WithOneHandModel_111_8 dX9_cuffs_84 c_80 rfl ?_
        refine J_bipush (v := 6) dX9_cuffs_87 (by decide) ?_
        refine J_icmp_ne (tgt := 95) dX9_cuffs_89 (by decide) (fun q11 => ?_) (fun q11 => ?_)
        · rw [if_neg q11] at hF
          refine J_aload_n (j := 0) dX9_cuffs_95 rfl rfl ?_
          refine J_iload_n (j := 1) dX9_cuffs_96 rfl rfl ?_
          refine J_iload (j := 5) dX9_cuffs_97 rfl ?_
          obtain ⟨r12, h13, hF⟩ := ob_some hF
          refine JM_callVi (As := [.int v1, .int v5]) (S := []) lkV_WithOneHandModel_126_X9_intAt rfl (by decide) dX9_cuffs_99 c_80 (S_X9_intAt (by omega) h13) (by omega) rfl rfl (Nat.le_of_ble_eq_true rfl) rfl ?_
          refine J_istore (L' := [(6, .int r12), (0, .ref 80), (1, .int v1), (2, .int v2), (3, .int v3), (4, .int v4), (5, .int v5)]) dX9_cuffs_102 (by decide) rfl ?_
          refine J_aload_n (j := 1) dX9_cuffs_104 rfl rfl ?_
          refine J_iload_n (j := 2) dX9_cuffs_105 rfl rfl ?_
          refine J_iload (j := 6) dX9_cuffs_106 rfl ?_
          refine J_iconst (v := 1) dX9_cuffs_108 (by decide) ?_
          refine J_iadd dX9_cuffs_109 ?_
          obtain ⟨r14, h15, hF⟩ := ob_some hF
          refine JM_callVi (As := [.int v1, .int (v5 + 1)]) (S := []) lkV_WithOneHandModel_126_X9_intAt rfl (by decide) dX9_cuffs_110 c_80 (S_X9_intAt (by omega) h15) (by omega) rfl rfl (Nat.le_of_ble_eq_true rfl) rfl ?_
          refine J_istore (L' := [(7, .int r14), (6, .int r12), (0, .ref 80), (1, .int v1), (2, .int v2), (3, .int v3), (4, .int v4), (5, .int v5)]) dX9_cuffs_113 (by decide) rfl ?_
          refine J_aload_n (j := 2) dX9_cuffs_115 rfl rfl ?_
          refine J_iload_n (j := 3) dX9_cuffs_116 rfl rfl ?_
          refine J_iload (j := 7) dX9_cuffs_117 rfl ?_
          refine J_iconst (v := 2) dX9_cuffs_119 (by decide) ?_
          refine J_iadd dX9_cuffs_120 ?_
          obtain ⟨r16, h17, hF⟩ := ob_some hF
          refine JM_callVi (As := [.int v1, .int (v5 + 2)]) (S := []) lkV_WithOneHandModel_126_X9_intAt rfl (by decide) dX9_cuffs_121 c_80 (S_X9_intAt (by omega) h17) (by omega) rfl rfl (Nat.le_of_ble_eq_true rfl) rfl ?_
          refine J_istore (L' := [(8, .int r16), (7, .int r14), (6, .int r12), (0, .ref 80), (1, .int v1), (2, .int v2), (3, .int v3), (4, .int v4), (5, .int v5)]) dX9_cuffs_124 (by decide) rfl ?_
          refine J_aload_n (j := 3) dX9_cuffs_126 rfl rfl ?_
          refine J_iload (j := 2) dX9_cuffs_127 rfl ?_
          refine J_iconst (v := 0) dX9_cuffs_129 (by decide) ?_
          refine J_bipush (v := 9) dX9_cuffs_130 (by decide) ?_
          refine JM_callVi (As := [.int r12, .int 0, .int 9]) (S := []) lkV_WithOneHandModel_114_X9_isIn rfl (by decide) dX9_cuffs_132 c_80 (S_X9_isIn (by omega) rfl) (by omega) rfl rfl (Nat.le_of_ble_eq_true rfl) rfl ?_
          refine J_ifb_eq (tgt := 161) dX9_cuffs_135 (by decide) (fun q18 => ?_) (fun q18 => ?_)
          · rw [if_neg q18] at hF
            refine J_iload (j := 7) dX9_cuffs_161 rfl ?_
            obtain ⟨e_r, e_z⟩ := someP hF
            subst e_r
            subst e_z
            exact J_ireturn rfl rfl dX9_cuffs_163 ⟨rfl, rfl⟩
          · rw [if_pos q18] at hF
            refine J_aload_n (j := 3) dX9_cuffs_138 rfl rfl ?_
            refine J_iload (j := 1) dX9_cuffs_139 rfl ?_
            refine J_iconst (v := 0) dX9_cuffs_141 (by decide) ?_
            refine J_bipush (v := 9) dX9_cuffs_142 (by decide) ?_
            refine JM_callVi (As := [.int r14, .int 0, .int 9]) (S := []) lkV_WithOneHandModel_114_X9_isIn rfl (by decide) dX9_cuffs_144 c_80 (S_X9_isIn (by omega) rfl) (by omega) rfl rfl (Nat.le_of_ble_eq_true rfl) rfl ?_
            refine J_ifb_eq (tgt := 161) dX9_cuffs_147 (by decide) (fun q19 => ?_) (fun q19 => ?_)
            · rw [if_neg q19] at hF
              refine J_iload (j := 7) dX9_cuffs_161 rfl ?_
              obtain ⟨e_r, e_z⟩ := someP hF
              subst e_r
              subst e_z
              exact J_ireturn rfl rfl dX9_cuffs_163 ⟨rfl, rfl⟩
            · rw [if_pos q19] at hF
              refine J_aload_n (j := 3) dX9_cuffs_150 rfl rfl ?_
              refine J_iload (j := 0) dX9_cuffs_151 rfl ?_
              refine J_iconst (v := 0) dX9_cuffs_153 (by decide) ?_
              refine J_iconst (v := 1) dX9_cuffs_154 (by decide) ?_
              refine JM_callVi (As := [.int r16, .int 0, .int 1]) (S := []) lkV_WithOneHandModel_114_X9_isIn rfl (by decide) dX9_cuffs_155 c_80 (S_X9_isIn (by omega) rfl) (by omega) rfl rfl (Nat.le_of_ble_eq_true rfl) rfl ?_
              refine J_ifb_ne (tgt := 164) dX9_cuffs_158 (by decide) (fun q20 => ?_) (fun q20 => ?_)
              · rw [if_pos q20] at hF
                refine J_aload_n (j := 3) dX9_cuffs_164 rfl rfl ?_
                refine J_iload (j := 2) dX9_cuffs_165 rfl ?_
                refine J_iload (j := 1) dX9_cuffs_167 rfl ?_
                refine J_iload (j := 0) dX9_cuffs_169 rfl ?_
                obtain ⟨r21, m22, h23, hF⟩ := ob2_some hF
                refine JM_callVi (As := [.int r12, .int r14, .int r16]) (S := []) lkV_WithOneHandModel_118_X9_adds rfl (by decide) dX9_cuffs_171 c_80 (S_X9_adds (by omega) h23) (by omega) rfl rfl (Nat.le_of_ble_eq_true rfl) rfl ?_
                refine J_pop dX9_cuffs_174 rfl ?_
                refine J_iinc (j := 7) (v := v4 + 1) (L' := [(4, .int (v4 + 1)), (8, .int r16), (7, .int r14), (6, .int r12), (0, .ref 80), (1, .int v1), (2, .int v2), (3, .int v3), (5, .int v5)]) dX9_cuffs_175 rfl rfl (by decide) rfl ?_
                refine J_iinc (j := 8) (v := v5 + 3) (L' := [(5, .int (v5 + 3)), (4, .int (v4 + 1)), (8, .int r16), (7, .int r14), (6, .int r12), (0, .ref 80), (1, .int v1), (2, .int v2), (3, .int v3)]) dX9_cuffs_178 rfl rfl (by decide) rfl ?_
                refine J_goto (tgt := 60) dX9_cuffs_181 (by decide) ?_
                refine J_sub [5, 6, 7, 8, 1, 0] rfl ?_
                exact hK60 _ _ _ _ _ _ _ _  hF
              · rw [if_neg q20] at hF
                refine J_iload (j := 7) dX9_cuffs_161 rfl ?_
                obtain ⟨e_r, e_z⟩ := someP hF
                subst e_r
                subst e_z
                exact J_ireturn rfl rfl dX9_cuffs_163 ⟨rfl, rfl⟩
        · rw [if_pos q11] at hF
          refine J_iload (j := 4) dX9_cuffs_92 rfl ?_
          obtain ⟨e_r, e_z⟩ := someP hF
          subst e_r
          subst e_z
          exact J_ireturn rfl rfl dX9_cuffs_94 ⟨rfl, rfl⟩
def f_X9_cuffs_60  : Nat → Int32 → Int32 → Int32 → Int32 → Int32 → MM → Option (Int32 × MM)
  | 0 => fun _ _ _ _ _ _ => none
  | n + 1 => fun v1 v2 v3 v4 v5 m => B_X9_cuffs_60 (f_X9_cuffs_60  n) v1 v2 v3 v4 v5 m
theorem Sf_X9_cuffs_60 {g : GC} {d : Nat} {x : MX} (hd : 2 ≤ d)  : ∀ (n : Nat) (v1 : Int32) (v2 : Int32) (v3 : Int32) (v4 : Int32) (v5 : Int32) (m : MM) (r : Int32) (z : MM), f_X9_cuffs_60  n v1 v2 v3 v4 v5 m = some (r, z) → J g m_X9_cuffs d 0 0 60 [(0, .ref 80), (1, .int v1), (2, .int v2), (3, .int v3), (4, .int v4), (5, .int v5)] [] (ST x m) 0 0 (EQ (some (.int r)) (ST x z)) := by
  intro n
  induction n with
  | zero => intro v1 v2 v3 v4 v5 m r z  hF; exact absurd hF (fun q => by cases q)
  | succ n ih =>
    intro v1 v2 v3 v4 v5 m r z  hF
    exact SB_X9_cuffs_60 hd (fun v1 v2 v3 v4 v5 m r z  hF => ih v1 v2 v3 v4 v5 m r z  hF) hF
def f_X9_cuffs (a1 : Int32) (a2 : Int32) (a3 : Int32) (m : MM) : Option (Int32 × MM) :=
  if (f_X9_isShelf a1) = true then
  if (f_X9_isIn a3 1 6) = true then
  if inb a1 6 = true then
  if (mi m 105 (ix a1)) = 0 then
  some (0, m)
  else
  if (mi m 105 (ix a1)) = 2 then
  if (mi m 106 (ix a1)) = 0 then
  f_X9_cuffs_60 LF a1 a2 a3 0 a2 m
  else
  some ((-12), m)
  else
  some ((-12), m)
  else none
  else
  some ((-1), m)
  else
  some ((-1), m)
theorem S_X9_cuffs {g : GC} {d : Nat} {a1 : Int32} {a2 : Int32} {a3 : Int32} {x : MX} {m : MM} {r : Int32} {z : MM} (hd : 2 ≤ d) 
  (hF : f_X9_cuffs a1 a2 a3 m = some (r, z)) : JC g m_X9_cuffs d 0 0 [.ref 80, .int a1, .int a2, .int a3] (ST x m) (EQ (some (.int r)) (ST x z)) := by
  refine JC.of (by decide +kernel) (Nat.le_of_ble_eq_true rfl) ?_
  change J g m_X9_cuffs d 0 0 0 [(0, .ref 80), (1, .int a1), (2, .int a2), (3, .int a3)] [] (ST x m) 0 0 (EQ (some (.int r)) (ST x z))
  unfold f_X9_cuffs at hF
  refine J_aload_n (j := 0) dX9_cuffs_0 rfl rfl ?_
  refine J_iload_n (j := 1) dX9_cuffs_1 rfl rfl ?_
  refine JM_callVi (As := [.int a1]) (S := []) lkV_WithOneHandModel_122_X9_isShelf rfl (by decide) dX9_cuffs_2 c_80 (S_X9_isShelf (by omega) rfl) (by omega) rfl rfl (Nat.le_of_ble_eq_true rfl) rfl ?_
  refine J_ifb_eq (tgt := 19) dX9_cuffs_5 (by decide) (fun q1 => ?_) (fun q1 => ?_)
  · rw [if_neg q1] at hF
    refine J_iconst (v := (-1)) dX9_cuffs_19 (by decide) ?_
    obtain ⟨e_r, e_z⟩ := someP hF
    subst e_r
    subst e_z
    exact J_ireturn rfl rfl dX9_cuffs_20 ⟨rfl, rfl⟩
  · rw [if_pos q1] at hF
    refine J_aload_n (j := 0) dX9_cuffs_8 rfl rfl ?_
    refine J_iload_n (j := 3) dX9_cuffs_9 rfl rfl ?_
    refine J_iconst (v := 1) dX9_cuffs_10 (by decide) ?_
    refine J_bipush (v := 6) dX9_cuffs_11 (by decide) ?_
    refine JM_callVi (As := [.int a3, .int 1, .int 6]) (S := []) lkV_WithOneHandModel_114_X9_isIn rfl (by decide) dX9_cuffs_13 c_80 (S_X9_isIn (by omega) rfl) (by omega) rfl rfl (Nat.le_of_ble_eq_true rfl) rfl ?_
    refine J_ifb_ne (tgt := 21) dX9_cuffs_16 (by decide) (fun q2 => ?_) (fun q2 => ?_)
    · rw [if_pos q2] at hF
      refine J_aload_n (j := 0) dX9_cuffs_21 rfl rfl ?_
      refine JM_getR (r := 105) fl_WithOneHandModel_89_8 dX9_cuffs_22 c_80 rfl rfl ?_
      refine J_iload_n (j := 1) dX9_cuffs_25 rfl rfl ?_
      obtain ⟨b3, hF⟩ := chk hF
      refine JM_iald (j := ix a1) dX9_cuffs_26 c_105 (inb_vp b3) rfl ?_
      refine J_if_ne (tgt := 32) dX9_cuffs_27 (by decide) (fun q4 => ?_) (fun q4 => ?_)
      · rw [if_neg q4] at hF
        refine J_aload_n (j := 0) dX9_cuffs_32 rfl rfl ?_
        refine JM_getR (r := 105) fl_WithOneHandModel_89_8 dX9_cuffs_33 c_80 rfl rfl ?_
        refine J_iload_n (j := 1) dX9_cuffs_36 rfl rfl ?_
        refine JM_iald (j := ix a1) dX9_cuffs_37 c_105 (inb_vp b3) rfl ?_
        refine J_iconst (v := 2) dX9_cuffs_38 (by decide) ?_
        refine J_icmp_ne (tgt := 51) dX9_cuffs_39 (by decide) (fun q5 => ?_) (fun q5 => ?_)
        · rw [if_neg q5] at hF
          refine J_bipush (v := (-12)) dX9_cuffs_51 (by decide) ?_
          obtain ⟨e_r, e_z⟩ := someP hF
          subst e_r
          subst e_z
          exact J_ireturn rfl rfl dX9_cuffs_53 ⟨rfl, rfl⟩
        · rw [if_pos q5] at hF
          refine J_aload_n (j := 0) dX9_cuffs_42 rfl rfl ?_
          refine JM_getR (r := 106) fl_WithOneHandModel_92_8 dX9_cuffs_43 c_80 rfl rfl ?_
          refine J_iload_n (j := 1) dX9_cuffs_46 rfl rfl ?_
          refine JM_iald (j := ix a1) dX9_cuffs_47 c_106 (inb_vp b3) rfl ?_
          refine J_if_eq (tgt := 54) dX9_cuffs_48 (by decide) (fun q6 => ?_) (fun q6 => ?_)
          · rw [if_pos q6] at hF
            refine J_iconst (v := 0) dX9_cuffs_54 (by decide) ?_
            refine J_istore (L' := [(4, .int 0), (0, .ref 80), (1, .int a1), (2, .int a2), (3, .int a3)]) dX9_cuffs_55 (by decide) rfl ?_
            refine J_iload_n (j := 3) dX9_cuffs_57 rfl rfl ?_
            refine J_istore (L' := [(5, .int a2), (4, .int 0), (0, .ref 80), (1, .int a1), (2, .int a2), (3, .int a3)]) dX9_cuffs_58 (by decide) rfl ?_
            refine J_sub [2, 3, 4, 5, 1, 0] rfl ?_
            exact Sf_X9_cuffs_60 hd _ _ _ _ _ _ _ _ _ hF
          · rw [if_neg q6] at hF
            refine J_bipush (v := (-12)) dX9_cuffs_51 (by decide) ?_
            obtain ⟨e_r, e_z⟩ := someP hF
            subst e_r
            subst e_z
            exact J_ireturn rfl rfl dX9_cuffs_53 ⟨rfl, rfl⟩
      · rw [if_pos q4] at hF
        refine J_iconst (v := 0) dX9_cuffs_30 (by decide) ?_
        obtain ⟨e_r, e_z⟩ := someP hF
        subst e_r
        subst e_z
        exact J_ireturn rfl rfl dX9_cuffs_31 ⟨rfl, rfl⟩
    · rw [if_neg q2] at hF
      refine J_iconst (v := (-1)) dX9_cuffs_19 (by decide) ?_
      obtain ⟨e_r, e_z⟩ := someP hF
      subst e_r
      subst e_z
      exact J_ireturn rfl rfl dX9_cuffs_20 ⟨rfl, rfl⟩
