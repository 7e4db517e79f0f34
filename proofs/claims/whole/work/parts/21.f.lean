def f_X8_spot (a1 : Int32) (a2 : Int32) (x : MX) : Option (Int32 × MX) :=
  ob (f_X8_canBe 11 a1) (fun r1 =>
  if r1 = true then
  ob (f_X8_canBe 12 a2) (fun r4 =>
  if r4 = true then
  if (xi x 5 14) < 8 then
  if inb (xi x 5 14) 8 = true then
  letx (xs x 18 (ix (xi x 5 14)) a1) (fun x9 =>
  if inb (xi x9 5 14) 8 = true then
  letx (xs x9 19 (ix (xi x9 5 14)) a2) (fun x11 =>
  letx (xs x11 5 14 ((xi x11 5 14) + 1)) (fun x12 =>
  some (xi x11 5 14, x12)))
  else none)
  else none
  else
  some ((-3), x)
  else
  some ((-1), x))
  else
  some ((-1), x))
theorem S_X8_spot {g : GC} {d : Nat} {a1 : Int32} {a2 : Int32} {x : MX} {m : MM} {r : Int32} {z : MX} (hd : 2 ≤ d) 
  (hF : f_X8_spot a1 a2 x = some (r, z)) : JC g m_X8_spot d 0 0 [.ref 5, .int a1, .int a2] (ST x m) (EQ (some (.int r)) (ST z m)) := by
  refine JC.of (by decide +kernel) (Nat.le_of_ble_eq_true rfl) ?_
  change J g m_X8_spot d 0 0 0 [(0, .ref 5), (1, .int a1), (2, .int a2)] [] (ST x m) 0 0 (EQ (some (.int r)) (ST z m))
  unfold f_X8_spot at hF
  refine J_bipush (v := 11) dX8_spot_0 (by decide) ?_
  refine J_iload_n (j := 1) dX8_spot_2 rfl rfl ?_
  obtain ⟨r1, h2, hF⟩ := ob_some hF
  refine J_callSi (As := [.int 11, .int a1]) (S := []) lkS_WithOneHand_76_X8_canBe dX8_spot_3 (S_X8_canBe (by omega) h2) (by omega) rfl rfl (Nat.le_of_ble_eq_true rfl) rfl ?_
  refine J_ifb_eq (tgt := 18) dX8_spot_6 (by decide) (fun q3 => ?_) (fun q3 => ?_)
  · rw [if_neg q3] at hF
    refine J_iconst (v := (-1)) dX8_spot_18 (by decide) ?_
    obtain ⟨e_r, e_z⟩ := someP hF
    subst e_r
    subst e_z
    exact J_ireturn rfl rfl dX8_spot_19 ⟨rfl, rfl⟩
  · rw [if_pos q3] at hF
    refine J_bipush (v := 12) dX8_spot_9 (by decide) ?_
    refine J_iload_n (j := 2) dX8_spot_11 rfl rfl ?_
    obtain ⟨r4, h5, hF⟩ := ob_some hF
    refine J_callSi (As := [.int 12, .int a2]) (S := []) lkS_WithOneHand_76_X8_canBe dX8_spot_12 (S_X8_canBe (by omega) h5) (by omega) rfl rfl (Nat.le_of_ble_eq_true rfl) rfl ?_
    refine J_ifb_ne (tgt := 20) dX8_spot_15 (by decide) (fun q6 => ?_) (fun q6 => ?_)
    · rw [if_pos q6] at hF
      refine J_aload_n (j := 0) dX8_spot_20 rfl rfl ?_
      refine JX_getI fl_WithOneHand_106_7 dX8_spot_21 c_5 rfl ?_
      refine J_bipush (v := 8) dX8_spot_24 (by decide) ?_
      refine J_icmp_lt (tgt := 32) dX8_spot_26 (by decide) (fun q7 => ?_) (fun q7 => ?_)
      · rw [if_pos q7] at hF
        refine J_aload_n (j := 0) dX8_spot_32 rfl rfl ?_
        refine JX_getR (r := 6) fl_WithOneHand_11_7 dX8_spot_33 c_5 rfl rfl ?_
        refine J_bipush (v := 11) dX8_spot_36 (by decide) ?_
        refine JX_aald (j := 11) (r := 18) (by decide) dX8_spot_38 c_6 (by unfold vp_in; decide) (by decide) rfl ?_
        refine J_aload_n (j := 0) dX8_spot_39 rfl rfl ?_
        refine JX_getI fl_WithOneHand_106_7 dX8_spot_40 c_5 rfl ?_
        refine J_iload_n (j := 1) dX8_spot_43 rfl rfl ?_
        obtain ⟨b8, hF⟩ := chk hF
        obtain ⟨x9, e_x9, hF⟩ := letx_eq hF
        refine JX_iast (j := ix (xi x 5 14)) dX8_spot_44 c_18 (inb_vp b8) rfl ?_
        rw [← e_x9]
        refine J_aload_n (j := 0) dX8_spot_45 rfl rfl ?_
        refine JX_getR (r := 6) fl_WithOneHand_11_7 dX8_spot_46 c_5 rfl rfl ?_
        refine J_bipush (v := 12) dX8_spot_49 (by decide) ?_
        refine JX_aald (j := 12) (r := 19) (by decide) dX8_spot_51 c_6 (by unfold vp_in; decide) (by decide) rfl ?_
        refine J_aload_n (j := 0) dX8_spot_52 rfl rfl ?_
        refine JX_getI fl_WithOneHand_106_7 dX8_spot_53 c_5 rfl ?_
        refine J_iload_n (j := 2) dX8_spot_56 rfl rfl ?_
        obtain ⟨b10, hF⟩ := chk hF
        obtain ⟨x11, e_x11, hF⟩ := letx_eq hF
        refine JX_iast (j := ix (xi x9 5 14)) dX8_spot_57 c_19 (inb_vp b10) rfl ?_
        rw [← e_x11]
        refine J_aload_n (j := 0) dX8_spot_58 rfl rfl ?_
        refine J_dup dX8_spot_59 rfl ?_
        refine JX_getI fl_WithOneHand_106_7 dX8_spot_60 c_5 rfl ?_
        refine J_dup_x1 dX8_spot_63 rfl rfl ?_
        refine J_iconst (v := 1) dX8_spot_64 (by decide) ?_
        refine J_iadd dX8_spot_65 ?_
        obtain ⟨x12, e_x12, hF⟩ := letx_eq hF
        refine JX_putI fl_WithOneHand_106_7 dX8_spot_66 c_5 rfl rfl rfl ?_
        rw [← e_x12]
        obtain ⟨e_r, e_z⟩ := someP hF
        subst e_r
        subst e_z
        exact J_ireturn rfl rfl dX8_spot_69 ⟨rfl, rfl⟩
      · rw [if_neg q7] at hF
        refine J_bipush (v := (-3)) dX8_spot_29 (by decide) ?_
        obtain ⟨e_r, e_z⟩ := someP hF
        subst e_r
        subst e_z
        exact J_ireturn rfl rfl dX8_spot_31 ⟨rfl, rfl⟩
    · rw [if_neg q6] at hF
      refine J_iconst (v := (-1)) dX8_spot_18 (by decide) ?_
      obtain ⟨e_r, e_z⟩ := someP hF
      subst e_r
      subst e_z
      exact J_ireturn rfl rfl dX8_spot_19 ⟨rfl, rfl⟩
def f_X9_spot (a1 : Int32) (a2 : Int32) (m : MM) : Option (Int32 × MM) :=
  if (f_X9_isIn a1 1 99) = true then
  if (f_X9_isIn a2 1 99) = true then
  if (mi m 80 2) = 8 then
  some ((-3), m)
  else
  if inb (mi m 80 2) 8 = true then
  letx (ms m 91 (ix (mi m 80 2)) a1) (fun m5 =>
  if inb (mi m5 80 2) 8 = true then
  letx (ms m5 92 (ix (mi m5 80 2)) a2) (fun m7 =>
  letx (ms m7 80 2 ((mi m7 80 2) + 1)) (fun m8 =>
  some (mi m7 80 2, m8)))
  else none)
  else none
  else
  some ((-1), m)
  else
  some ((-1), m)
theorem S_X9_spot {g : GC} {d : Nat} {a1 : Int32} {a2 : Int32} {x : MX} {m : MM} {r : Int32} {z : MM} (hd : 2 ≤ d) 
  (hF : f_X9_spot a1 a2 m = some (r, z)) : JC g m_X9_spot d 0 0 [.ref 80, .int a1, .int a2] (ST x m) (EQ (some (.int r)) (ST x z)) := by
  refine JC.of (by decide +kernel) (Nat.le_of_ble_eq_true rfl) ?_
  change J g m_X9_spot d 0 0 0 [(0, .ref 80), (1, .int a1), (2, .int a2)] [] (ST x m) 0 0 (EQ (some (.int r)) (ST x z))
  unfold f_X9_spot at hF
  refine J_aload_n (j := 0) dX9_spot_0 rfl rfl ?_
  refine J_iload_n (j := 1) dX9_spot_1 rfl rfl ?_
  refine J_iconst (v := 1) dX9_spot_2 (by decide) ?_
  refine J_bipush (v := 99) dX9_spot_3 (by decide) ?_
  refine JM_callVi (As := [.int a1, .int 1, .int 99]) (S := []) lkV_WithOneHandModel_114_X9_isIn rfl (by decide) dX9_spot_5 c_80 (S_X9_isIn (by omega) rfl) (by omega) rfl rfl (Nat.le_of_ble_eq_true rfl) rfl ?_
  refine J_ifb_eq (tgt := 22) dX9_spot_8 (by decide) (fun q1 => ?_) (fun q1 => ?_)
  · rw [if_neg q1] at hF
    refine J_iconst (v := (-1)) dX9_spot_22 (by decide) ?_
    obtain ⟨e_r, e_z⟩ := someP hF
    subst e_r
    subst e_z
    exact J_ireturn rfl rfl dX9_spot_23 ⟨rfl, rfl⟩
  · rw [if_pos q1] at hF
    refine J_aload_n (j := 0) dX9_spot_11 rfl rfl ?_
    refine J_iload_n (j := 2) dX9_spot_12 rfl rfl ?_
    refine J_iconst (v := 1) dX9_spot_13 (by decide) ?_
    refine J_bipush (v := 99) dX9_spot_14 (by decide) ?_
    refine JM_callVi (As := [.int a2, .int 1, .int 99]) (S := []) lkV_WithOneHandModel_114_X9_isIn rfl (by decide) dX9_spot_16 c_80 (S_X9_isIn (by omega) rfl) (by omega) rfl rfl (Nat.le_of_ble_eq_true rfl) rfl ?_
    refine J_ifb_ne (tgt := 24) dX9_spot_19 (by decide) (fun q2 => ?_) (fun q2 => ?_)
    · rw [if_pos q2] at hF
      refine J_aload_n (j := 0) dX9_spot_24 rfl rfl ?_
      refine JM_getI fl_WithOneHandModel_130_8 dX9_spot_25 c_80 rfl ?_
      refine J_bipush (v := 8) dX9_spot_28 (by decide) ?_
      refine J_icmp_ne (tgt := 36) dX9_spot_30 (by decide) (fun q3 => ?_) (fun q3 => ?_)
      · rw [if_neg q3] at hF
        refine J_aload_n (j := 0) dX9_spot_36 rfl rfl ?_
        refine JM_getR (r := 91) fl_WithOneHandModel_44_8 dX9_spot_37 c_80 rfl rfl ?_
        refine J_aload_n (j := 0) dX9_spot_40 rfl rfl ?_
        refine JM_getI fl_WithOneHandModel_130_8 dX9_spot_41 c_80 rfl ?_
        refine J_iload_n (j := 1) dX9_spot_44 rfl rfl ?_
        obtain ⟨b4, hF⟩ := chk hF
        obtain ⟨m5, e_m5, hF⟩ := letx_eq hF
        refine JM_iast (j := ix (mi m 80 2)) dX9_spot_45 c_91 (inb_vp b4) rfl ?_
        rw [← e_m5]
        refine J_aload_n (j := 0) dX9_spot_46 rfl rfl ?_
        refine JM_getR (r := 92) fl_WithOneHandModel_47_8 dX9_spot_47 c_80 rfl rfl ?_
        refine J_aload_n (j := 0) dX9_spot_50 rfl rfl ?_
        refine JM_getI fl_WithOneHandModel_130_8 dX9_spot_51 c_80 rfl ?_
        refine J_iload_n (j := 2) dX9_spot_54 rfl rfl ?_
        obtain ⟨b6, hF⟩ := chk hF
        obtain ⟨m7, e_m7, hF⟩ := letx_eq hF
        refine JM_iast (j := ix (mi m5 80 2)) dX9_spot_55 c_92 (inb_vp b6) rfl ?_
        rw [← e_m7]
        refine J_aload_n (j := 0) dX9_spot_56 rfl rfl ?_
        refine J_dup dX9_spot_57 rfl ?_
        refine JM_getI fl_WithOneHandModel_130_8 dX9_spot_58 c_80 rfl ?_
        refine J_dup_x1 dX9_spot_61 rfl rfl ?_
        refine J_iconst (v := 1) dX9_spot_62 (by decide) ?_
        refine J_iadd dX9_spot_63 ?_
        obtain ⟨m8, e_m8, hF⟩ := letx_eq hF
        refine JM_putI fl_WithOneHandModel_130_8 dX9_spot_64 c_80 rfl rfl rfl ?_
        rw [← e_m8]
        obtain ⟨e_r, e_z⟩ := someP hF
        subst e_r
        subst e_z
        exact J_ireturn rfl rfl dX9_spot_67 ⟨rfl, rfl⟩
      · rw [if_pos q3] at hF
        refine J_bipush (v := (-3)) dX9_spot_33 (by decide) ?_
        obtain ⟨e_r, e_z⟩ := someP hF
        subst e_r
        subst e_z
        exact J_ireturn rfl rfl dX9_spot_35 ⟨rfl, rfl⟩
    · rw [if_neg q2] at hF
      refine J_iconst (v := (-1)) dX9_spot_22 (by decide) ?_
      obtain ⟨e_r, e_z⟩ := someP hF
      subst e_r
      subst e_z
      exact J_ireturn rfl rfl dX9_spot_23 ⟨rfl, rfl⟩
def f_X8_holdersOf (a1 : Int32) (x : MX) : Int32 :=
  if a1 < 0 then
  0
  else
  if a1 ≤ 12 then
  if 1 < a1 then
  if 5 < a1 then
  if 8 < a1 then
  if 10 < a1 then
  xi x 5 14
  else
  1
  else
  2
  else
  xi x 5 13
  else
  xi x 5 12
  else
  0
theorem S_X8_holdersOf {g : GC} {d : Nat} {a1 : Int32} {x : MX} {m : MM} {r : Int32} (hd : 1 ≤ d) 
  (hF : f_X8_holdersOf a1 x = r) : JC g m_X8_holdersOf d 0 0 [.ref 5, .int a1] (ST x m) (EQ (some (.int r)) (ST x m)) := by
  refine JC.of (by decide +kernel) (Nat.le_of_ble_eq_true rfl) ?_
  change J g m_X8_holdersOf d 0 0 0 [(0, .ref 5), (1, .int a1)] [] (ST x m) 0 0 (EQ (some (.int r)) (ST x m))
  unfold f_X8_holdersOf at hF
  refine J_iload_n (j := 1) dX8_holdersOf_0 rfl rfl ?_
  refine J_if_lt (tgt := 10) dX8_holdersOf_1 (by decide) (fun q1 => ?_) (fun q1 => ?_)
  · rw [if_pos q1] at hF
    refine J_iconst (v := 0) dX8_holdersOf_10 (by decide) ?_
    subst hF
    exact J_ireturn rfl rfl dX8_holdersOf_11 ⟨rfl, rfl⟩
  · rw [if_neg q1] at hF
    refine J_iload_n (j := 1) dX8_holdersOf_4 rfl rfl ?_
    refine J_bipush (v := 12) dX8_holdersOf_5 (by decide) ?_
    refine J_icmp_le (tgt := 12) dX8_holdersOf_7 (by decide) (fun q2 => ?_) (fun q2 => ?_)
    · rw [if_pos q2] at hF
      refine J_iload_n (j := 1) dX8_holdersOf_12 rfl rfl ?_
      refine J_iconst (v := 1) dX8_holdersOf_13 (by decide) ?_
      refine J_icmp_gt (tgt := 22) dX8_holdersOf_14 (by decide) (fun q3 => ?_) (fun q3 => ?_)
      · rw [if_pos q3] at hF
        refine J_iload_n (j := 1) dX8_holdersOf_22 rfl rfl ?_
        refine J_iconst (v := 5) dX8_holdersOf_23 (by decide) ?_
        refine J_icmp_gt (tgt := 32) dX8_holdersOf_24 (by decide) (fun q4 => ?_) (fun q4 => ?_)
        · rw [if_pos q4] at hF
          refine J_iload_n (j := 1) dX8_holdersOf_32 rfl rfl ?_
          refine J_bipush (v := 8) dX8_holdersOf_33 (by decide) ?_
          refine J_icmp_gt (tgt := 40) dX8_holdersOf_35 (by decide) (fun q5 => ?_) (fun q5 => ?_)
          · rw [if_pos q5] at hF
            refine J_iload_n (j := 1) dX8_holdersOf_40 rfl rfl ?_
            refine J_bipush (v := 10) dX8_holdersOf_41 (by decide) ?_
            refine J_icmp_gt (tgt := 50) dX8_holdersOf_43 (by decide) (fun q6 => ?_) (fun q6 => ?_)
            · rw [if_pos q6] at hF
              refine J_aload_n (j := 0) dX8_holdersOf_50 rfl rfl ?_
              refine JX_getI fl_WithOneHand_106_7 dX8_holdersOf_51 c_5 rfl ?_
              subst hF
              exact J_ireturn rfl rfl dX8_holdersOf_54 ⟨rfl, rfl⟩
            · rw [if_neg q6] at hF
              refine J_iconst (v := 1) dX8_holdersOf_46 (by decide) ?_
              refine J_goto (tgt := 54) dX8_holdersOf_47 (by decide) ?_
              subst hF
              exact J_ireturn rfl rfl dX8_holdersOf_54 ⟨rfl, rfl⟩
          · rw [if_neg q5] at hF
            refine J_iconst (v := 2) dX8_holdersOf_38 (by decide) ?_
            subst hF
            exact J_ireturn rfl rfl dX8_holdersOf_39 ⟨rfl, rfl⟩
        · rw [if_neg q4] at hF
          refine J_aload_n (j := 0) dX8_holdersOf_27 rfl rfl ?_
          refine JX_getI fl_WithOneHand_84_7 dX8_holdersOf_28 c_5 rfl ?_
          subst hF
          exact J_ireturn rfl rfl dX8_holdersOf_31 ⟨rfl, rfl⟩
      · rw [if_neg q3] at hF
        refine J_aload_n (j := 0) dX8_holdersOf_17 rfl rfl ?_
        refine JX_getI fl_WithOneHand_80_7 dX8_holdersOf_18 c_5 rfl ?_
        subst hF
        exact J_ireturn rfl rfl dX8_holdersOf_21 ⟨rfl, rfl⟩
    · rw [if_neg q2] at hF
      refine J_iconst (v := 0) dX8_holdersOf_10 (by decide) ?_
      subst hF
      exact J_ireturn rfl rfl dX8_holdersOf_11 ⟨rfl, rfl⟩
def f_X8_isThere (a1 : Int32) (a2 : Int32) (x : MX) : Bool :=
  if a1 < 0 then
  false
  else
  if (f_X8_holdersOf a2 x) ≤ a1 then
  false
  else
  true
theorem S_X8_isThere {g : GC} {d : Nat} {a1 : Int32} {a2 : Int32} {x : MX} {m : MM} {r : Bool} (hd : 2 ≤ d) 
  (hF : f_X8_isThere a1 a2 x = r) : JC g m_X8_isThere d 0 0 [.ref 5, .int a1, .int a2] (ST x m) (EQ (some (.int (b2i r))) (ST x m)) := by
  refine JC.of (by decide +kernel) (Nat.le_of_ble_eq_true rfl) ?_
  change J g m_X8_isThere d 0 0 0 [(0, .ref 5), (1, .int a1), (2, .int a2)] [] (ST x m) 0 0 (EQ (some (.int (b2i r))) (ST x m))
  unfold f_X8_isThere at hF
  refine J_iload_n (j := 1) dX8_isThere_0 rfl rfl ?_
  refine J_if_lt (tgt := 17) dX8_isThere_1 (by decide) (fun q1 => ?_) (fun q1 => ?_)
  · rw [if_pos q1] at hF
    refine J_iconst (v := 0) dX8_isThere_17 (by decide) ?_
    subst hF
    exact J_ireturn rfl rfl dX8_isThere_18 ⟨rfl, rfl⟩
  · rw [if_neg q1] at hF
    refine J_iload_n (j := 1) dX8_isThere_4 rfl rfl ?_
    refine J_aload_n (j := 0) dX8_isThere_5 rfl rfl ?_
    refine J_iload_n (j := 2) dX8_isThere_6 rfl rfl ?_
    refine JX_callVi (As := [.int a2]) (S := [.int a1]) lkV_WithOneHand_346_X8_holdersOf rfl (by decide) dX8_isThere_7 c_5 (S_X8_holdersOf (by omega) rfl) (by omega) rfl rfl (Nat.le_of_ble_eq_true rfl) rfl ?_
    refine J_icmp_ge (tgt := 17) dX8_isThere_10 (by decide) (fun q2 => ?_) (fun q2 => ?_)
    · rw [if_pos q2] at hF
      refine J_iconst (v := 0) dX8_isThere_17 (by decide) ?_
      subst hF
      exact J_ireturn rfl rfl dX8_isThere_18 ⟨rfl, rfl⟩
    · rw [if_neg q2] at hF
      refine J_iconst (v := 1) dX8_isThere_13 (by decide) ?_
      refine J_goto (tgt := 18) dX8_isThere_14 (by decide) ?_
      subst hF
      exact J_ireturn rfl rfl dX8_isThere_18 ⟨rfl, rfl⟩
def f_X1_forgetOldest (x : MX) : Option MX :=
  letx (xs x 20 4 39) (fun x1 =>
  if ¬ (xi x1 20 4) < 0 then
  if 1 + ix (xi x1 20 4) ≤ 40 then
  if 0 + ix (xi x1 20 4) ≤ 40 then
  letx (xcp x1 21 21 1 0 (ix (xi x1 20 4))) (fun x5 =>
  if ¬ (xi x5 20 4) < 0 then
  if 1 + ix (xi x5 20 4) ≤ 40 then
  if 0 + ix (xi x5 20 4) ≤ 40 then
  letx (xcp x5 22 22 1 0 (ix (xi x5 20 4))) (fun x9 =>
  if ¬ (xi x9 20 4) < 0 then
  if 1 + ix (xi x9 20 4) ≤ 40 then
  if 0 + ix (xi x9 20 4) ≤ 40 then
  letx (xcp x9 23 23 1 0 (ix (xi x9 20 4))) (fun x13 =>
  if ¬ (xi x13 20 4) < 0 then
  if 1 + ix (xi x13 20 4) ≤ 40 then
  if 0 + ix (xi x13 20 4) ≤ 40 then
  letx (xcp x13 24 24 1 0 (ix (xi x13 20 4))) (fun x17 =>
  some x17)
  else none
  else none
  else none)
  else none
  else none
  else none)
  else none
  else none
  else none)
  else none
  else none
  else none)
theorem S_X1_forgetOldest {g : GC} {d : Nat}  {x : MX} {m : MM} {z : MX} (hd : 1 ≤ d) 
  (hF : f_X1_forgetOldest x = some z) : JC g m_X1_forgetOldest d 0 0 [.ref 20] (ST x m) (EQ (none) (ST z m)) := by
  refine JC.of (by decide +kernel) (Nat.le_of_ble_eq_true rfl) ?_
  change J g m_X1_forgetOldest d 0 0 0 [(0, .ref 20)] [] (ST x m) 0 0 (EQ (none) (ST z m))
  unfold f_X1_forgetOldest at hF
  refine J_aload_n (j := 0) dX1_forgetOldest_0 rfl rfl ?_
  refine J_bipush (v := 39) dX1_forgetOldest_1 (by decide) ?_
  obtain ⟨x1, e_x1, hF⟩ := letx_eq hF
  refine JX_putI fl_History_24_1 dX1_forgetOldest_3 c_20 rfl rfl rfl ?_
  rw [← e_x1]
  refine J_aload_n (j := 0) dX1_forgetOldest_6 rfl rfl ?_
  refine JX_getR (r := 21) fl_History_9_1 dX1_forgetOldest_7 c_20 rfl rfl ?_
  refine J_iconst (v := 1) dX1_forgetOldest_10 (by decide) ?_
  refine J_aload_n (j := 0) dX1_forgetOldest_11 rfl rfl ?_
  refine JX_getR (r := 21) fl_History_9_1 dX1_forgetOldest_12 c_20 rfl rfl ?_
  refine J_iconst (v := 0) dX1_forgetOldest_15 (by decide) ?_
  refine J_aload_n (j := 0) dX1_forgetOldest_16 rfl rfl ?_
  refine JX_getI fl_History_24_1 dX1_forgetOldest_17 c_20 rfl ?_
  obtain ⟨b2, hF⟩ := chk hF
  obtain ⟨b3, hF⟩ := chk hF
  obtain ⟨b4, hF⟩ := chk hF
  obtain ⟨x5, e_x5, hF⟩ := letx_eq hF
  refine JX_copyI (a := 1) (b := 0) (n' := ix (xi x1 20 4)) (tb 425 (by decide +kernel)) dX1_forgetOldest_20 c_21 c_21 (by decide) (by decide) b2 (by decide) (by decide) rfl b3 b4 (Nat.le_of_ble_eq_true rfl) ?_
  rw [← e_x5]
  refine J_aload_n (j := 0) dX1_forgetOldest_23 rfl rfl ?_
  refine JX_getR (r := 22) fl_History_15_1 dX1_forgetOldest_24 c_20 rfl rfl ?_
  refine J_iconst (v := 1) dX1_forgetOldest_27 (by decide) ?_
  refine J_aload_n (j := 0) dX1_forgetOldest_28 rfl rfl ?_
  refine JX_getR (r := 22) fl_History_15_1 dX1_forgetOldest_29 c_20 rfl rfl ?_
  refine J_iconst (v := 0) dX1_forgetOldest_32 (by decide) ?_
  refine J_aload_n (j := 0) dX1_forgetOldest_33 rfl rfl ?_
  refine JX_getI fl_History_24_1 dX1_forgetOldest_34 c_20 rfl ?_
  obtain ⟨b6, hF⟩ := chk hF
  obtain ⟨b7, hF⟩ := chk hF
  obtain ⟨b8, hF⟩ := chk hF
  obtain ⟨x9, e_x9, hF⟩ := letx_eq hF
  refine JX_copyI (a := 1) (b := 0) (n' := ix (xi x5 20 4)) (tb 425 (by decide +kernel)) dX1_forgetOldest_37 c_22 c_22 (by decide) (by decide) b6 (by decide) (by decide) rfl b7 b8 (Nat.le_of_ble_eq_true rfl) ?_
  rw [← e_x9]
  refine J_aload_n (j := 0) dX1_forgetOldest_40 rfl rfl ?_
  refine JX_getR (r := 23) fl_History_18_1 dX1_forgetOldest_41 c_20 rfl rfl ?_
  refine J_iconst (v := 1) dX1_forgetOldest_44 (by decide) ?_
  refine J_aload_n (j := 0) dX1_forgetOldest_45 rfl rfl ?_
  refine JX_getR (r := 23) fl_History_18_1 dX1_forgetOldest_46 c_20 rfl rfl ?_
  refine J_iconst (v := 0) dX1_forgetOldest_49 (by decide) ?_
  refine J_aload_n (j := 0) dX1_forgetOldest_50 rfl rfl ?_
  refine JX_getI fl_History_24_1 dX1_forgetOldest_51 c_20 rfl ?_
  obtain ⟨b10, hF⟩ := chk hF
  obtain ⟨b11, hF⟩ := chk hF
  obtain ⟨b12, hF⟩ := chk hF
  obtain ⟨x13, e_x13, hF⟩ := letx_eq hF
  refine JX_copyI (a := 1) (b := 0) (n' := ix (xi x9 20 4)) (tb 425 (by decide +kernel)) dX1_forgetOldest_54 c_23 c_23 (by decide) (by decide) b10 (by decide) (by decide) rfl b11 b12 (Nat.le_of_ble_eq_true rfl) ?_
  rw [← e_x13]
  refine J_aload_n (j := 0) dX1_forgetOldest_57 rfl rfl ?_
  refine JX_getR (r := 24) fl_History_21_1 dX1_forgetOldest_58 c_20 rfl rfl ?_
  refine J_iconst (v := 1) dX1_forgetOldest_61 (by decide) ?_
  refine J_aload_n (j := 0) dX1_forgetOldest_62 rfl rfl ?_
  refine JX_getR (r := 24) fl_History_21_1 dX1_forgetOldest_63 c_20 rfl rfl ?_
  refine J_iconst (v := 0) dX1_forgetOldest_66 (by decide) ?_
  refine J_aload_n (j := 0) dX1_forgetOldest_67 rfl rfl ?_
  refine JX_getI fl_History_24_1 dX1_forgetOldest_68 c_20 rfl ?_
  obtain ⟨b14, hF⟩ := chk hF
  obtain ⟨b15, hF⟩ := chk hF
  obtain ⟨b16, hF⟩ := chk hF
  obtain ⟨x17, e_x17, hF⟩ := letx_eq hF
  refine JX_copyI (a := 1) (b := 0) (n' := ix (xi x13 20 4)) (tb 425 (by decide +kernel)) dX1_forgetOldest_71 c_24 c_24 (by decide) (by decide) b14 (by decide) (by decide) rfl b15 b16 (Nat.le_of_ble_eq_true rfl) ?_
  rw [← e_x17]
  have e_r := Option.some.inj hF
  subst e_r
  exact J_return rfl dX1_forgetOldest_74 ⟨rfl, rfl⟩
def B_X1_note_13 (v1 : Int32) (v2 : Int32) (v3 : Int32) (v4 : Int32) (x : MX) : Option MX :=
  if inb (xi x 20 4) 40 = true then
  letx (xs x 21 (ix (xi x 20 4)) v1) (fun x3 =>
  if inb (xi x3 20 4) 40 = true then
  letx (xs x3 22 (ix (xi x3 20 4)) v2) (fun x5 =>
  if inb (xi x5 20 4) 40 = true then
  letx (xs x5 23 (ix (xi x5 20 4)) v3) (fun x7 =>
  if inb (xi x7 20 4) 40 = true then
  letx (xs x7 24 (ix (xi x7 20 4)) v4) (fun x9 =>
  letx (xs x9 20 4 ((xi x9 20 4) + 1)) (fun x10 =>
  letx (xs x10 20 5 0) (fun x11 =>
  some x11)))
  else none)
  else none)
  else none)
  else none
theorem SB_X1_note_13 {g : GC} {d : Nat} {v1 : Int32} {v2 : Int32} {v3 : Int32} {v4 : Int32} {x : MX} {m : MM} {z : MX} (hd : 2 ≤ d) 
  (hF : B_X1_note_13 v1 v2 v3 v4 x = some z) : J g m_X1_note d 0 0 13 [(0, .ref 20), (1, .int v1), (2, .int v2), (3, .int v3), (4, .int v4)] [] (ST x m) 0 0 (EQ (none) (ST z m)) := by
  unfold B_X1_note_13 at hF
  refine J_aload_n (j := 0) dX1_note_13 rfl rfl ?_
  refine JX_getR (r := 21) fl_History_9_1 dX1_note_14 c_20 rfl rfl ?_
  refine J_aload_n (j := 0) dX1_note_17 rfl rfl ?_
  refine JX_getI fl_History_24_1 dX1_note_18 c_20 rfl ?_
  refine J_iload_n (j := 1) dX1_note_21 rfl rfl ?_
  obtain ⟨b2, hF⟩ := chk hF
  obtain ⟨x3, e_x3, hF⟩ := letx_eq hF
  refine JX_iast (j := ix (xi x 20 4)) dX1_note_22 c_21 (inb_vp b2) rfl ?_
  rw [← e_x3]
  refine J_aload_n (j := 0) dX1_note_23 rfl rfl ?_
  refine JX_getR (r := 22) fl_History_15_1 dX1_note_24 c_20 rfl rfl ?_
  refine J_aload_n (j := 0) dX1_note_27 rfl rfl ?_
  refine JX_getI fl_History_24_1 dX1_note_28 c_20 rfl ?_
  refine J_iload_n (j := 2) dX1_note_31 rfl rfl ?_
  obtain ⟨b4, hF⟩ := chk hF
  obtain ⟨x5, e_x5, hF⟩ := letx_eq hF
  refine JX_iast (j := ix (xi x3 20 4)) dX1_note_32 c_22 (inb_vp b4) rfl ?_
  rw [← e_x5]
  refine J_aload_n (j := 0) dX1_note_33 rfl rfl ?_
  refine JX_getR (r := 23) fl_History_18_1 dX1_note_34 c_20 rfl rfl ?_
  refine J_aload_n (j := 0) dX1_note_37 rfl rfl ?_
  refine JX_getI fl_History_24_1 dX1_note_38 c_20 rfl ?_
  refine J_iload_n (j := 3) dX1_note_41 rfl rfl ?_
  obtain ⟨b6, hF⟩ := chk hF
  obtain ⟨x7, e_x7, hF⟩ := letx_eq hF
  refine JX_iast (j := ix (xi x5 20 4)) dX1_note_42 c_23 (inb_vp b6) rfl ?_
  rw [← e_x7]
  refine J_aload_n (j := 0) dX1_note_43 rfl rfl ?_
  refine JX_getR (r := 24) fl_History_21_1 dX1_note_44 c_20 rfl rfl ?_
  refine J_aload_n (j := 0) dX1_note_47 rfl rfl ?_
  refine JX_getI fl_History_24_1 dX1_note_48 c_20 rfl ?_
  refine J_iload (j := 4) dX1_note_51 rfl ?_
  obtain ⟨b8, hF⟩ := chk hF
  obtain ⟨x9, e_x9, hF⟩ := letx_eq hF
  refine JX_iast (j := ix (xi x7 20 4)) dX1_note_53 c_24 (inb_vp b8) rfl ?_
  rw [← e_x9]
  refine J_aload_n (j := 0) dX1_note_54 rfl rfl ?_
  refine J_dup dX1_note_55 rfl ?_
  refine JX_getI fl_History_24_1 dX1_note_56 c_20 rfl ?_
  refine J_iconst (v := 1) dX1_note_59 (by decide) ?_
  refine J_iadd dX1_note_60 ?_
  obtain ⟨x10, e_x10, hF⟩ := letx_eq hF
  refine JX_putI fl_History_24_1 dX1_note_61 c_20 rfl rfl rfl ?_
  rw [← e_x10]
  refine J_aload_n (j := 0) dX1_note_64 rfl rfl ?_
  refine J_iconst (v := 0) dX1_note_65 (by decide) ?_
  obtain ⟨x11, e_x11, hF⟩ := letx_eq hF
  refine JX_putI fl_History_31_1 dX1_note_66 c_20 rfl rfl rfl ?_
  rw [← e_x11]
  have e_r := Option.some.inj hF
  subst e_r
  exact J_return rfl dX1_note_69 ⟨rfl, rfl⟩
def f_X1_note (a1 : Int32) (a2 : Int32) (a3 : Int32) (a4 : Int32) (x : MX) : Option MX :=
  if (xi x 20 4) < 40 then
  B_X1_note_13 a1 a2 a3 a4 x
  else
  ob (f_X1_forgetOldest x) (fun x12 =>
  B_X1_note_13 a1 a2 a3 a4 x12)
theorem S_X1_note {g : GC} {d : Nat} {a1 : Int32} {a2 : Int32} {a3 : Int32} {a4 : Int32} {x : MX} {m : MM} {z : MX} (hd : 2 ≤ d) 
  (hF : f_X1_note a1 a2 a3 a4 x = some z) : JC g m_X1_note d 0 0 [.ref 20, .int a1, .int a2, .int a3, .int a4] (ST x m) (EQ (none) (ST z m)) := by
  refine JC.of (by decide +kernel) (Nat.le_of_ble_eq_true rfl) ?_
  change J g m_X1_note d 0 0 0 [(0, .ref 20), (1, .int a1), (2, .int a2), (3, .int a3), (4, .int a4)] [] (ST x m) 0 0 (EQ (none) (ST z m))
  unfold f_X1_note at hF
  refine J_aload_n (j := 0) dX1_note_0 rfl rfl ?_
  refine JX_getI fl_History_24_1 dX1_note_1 c_20 rfl ?_
  refine J_bipush (v := 40) dX1_note_4 (by decide) ?_
  refine J_icmp_lt (tgt := 13) dX1_note_6 (by decide) (fun q1 => ?_) (fun q1 => ?_)
  · rw [if_pos q1] at hF
    exact SB_X1_note_13 hd hF
  · rw [if_neg q1] at hF
    refine J_aload_n (j := 0) dX1_note_9 rfl rfl ?_
    obtain ⟨x12, h13, hF⟩ := ob_some hF
    refine JX_callVv (As := []) (S := []) lkV_History_28_X1_forgetOldest rfl (by decide) dX1_note_10 c_20 (S_X1_forgetOldest (by omega) h13) (by omega) rfl rfl (Nat.le_of_ble_eq_true rfl) rfl ?_
    exact SB_X1_note_13 hd hF
def f_X8_mend (a1 : Int32) (a2 : Int32) (a3 : Int32) (x : MX) : Option (Int32 × MX) :=
  if (f_X8_isThere a1 a2 x) = true then
  ob (f_X8_canBe a2 a3) (fun r2 =>
  if r2 = true then
  if inb a2 13 = true then
  if inb a1 8 = true then
  if (xi x (7 + ix a2) (ix a1)) = a3 then
  some (xi x (7 + ix a2) (ix a1), x)
  else
  ob (f_X1_note a1 a2 (xi x (7 + ix a2) (ix a1)) a3 x) (fun x8 =>
  letx (xs x8 (7 + ix a2) (ix a1) a3) (fun x10 =>
  some (xi x (7 + ix a2) (ix a1), x10)))
  else none
  else none
  else
  some ((-1), x))
  else
  some ((-1), x)
theorem S_X8_mend {g : GC} {d : Nat} {a1 : Int32} {a2 : Int32} {a3 : Int32} {x : MX} {m : MM} {r : Int32} {z : MX} (hd : 3 ≤ d) 
  (hF : f_X8_mend a1 a2 a3 x = some (r, z)) : JC g m_X8_mend d 0 0 [.ref 5, .int a1, .int a2, .int a3] (ST x m) (EQ (some (.int r)) (ST z m)) := by
  refine JC.of (by decide +kernel) (Nat.le_of_ble_eq_true rfl) ?_
  change J g m_X8_mend d 0 0 0 [(0, .ref 5), (1, .int a1), (2, .int a2), (3, .int a3)] [] (ST x m) 0 0 (EQ (some (.int r)) (ST z m))
  unfold f_X8_mend at hF
  refine J_aload_n (j := 0) dX8_mend_0 rfl rfl ?_
  refine J_iload_n (j := 1) dX8_mend_1 rfl rfl ?_
  refine J_iload_n (j := 2) dX8_mend_2 rfl rfl ?_
  refine JX_callVi (As := [.int a1, .int a2]) (S := []) lkV_WithOneHand_109_X8_isThere rfl (by decide) dX8_mend_3 c_5 (S_X8_isThere (by omega) rfl) (by omega) rfl rfl (Nat.le_of_ble_eq_true rfl) rfl ?_
  refine J_ifb_eq (tgt := 17) dX8_mend_6 (by decide) (fun q1 => ?_) (fun q1 => ?_)
  · rw [if_neg q1] at hF
    refine J_iconst (v := (-1)) dX8_mend_17 (by decide) ?_
    obtain ⟨e_r, e_z⟩ := someP hF
    subst e_r
    subst e_z
    exact J_ireturn rfl rfl dX8_mend_18 ⟨rfl, rfl⟩
  · rw [if_pos q1] at hF
    refine J_iload_n (j := 2) dX8_mend_9 rfl rfl ?_
    refine J_iload_n (j := 3) dX8_mend_10 rfl rfl ?_
    obtain ⟨r2, h3, hF⟩ := ob_some hF
    refine J_callSi (As := [.int a2, .int a3]) (S := []) lkS_WithOneHand_76_X8_canBe dX8_mend_11 (S_X8_canBe (by omega) h3) (by omega) rfl rfl (Nat.le_of_ble_eq_true rfl) rfl ?_
    refine J_ifb_ne (tgt := 19) dX8_mend_14 (by decide) (fun q4 => ?_) (fun q4 => ?_)
    · rw [if_pos q4] at hF
      refine J_aload_n (j := 0) dX8_mend_19 rfl rfl ?_
      refine JX_getR (r := 6) fl_WithOneHand_11_7 dX8_mend_20 c_5 rfl rfl ?_
      refine J_iload_n (j := 2) dX8_mend_23 rfl rfl ?_
      obtain ⟨b5, hF⟩ := chk hF
      refine JX_aald (j := ix a2) (r := 7 + ix a2) (by decide) dX8_mend_24 c_6 (inb_vp b5) rfl (rw_6 _ (inb_lt b5)) ?_
      refine J_iload_n (j := 1) dX8_mend_25 rfl rfl ?_
      obtain ⟨b6, hF⟩ := chk hF
      refine JX_iald (j := ix a1) dX8_mend_26 (cr_6 (inb_lt b5)) (inb_vp b6) rfl ?_
      refine J_istore (L' := [(4, .int (xi x (7 + ix a2) (ix a1))), (0, .ref 5), (1, .int a1), (2, .int a2), (3, .int a3)]) dX8_mend_27 (by decide) rfl ?_
      refine J_iload (j := 0) dX8_mend_29 rfl ?_
      refine J_iload_n (j := 4) dX8_mend_31 rfl rfl ?_
      refine J_icmp_eq (tgt := 56) dX8_mend_32 (by decide) (fun q7 => ?_) (fun q7 => ?_)
      · rw [if_pos q7] at hF
        refine J_iload (j := 0) dX8_mend_56 rfl ?_
        obtain ⟨e_r, e_z⟩ := someP hF
        subst e_r
        subst e_z
        exact J_ireturn rfl rfl dX8_mend_58 ⟨rfl, rfl⟩
      · rw [if_neg q7] at hF
        refine J_aload_n (j := 1) dX8_mend_35 rfl rfl ?_
        refine JX_getR (r := 20) fl_WithOneHand_17_7 dX8_mend_36 c_5 rfl rfl ?_
        refine J_iload_n (j := 2) dX8_mend_39 rfl rfl ?_
        refine J_iload_n (j := 3) dX8_mend_40 rfl rfl ?_
        refine J_iload (j := 0) dX8_mend_41 rfl ?_
        refine J_iload_n (j := 4) dX8_mend_43 rfl rfl ?_
        obtain ⟨x8, h9, hF⟩ := ob_some hF
        refine JX_callVv (As := [.int a1, .int a2, .int (xi x (7 + ix a2) (ix a1)), .int a3]) (S := []) lkV_WithOneHand_112_X1_note rfl (by decide) dX8_mend_44 c_20 (S_X1_note (by omega) h9) (by omega) rfl rfl (Nat.le_of_ble_eq_true rfl) rfl ?_
        refine J_aload_n (j := 1) dX8_mend_47 rfl rfl ?_
        refine JX_getR (r := 6) fl_WithOneHand_11_7 dX8_mend_48 c_5 rfl rfl ?_
        refine J_iload_n (j := 3) dX8_mend_51 rfl rfl ?_
        refine JX_aald (j := ix a2) (r := 7 + ix a2) (by decide) dX8_mend_52 c_6 (inb_vp b5) rfl (rw_6 _ (inb_lt b5)) ?_
        refine J_iload_n (j := 2) dX8_mend_53 rfl rfl ?_
        refine J_iload_n (j := 4) dX8_mend_54 rfl rfl ?_
        obtain ⟨x10, e_x10, hF⟩ := letx_eq hF
        refine JX_iast (j := ix a1) dX8_mend_55 (cr_6 (inb_lt b5)) (inb_vp b6) rfl ?_
        rw [← e_x10]
        refine J_iload (j := 0) dX8_mend_56 rfl ?_
        obtain ⟨e_r, e_z⟩ := someP hF
        subst e_r
        subst e_z
        exact J_ireturn rfl rfl dX8_mend_58 ⟨rfl, rfl⟩
    · rw [if_neg q4] at hF
      refine J_iconst (v := (-1)) dX8_mend_17 (by decide) ?_
      obtain ⟨e_r, e_z⟩ := someP hF
      subst e_r
      subst e_z
      exact J_ireturn rfl rfl dX8_mend_18 ⟨rfl, rfl⟩
def f_X9_isCuff (a1 : Int32) (m : MM) : Bool :=
  if a1 < 0 then
  false
  else
  if (mi m 80 1) ≤ a1 then
  false
  else
  true
theorem S_X9_isCuff {g : GC} {d : Nat} {a1 : Int32} {x : MX} {m : MM} {r : Bool} (hd : 1 ≤ d) 
  (hF : f_X9_isCuff a1 m = r) : JC g m_X9_isCuff d 0 0 [.ref 80, .int a1] (ST x m) (EQ (some (.int (b2i r))) (ST x m)) := by
  refine JC.of (by decide +kernel) (Nat.le_of_ble_eq_true rfl) ?_
  change J g m_X9_isCuff d 0 0 0 [(0, .ref 80), (1, .int a1)] [] (ST x m) 0 0 (EQ (some (.int (b2i r))) (ST x m))
  unfold f_X9_isCuff at hF
  refine J_iload_n (j := 1) dX9_isCuff_0 rfl rfl ?_
  refine J_if_lt (tgt := 16) dX9_isCuff_1 (by decide) (fun q1 => ?_) (fun q1 => ?_)
  · rw [if_pos q1] at hF
    refine J_iconst (v := 0) dX9_isCuff_16 (by decide) ?_
    subst hF
    exact J_ireturn rfl rfl dX9_isCuff_17 ⟨rfl, rfl⟩
  · rw [if_neg q1] at hF
    refine J_iload_n (j := 1) dX9_isCuff_4 rfl rfl ?_
    refine J_aload_n (j := 0) dX9_isCuff_5 rfl rfl ?_
    refine JM_getI fl_WithOneHandModel_111_8 dX9_isCuff_6 c_80 rfl ?_
    refine J_icmp_ge (tgt := 16) dX9_isCuff_9 (by decide) (fun q2 => ?_) (fun q2 => ?_)
    · rw [if_pos q2] at hF
      refine J_iconst (v := 0) dX9_isCuff_16 (by decide) ?_
      subst hF
      exact J_ireturn rfl rfl dX9_isCuff_17 ⟨rfl, rfl⟩
    · rw [if_neg q2] at hF
      refine J_iconst (v := 1) dX9_isCuff_12 (by decide) ?_
      refine J_goto (tgt := 17) dX9_isCuff_13 (by decide) ?_
      subst hF
      exact J_ireturn rfl rfl dX9_isCuff_17 ⟨rfl, rfl⟩
def f_X9_isLink (a1 : Int32) (m : MM) : Bool :=
  if a1 < 0 then
  false
  else
  if (mi m 80 0) ≤ a1 then
  false
  else
  true
theorem S_X9_isLink {g : GC} {d : Nat} {a1 : Int32} {x : MX} {m : MM} {r : Bool} (hd : 1 ≤ d) 
  (hF : f_X9_isLink a1 m = r) : JC g m_X9_isLink d 0 0 [.ref 80, .int a1] (ST x m) (EQ (some (.int (b2i r))) (ST x m)) := by
  refine JC.of (by decide +kernel) (Nat.le_of_ble_eq_true rfl) ?_
  change J g m_X9_isLink d 0 0 0 [(0, .ref 80), (1, .int a1)] [] (ST x m) 0 0 (EQ (some (.int (b2i r))) (ST x m))
  unfold f_X9_isLink at hF
  refine J_iload_n (j := 1) dX9_isLink_0 rfl rfl ?_
  refine J_if_lt (tgt := 16) dX9_isLink_1 (by decide) (fun q1 => ?_) (fun q1 => ?_)
  · rw [if_pos q1] at hF
    refine J_iconst (v := 0) dX9_isLink_16 (by decide) ?_
    subst hF
    exact J_ireturn rfl rfl dX9_isLink_17 ⟨rfl, rfl⟩
  · rw [if_neg q1] at hF
    refine J_iload_n (j := 1) dX9_isLink_4 rfl rfl ?_
    refine J_aload_n (j := 0) dX9_isLink_5 rfl rfl ?_
    refine JM_getI fl_WithOneHandModel_108_8 dX9_isLink_6 c_80 rfl ?_
    refine J_icmp_ge (tgt := 16) dX9_isLink_9 (by decide) (fun q2 => ?_) (fun q2 => ?_)
    · rw [if_pos q2] at hF
      refine J_iconst (v := 0) dX9_isLink_16 (by decide) ?_
      subst hF
      exact J_ireturn rfl rfl dX9_isLink_17 ⟨rfl, rfl⟩
    · rw [if_neg q2] at hF
      refine J_iconst (v := 1) dX9_isLink_12 (by decide) ?_
      refine J_goto (tgt := 17) dX9_isLink_13 (by decide) ?_
      subst hF
      exact J_ireturn rfl rfl dX9_isLink_17 ⟨rfl, rfl⟩
def B_X9_isNumber_74 (v1 : Int32) (v2 : Int32) (m : MM) : Bool :=
  if (f_X9_isIn v2 11 12) = true then
  if (f_X9_isIn v1 0 ((mi m 80 2) - 1)) = true then
  true
  else
  false
  else
  false
theorem SB_X9_isNumber_74 {g : GC} {d : Nat} {v1 : Int32} {v2 : Int32} {x : MX} {m : MM} {r : Bool} (hd : 2 ≤ d) 
  (hF : B_X9_isNumber_74 v1 v2 m = r) : J g m_X9_isNumber d 0 0 74 [(0, .ref 80), (1, .int v1), (2, .int v2)] [] (ST x m) 0 0 (EQ (some (.int (b2i r))) (ST x m)) := by
  unfold B_X9_isNumber_74 at hF
  refine J_aload_n (j := 0) dX9_isNumber_74 rfl rfl ?_
  refine J_iload_n (j := 2) dX9_isNumber_75 rfl rfl ?_
  refine J_bipush (v := 11) dX9_isNumber_76 (by decide) ?_
  refine J_bipush (v := 12) dX9_isNumber_78 (by decide) ?_
  refine JM_callVi (As := [.int v2, .int 11, .int 12]) (S := []) lkV_WithOneHandModel_114_X9_isIn rfl (by decide) dX9_isNumber_80 c_80 (S_X9_isIn (by omega) rfl) (by omega) rfl rfl (Nat.le_of_ble_eq_true rfl) rfl ?_
  refine J_ifb_eq (tgt := 105) dX9_isNumber_83 (by decide) (fun q5 => ?_) (fun q5 => ?_)
  · rw [if_neg q5] at hF
    refine J_iconst (v := 0) dX9_isNumber_105 (by decide) ?_
    subst hF
    exact J_ireturn rfl rfl dX9_isNumber_106 ⟨rfl, rfl⟩
  · rw [if_pos q5] at hF
    refine J_aload_n (j := 0) dX9_isNumber_86 rfl rfl ?_
    refine J_iload_n (j := 1) dX9_isNumber_87 rfl rfl ?_
    refine J_iconst (v := 0) dX9_isNumber_88 (by decide) ?_
    refine J_aload_n (j := 0) dX9_isNumber_89 rfl rfl ?_
    refine JM_getI fl_WithOneHandModel_130_8 dX9_isNumber_90 c_80 rfl ?_
    refine J_iconst (v := 1) dX9_isNumber_93 (by decide) ?_
    refine J_isub dX9_isNumber_94 ?_
    refine JM_callVi (As := [.int v1, .int 0, .int ((mi m 80 2) - 1)]) (S := []) lkV_WithOneHandModel_114_X9_isIn rfl (by decide) dX9_isNumber_95 c_80 (S_X9_isIn (by omega) rfl) (by omega) rfl rfl (Nat.le_of_ble_eq_true rfl) rfl ?_
    refine J_ifb_eq (tgt := 105) dX9_isNumber_98 (by decide) (fun q6 => ?_) (fun q6 => ?_)
    · rw [if_neg q6] at hF
      refine J_iconst (v := 0) dX9_isNumber_105 (by decide) ?_
      subst hF
      exact J_ireturn rfl rfl dX9_isNumber_106 ⟨rfl, rfl⟩
    · rw [if_pos q6] at hF
      refine J_iconst (v := 1) dX9_isNumber_101 (by decide) ?_
      refine J_goto (tgt := 106) dX9_isNumber_102 (by decide) ?_
      subst hF
      exact J_ireturn rfl rfl dX9_isNumber_106 ⟨rfl, rfl⟩
def B_X9_isNumber_58 (v1 : Int32) (v2 : Int32) (m : MM) : Bool :=
  if (f_X9_isIn v2 9 10) = true then
  if v1 = 0 then
  true
  else
  B_X9_isNumber_74 v1 v2 m
  else
  B_X9_isNumber_74 v1 v2 m
theorem SB_X9_isNumber_58 {g : GC} {d : Nat} {v1 : Int32} {v2 : Int32} {x : MX} {m : MM} {r : Bool} (hd : 2 ≤ d) 
  (hF : B_X9_isNumber_58 v1 v2 m = r) : J g m_X9_isNumber d 0 0 58 [(0, .ref 80), (1, .int v1), (2, .int v2)] [] (ST x m) 0 0 (EQ (some (.int (b2i r))) (ST x m)) := by
  unfold B_X9_isNumber_58 at hF
  refine J_aload_n (j := 0) dX9_isNumber_58 rfl rfl ?_
  refine J_iload_n (j := 2) dX9_isNumber_59 rfl rfl ?_
  refine J_bipush (v := 9) dX9_isNumber_60 (by decide) ?_
  refine J_bipush (v := 10) dX9_isNumber_62 (by decide) ?_
  refine JM_callVi (As := [.int v2, .int 9, .int 10]) (S := []) lkV_WithOneHandModel_114_X9_isIn rfl (by decide) dX9_isNumber_64 c_80 (S_X9_isIn (by omega) rfl) (by omega) rfl rfl (Nat.le_of_ble_eq_true rfl) rfl ?_
  refine J_ifb_eq (tgt := 74) dX9_isNumber_67 (by decide) (fun q4 => ?_) (fun q4 => ?_)
  · rw [if_neg q4] at hF
    exact SB_X9_isNumber_74 hd hF
  · rw [if_pos q4] at hF
    refine J_iload_n (j := 1) dX9_isNumber_70 rfl rfl ?_
    refine J_if_eq (tgt := 101) dX9_isNumber_71 (by decide) (fun q7 => ?_) (fun q7 => ?_)
    · rw [if_pos q7] at hF
      refine J_iconst (v := 1) dX9_isNumber_101 (by decide) ?_
      refine J_goto (tgt := 106) dX9_isNumber_102 (by decide) ?_
      subst hF
      exact J_ireturn rfl rfl dX9_isNumber_106 ⟨rfl, rfl⟩
    · rw [if_neg q7] at hF
      exact SB_X9_isNumber_74 hd hF
def B_X9_isNumber_36 (v1 : Int32) (v2 : Int32) (m : MM) : Bool :=
  if (f_X9_isIn v2 6 8) = true then
  if (f_X9_isIn v1 0 1) = true then
  true
  else
  B_X9_isNumber_58 v1 v2 m
  else
  B_X9_isNumber_58 v1 v2 m
theorem SB_X9_isNumber_36 {g : GC} {d : Nat} {v1 : Int32} {v2 : Int32} {x : MX} {m : MM} {r : Bool} (hd : 2 ≤ d) 
  (hF : B_X9_isNumber_36 v1 v2 m = r) : J g m_X9_isNumber d 0 0 36 [(0, .ref 80), (1, .int v1), (2, .int v2)] [] (ST x m) 0 0 (EQ (some (.int (b2i r))) (ST x m)) := by
  unfold B_X9_isNumber_36 at hF
  refine J_aload_n (j := 0) dX9_isNumber_36 rfl rfl ?_
  refine J_iload_n (j := 2) dX9_isNumber_37 rfl rfl ?_
  refine J_bipush (v := 6) dX9_isNumber_38 (by decide) ?_
  refine J_bipush (v := 8) dX9_isNumber_40 (by decide) ?_
  refine JM_callVi (As := [.int v2, .int 6, .int 8]) (S := []) lkV_WithOneHandModel_114_X9_isIn rfl (by decide) dX9_isNumber_42 c_80 (S_X9_isIn (by omega) rfl) (by omega) rfl rfl (Nat.le_of_ble_eq_true rfl) rfl ?_
  refine J_ifb_eq (tgt := 58) dX9_isNumber_45 (by decide) (fun q3 => ?_) (fun q3 => ?_)
  · rw [if_neg q3] at hF
    exact SB_X9_isNumber_58 hd hF
  · rw [if_pos q3] at hF
    refine J_aload_n (j := 0) dX9_isNumber_48 rfl rfl ?_
    refine J_iload_n (j := 1) dX9_isNumber_49 rfl rfl ?_
    refine J_iconst (v := 0) dX9_isNumber_50 (by decide) ?_
    refine J_iconst (v := 1) dX9_isNumber_51 (by decide) ?_
    refine JM_callVi (As := [.int v1, .int 0, .int 1]) (S := []) lkV_WithOneHandModel_114_X9_isIn rfl (by decide) dX9_isNumber_52 c_80 (S_X9_isIn (by omega) rfl) (by omega) rfl rfl (Nat.le_of_ble_eq_true rfl) rfl ?_
    refine J_ifb_ne (tgt := 101) dX9_isNumber_55 (by decide) (fun q8 => ?_) (fun q8 => ?_)
    · rw [if_pos q8] at hF
      refine J_iconst (v := 1) dX9_isNumber_101 (by decide) ?_
      refine J_goto (tgt := 106) dX9_isNumber_102 (by decide) ?_
      subst hF
      exact J_ireturn rfl rfl dX9_isNumber_106 ⟨rfl, rfl⟩
    · rw [if_neg q8] at hF
      exact SB_X9_isNumber_58 hd hF
def B_X9_isNumber_18 (v1 : Int32) (v2 : Int32) (m : MM) : Bool :=
  if (f_X9_isIn v2 2 5) = true then
  if (f_X9_isCuff v1 m) = true then
  true
  else
  B_X9_isNumber_36 v1 v2 m
  else
  B_X9_isNumber_36 v1 v2 m
theorem SB_X9_isNumber_18 {g : GC} {d : Nat} {v1 : Int32} {v2 : Int32} {x : MX} {m : MM} {r : Bool} (hd : 2 ≤ d) 
  (hF : B_X9_isNumber_18 v1 v2 m = r) : J g m_X9_isNumber d 0 0 18 [(0, .ref 80), (1, .int v1), (2, .int v2)] [] (ST x m) 0 0 (EQ (some (.int (b2i r))) (ST x m)) := by
  unfold B_X9_isNumber_18 at hF
  refine J_aload_n (j := 0) dX9_isNumber_18 rfl rfl ?_
  refine J_iload_n (j := 2) dX9_isNumber_19 rfl rfl ?_
  refine J_iconst (v := 2) dX9_isNumber_20 (by decide) ?_
  refine J_iconst (v := 5) dX9_isNumber_21 (by decide) ?_
  refine JM_callVi (As := [.int v2, .int 2, .int 5]) (S := []) lkV_WithOneHandModel_114_X9_isIn rfl (by decide) dX9_isNumber_22 c_80 (S_X9_isIn (by omega) rfl) (by omega) rfl rfl (Nat.le_of_ble_eq_true rfl) rfl ?_
  refine J_ifb_eq (tgt := 36) dX9_isNumber_25 (by decide) (fun q2 => ?_) (fun q2 => ?_)
  · rw [if_neg q2] at hF
    exact SB_X9_isNumber_36 hd hF
  · rw [if_pos q2] at hF
    refine J_aload_n (j := 0) dX9_isNumber_28 rfl rfl ?_
    refine J_iload_n (j := 1) dX9_isNumber_29 rfl rfl ?_
    refine JM_callVi (As := [.int v1]) (S := []) lkV_WithOneHandModel_136_X9_isCuff rfl (by decide) dX9_isNumber_30 c_80 (S_X9_isCuff (by omega) rfl) (by omega) rfl rfl (Nat.le_of_ble_eq_true rfl) rfl ?_
    refine J_ifb_ne (tgt := 101) dX9_isNumber_33 (by decide) (fun q9 => ?_) (fun q9 => ?_)
    · rw [if_pos q9] at hF
      refine J_iconst (v := 1) dX9_isNumber_101 (by decide) ?_
      refine J_goto (tgt := 106) dX9_isNumber_102 (by decide) ?_
      subst hF
      exact J_ireturn rfl rfl dX9_isNumber_106 ⟨rfl, rfl⟩
    · rw [if_neg q9] at hF
      exact SB_X9_isNumber_36 hd hF
def f_X9_isNumber (a1 : Int32) (a2 : Int32) (m : MM) : Bool :=
  if (f_X9_isIn a2 0 1) = true then
  if (f_X9_isLink a1 m) = true then
  true
  else
  B_X9_isNumber_18 a1 a2 m
  else
  B_X9_isNumber_18 a1 a2 m
theorem S_X9_isNumber {g : GC} {d : Nat} {a1 : Int32} {a2 : Int32} {x : MX} {m : MM} {r : Bool} (hd : 2 ≤ d) 
  (hF : f_X9_isNumber a1 a2 m = r) : JC g m_X9_isNumber d 0 0 [.ref 80, .int a1, .int a2] (ST x m) (EQ (some (.int (b2i r))) (ST x m)) := by
  refine JC.of (by decide +kernel) (Nat.le_of_ble_eq_true rfl) ?_
  change J g m_X9_isNumber d 0 0 0 [(0, .ref 80), (1, .int a1), (2, .int a2)] [] (ST x m) 0 0 (EQ (some (.int (b2i r))) (ST x m))
  unfold f_X9_isNumber at hF
  refine J_aload_n (j := 0) dX9_isNumber_0 rfl rfl ?_
  refine J_iload_n (j := 2) dX9_isNumber_1 rfl rfl ?_
  refine J_iconst (v := 0) dX9_isNumber_2 (by decide) ?_
  refine J_iconst (v := 1) dX9_isNumber_3 (by decide) ?_
  refine JM_callVi (As := [.int a2, .int 0, .int 1]) (S := []) lkV_WithOneHandModel_114_X9_isIn rfl (by decide) dX9_isNumber_4 c_80 (S_X9_isIn (by omega) rfl) (by omega) rfl rfl (Nat.le_of_ble_eq_true rfl) rfl ?_
  refine J_ifb_eq (tgt := 18) dX9_isNumber_7 (by decide) (fun q1 => ?_) (fun q1 => ?_)
  · rw [if_neg q1] at hF
    exact SB_X9_isNumber_18 hd hF
  · rw [if_pos q1] at hF
    refine J_aload_n (j := 0) dX9_isNumber_10 rfl rfl ?_
    refine J_iload_n (j := 1) dX9_isNumber_11 rfl rfl ?_
    refine JM_callVi (As := [.int a1]) (S := []) lkV_WithOneHandModel_133_X9_isLink rfl (by decide) dX9_isNumber_12 c_80 (S_X9_isLink (by omega) rfl) (by omega) rfl rfl (Nat.le_of_ble_eq_true rfl) rfl ?_
    refine J_ifb_ne (tgt := 101) dX9_isNumber_15 (by decide) (fun q10 => ?_) (fun q10 => ?_)
    · rw [if_pos q10] at hF
      refine J_iconst (v := 1) dX9_isNumber_101 (by decide) ?_
      refine J_goto (tgt := 106) dX9_isNumber_102 (by decide) ?_
      subst hF
      exact J_ireturn rfl rfl dX9_isNumber_106 ⟨rfl, rfl⟩
    · rw [if_neg q10] at hF
      exact SB_X9_isNumber_18 hd hF
def f_X9_least (a1 : Int32) : Int32 :=
  if a1 = 0 then
  1
  else
  if a1 < 10 then
  0
  else
  1
theorem S_X9_least {g : GC} {d : Nat} {a1 : Int32} {x : MX} {m : MM} {r : Int32} (hd : 1 ≤ d) 
  (hF : f_X9_least a1 = r) : JC g m_X9_least d 0 0 [.ref 80, .int a1] (ST x m) (EQ (some (.int r)) (ST x m)) := by
  refine JC.of (by decide +kernel) (Nat.le_of_ble_eq_true rfl) ?_
  change J g m_X9_least d 0 0 0 [(0, .ref 80), (1, .int a1)] [] (ST x m) 0 0 (EQ (some (.int r)) (ST x m))
  unfold f_X9_least at hF
  refine J_iload_n (j := 1) dX9_least_0 rfl rfl ?_
  refine J_if_eq (tgt := 10) dX9_least_1 (by decide) (fun q1 => ?_) (fun q1 => ?_)
  · rw [if_pos q1] at hF
    refine J_iconst (v := 1) dX9_least_10 (by decide) ?_
    refine J_goto (tgt := 15) dX9_least_11 (by decide) ?_
    subst hF
    exact J_ireturn rfl rfl dX9_least_15 ⟨rfl, rfl⟩
  · rw [if_neg q1] at hF
    refine J_iload_n (j := 1) dX9_least_4 rfl rfl ?_
    refine J_bipush (v := 10) dX9_least_5 (by decide) ?_
    refine J_icmp_lt (tgt := 14) dX9_least_7 (by decide) (fun q2 => ?_) (fun q2 => ?_)
    · rw [if_pos q2] at hF
      refine J_iconst (v := 0) dX9_least_14 (by decide) ?_
      subst hF
      exact J_ireturn rfl rfl dX9_least_15 ⟨rfl, rfl⟩
    · rw [if_neg q2] at hF
      refine J_iconst (v := 1) dX9_least_10 (by decide) ?_
      refine J_goto (tgt := 15) dX9_least_11 (by decide) ?_
      subst hF
      exact J_ireturn rfl rfl dX9_least_15 ⟨rfl, rfl⟩
def f_X9_most (a1 : Int32) : Int32 :=
  if a1 = 4 then
  1
  else
  if a1 = 9 then
  11
  else
  if a1 ≤ 3 then
  9
  else
  if a1 = 6 then
  9
  else
  99
theorem S_X9_most {g : GC} {d : Nat} {a1 : Int32} {x : MX} {m : MM} {r : Int32} (hd : 1 ≤ d) 
  (hF : f_X9_most a1 = r) : JC g m_X9_most d 0 0 [.ref 80, .int a1] (ST x m) (EQ (some (.int r)) (ST x m)) := by
  refine JC.of (by decide +kernel) (Nat.le_of_ble_eq_true rfl) ?_
  change J g m_X9_most d 0 0 0 [(0, .ref 80), (1, .int a1)] [] (ST x m) 0 0 (EQ (some (.int r)) (ST x m))
  unfold f_X9_most at hF
  refine J_iload_n (j := 1) dX9_most_0 rfl rfl ?_
  refine J_iconst (v := 4) dX9_most_1 (by decide) ?_
  refine J_icmp_ne (tgt := 9) dX9_most_2 (by decide) (fun q1 => ?_) (fun q1 => ?_)
  · rw [if_neg q1] at hF
    refine J_iload_n (j := 1) dX9_most_9 rfl rfl ?_
    refine J_bipush (v := 9) dX9_most_10 (by decide) ?_
    refine J_icmp_ne (tgt := 20) dX9_most_12 (by decide) (fun q2 => ?_) (fun q2 => ?_)
    · rw [if_neg q2] at hF
      refine J_iload_n (j := 1) dX9_most_20 rfl rfl ?_
      refine J_iconst (v := 3) dX9_most_21 (by decide) ?_
      refine J_icmp_le (tgt := 31) dX9_most_22 (by decide) (fun q3 => ?_) (fun q3 => ?_)
      · rw [if_pos q3] at hF
        refine J_bipush (v := 9) dX9_most_31 (by decide) ?_
        refine J_goto (tgt := 38) dX9_most_33 (by decide) ?_
        subst hF
        exact J_ireturn rfl rfl dX9_most_38 ⟨rfl, rfl⟩
      · rw [if_neg q3] at hF
        refine J_iload_n (j := 1) dX9_most_25 rfl rfl ?_
        refine J_bipush (v := 6) dX9_most_26 (by decide) ?_
        refine J_icmp_ne (tgt := 36) dX9_most_28 (by decide) (fun q4 => ?_) (fun q4 => ?_)
        · rw [if_neg q4] at hF
          refine J_bipush (v := 99) dX9_most_36 (by decide) ?_
          subst hF
          exact J_ireturn rfl rfl dX9_most_38 ⟨rfl, rfl⟩
        · rw [if_pos q4] at hF
          refine J_bipush (v := 9) dX9_most_31 (by decide) ?_
          refine J_goto (tgt := 38) dX9_most_33 (by decide) ?_
          subst hF
          exact J_ireturn rfl rfl dX9_most_38 ⟨rfl, rfl⟩
    · rw [if_pos q2] at hF
      refine J_bipush (v := 11) dX9_most_15 (by decide) ?_
      refine J_goto (tgt := 38) dX9_most_17 (by decide) ?_
      subst hF
      exact J_ireturn rfl rfl dX9_most_38 ⟨rfl, rfl⟩
  · rw [if_pos q1] at hF
    refine J_iconst (v := 1) dX9_most_5 (by decide) ?_
    refine J_goto (tgt := 38) dX9_most_6 (by decide) ?_
    subst hF
    exact J_ireturn rfl rfl dX9_most_38 ⟨rfl, rfl⟩
def f_X9_read (a1 : Int32) (a2 : Int32) (m : MM) : Option Int32 :=
  if a2 = 0 then
  if inb a1 6 = true then
  some (mi m 81 (ix a1))
  else none
  else
  if a2 = 1 then
  if inb a1 6 = true then
  some (mi m 82 (ix a1))
  else none
  else
  if a2 = 2 then
  if inb a1 6 = true then
  some (mi m 83 (ix a1))
  else none
  else
  if a2 = 3 then
  if inb a1 6 = true then
  some (mi m 84 (ix a1))
  else none
  else
  if a2 = 4 then
  if inb a1 6 = true then
  some (mi m 85 (ix a1))
  else none
  else
  if a2 = 5 then
  if inb a1 6 = true then
  some (mi m 86 (ix a1))
  else none
  else
  if a2 = 6 then
  if inb a1 2 = true then
  some (mi m 88 (ix a1))
  else none
  else
  if a2 = 7 then
  if inb a1 2 = true then
  some (mi m 89 (ix a1))
  else none
  else
  if a2 = 8 then
  if inb a1 2 = true then
  some (mi m 90 (ix a1))
  else none
  else
  if a2 = 9 then
  some (mi m 80 3)
  else
  if a2 = 10 then
  some (mi m 80 4)
  else
  if a2 = 11 then
  if inb a1 8 = true then
  some (mi m 91 (ix a1))
  else none
  else
  if inb a1 8 = true then
  some (mi m 92 (ix a1))
  else none
theorem S_X9_read {g : GC} {d : Nat} {a1 : Int32} {a2 : Int32} {x : MX} {m : MM} {r : Int32} (hd : 1 ≤ d) 
  (hF : f_X9_read a1 a2 m = some r) : JC g m_X9_read d 0 0 [.ref 80, .int a1, .int a2] (ST x m) (EQ (some (.int r)) (ST x m)) := by
  refine JC.of (by decide +kernel) (Nat.le_of_ble_eq_true rfl) ?_
  change J g m_X9_read d 0 0 0 [(0, .ref 80), (1, .int a1), (2, .int a2)] [] (ST x m) 0 0 (EQ (some (.int r)) (ST x m))
  unfold f_X9_read at hF
  refine J_iload_n (j := 2) dX9_read_0 rfl rfl ?_
  refine J_tsw (n := 11) (td := 144) (cs := [(0, 64), (1, 71), (2, 78), (3, 85), (4, 92), (5, 99), (6, 106), (7, 113), (8, 120), (9, 127), (10, 132), (11, 137)]) dX9_read_1 (by decide) (by decide) (by decide +kernel) (by decide +kernel) ?_
  refine J_sw (fun q1 => ?_) (fun q1 => ?_)
  · rw [if_pos q1] at hF
    refine J_aload_n (j := 0) dX9_read_64 rfl rfl ?_
    refine JM_getR (r := 81) fl_WithOneHandModel_13_8 dX9_read_65 c_80 rfl rfl ?_
    refine J_iload_n (j := 1) dX9_read_68 rfl rfl ?_
    obtain ⟨b2, hF⟩ := chk hF
    refine JM_iald (j := ix a1) dX9_read_69 c_81 (inb_vp b2) rfl ?_
    have e_r := Option.some.inj hF
    subst e_r
    exact J_ireturn rfl rfl dX9_read_70 ⟨rfl, rfl⟩
  rw [if_neg q1] at hF
  refine J_sw (fun q3 => ?_) (fun q3 => ?_)
  · rw [if_pos q3] at hF
    refine J_aload_n (j := 0) dX9_read_71 rfl rfl ?_
    refine JM_getR (r := 82) fl_WithOneHandModel_17_8 dX9_read_72 c_80 rfl rfl ?_
    refine J_iload_n (j := 1) dX9_read_75 rfl rfl ?_
    obtain ⟨b4, hF⟩ := chk hF
    refine JM_iald (j := ix a1) dX9_read_76 c_82 (inb_vp b4) rfl ?_
    have e_r := Option.some.inj hF
    subst e_r
    exact J_ireturn rfl rfl dX9_read_77 ⟨rfl, rfl⟩
  rw [if_neg q3] at hF
  refine J_sw (fun q5 => ?_) (fun q5 => ?_)
  · rw [if_pos q5] at hF
    refine J_aload_n (j := 0) dX9_read_78 rfl rfl ?_
    refine JM_getR (r := 83) fl_WithOneHandModel_20_8 dX9_read_79 c_80 rfl rfl ?_
    refine J_iload_n (j := 1) dX9_read_82 rfl rfl ?_
    obtain ⟨b6, hF⟩ := chk hF
    refine JM_iald (j := ix a1) dX9_read_83 c_83 (inb_vp b6) rfl ?_
    have e_r := Option.some.inj hF
    subst e_r
    exact J_ireturn rfl rfl dX9_read_84 ⟨rfl, rfl⟩
  rw [if_neg q5] at hF
  refine J_sw (fun q7 => ?_) (fun q7 => ?_)
  · rw [if_pos q7] at hF
    refine J_aload_n (j := 0) dX9_read_85 rfl rfl ?_
    refine JM_getR (r := 84) fl_WithOneHandModel_23_8 dX9_read_86 c_80 rfl rfl ?_
    refine J_iload_n (j := 1) dX9_read_89 rfl rfl ?_
    obtain ⟨b8, hF⟩ := chk hF
    refine JM_iald (j := ix a1) dX9_read_90 c_84 (inb_vp b8) rfl ?_
    have e_r := Option.some.inj hF
    subst e_r
    exact J_ireturn rfl rfl dX9_read_91 ⟨rfl, rfl⟩
  rw [if_neg q7] at hF
  refine J_sw (fun q9 => ?_) (fun q9 => ?_)
  · rw [if_pos q9] at hF
    refine J_aload_n (j := 0) dX9_read_92 rfl rfl ?_
    refine JM_getR (r := 85) fl_WithOneHandModel_26_8 dX9_read_93 c_80 rfl rfl ?_
    refine J_iload_n (j := 1) dX9_read_96 rfl rfl ?_
    obtain ⟨b10, hF⟩ := chk hF
    refine JM_iald (j := ix a1) dX9_read_97 c_85 (inb_vp b10) rfl ?_
    have e_r := Option.some.inj hF
    subst e_r
    exact J_ireturn rfl rfl dX9_read_98 ⟨rfl, rfl⟩
  rw [if_neg q9] at hF
  refine J_sw (fun q11 => ?_) (fun q11 => ?_)
  · rw [if_pos q11] at hF
    refine J_aload_n (j := 0) dX9_read_99 rfl rfl ?_
    refine JM_getR (r := 86) fl_WithOneHandModel_29_8 dX9_read_100 c_80 rfl rfl ?_
    refine J_iload_n (j := 1) dX9_read_103 rfl rfl ?_
    obtain ⟨b12, hF⟩ := chk hF
    refine JM_iald (j := ix a1) dX9_read_104 c_86 (inb_vp b12) rfl ?_
    have e_r := Option.some.inj hF
    subst e_r
    exact J_ireturn rfl rfl dX9_read_105 ⟨rfl, rfl⟩
  rw [if_neg q11] at hF
  refine J_sw (fun q13 => ?_) (fun q13 => ?_)
  · rw [if_pos q13] at hF
    refine J_aload_n (j := 0) dX9_read_106 rfl rfl ?_
    refine JM_getR (r := 88) fl_WithOneHandModel_35_8 dX9_read_107 c_80 rfl rfl ?_
    refine J_iload_n (j := 1) dX9_read_110 rfl rfl ?_
    obtain ⟨b14, hF⟩ := chk hF
    refine JM_iald (j := ix a1) dX9_read_111 c_88 (inb_vp b14) rfl ?_
    have e_r := Option.some.inj hF
    subst e_r
    exact J_ireturn rfl rfl dX9_read_112 ⟨rfl, rfl⟩
  rw [if_neg q13] at hF
  refine J_sw (fun q15 => ?_) (fun q15 => ?_)
  · rw [if_pos q15] at hF
    refine J_aload_n (j := 0) dX9_read_113 rfl rfl ?_
    refine JM_getR (r := 89) fl_WithOneHandModel_38_8 dX9_read_114 c_80 rfl rfl ?_
    refine J_iload_n (j := 1) dX9_read_117 rfl rfl ?_
    obtain ⟨b16, hF⟩ := chk hF
    refine JM_iald (j := ix a1) dX9_read_118 c_89 (inb_vp b16) rfl ?_
    have e_r := Option.some.inj hF
    subst e_r
    exact J_ireturn rfl rfl dX9_read_119 ⟨rfl, rfl⟩
  rw [if_neg q15] at hF
  refine J_sw (fun q17 => ?_) (fun q17 => ?_)
  · rw [if_pos q17] at hF
    refine J_aload_n (j := 0) dX9_read_120 rfl rfl ?_
    refine JM_getR (r := 90) fl_WithOneHandModel_41_8 dX9_read_121 c_80 rfl rfl ?_
    refine J_iload_n (j := 1) dX9_read_124 rfl rfl ?_
    obtain ⟨b18, hF⟩ := chk hF
    refine JM_iald (j := ix a1) dX9_read_125 c_90 (inb_vp b18) rfl ?_
    have e_r := Option.some.inj hF
    subst e_r
    exact J_ireturn rfl rfl dX9_read_126 ⟨rfl, rfl⟩
  rw [if_neg q17] at hF
  refine J_sw (fun q19 => ?_) (fun q19 => ?_)
  · rw [if_pos q19] at hF
    refine J_aload_n (j := 0) dX9_read_127 rfl rfl ?_
    refine JM_getI fl_WithOneHandModel_139_8 dX9_read_128 c_80 rfl ?_
    have e_r := Option.some.inj hF
    subst e_r
    exact J_ireturn rfl rfl dX9_read_131 ⟨rfl, rfl⟩
  rw [if_neg q19] at hF
  refine J_sw (fun q20 => ?_) (fun q20 => ?_)
  · rw [if_pos q20] at hF
    refine J_aload_n (j := 0) dX9_read_132 rfl rfl ?_
    refine JM_getI fl_WithOneHandModel_7_8 dX9_read_133 c_80 rfl ?_
    have e_r := Option.some.inj hF
    subst e_r
    exact J_ireturn rfl rfl dX9_read_136 ⟨rfl, rfl⟩
  rw [if_neg q20] at hF
  refine J_sw (fun q21 => ?_) (fun q21 => ?_)
  · rw [if_pos q21] at hF
    refine J_aload_n (j := 0) dX9_read_137 rfl rfl ?_
    refine JM_getR (r := 91) fl_WithOneHandModel_44_8 dX9_read_138 c_80 rfl rfl ?_
    refine J_iload_n (j := 1) dX9_read_141 rfl rfl ?_
    obtain ⟨b22, hF⟩ := chk hF
    refine JM_iald (j := ix a1) dX9_read_142 c_91 (inb_vp b22) rfl ?_
    have e_r := Option.some.inj hF
    subst e_r
    exact J_ireturn rfl rfl dX9_read_143 ⟨rfl, rfl⟩
  rw [if_neg q21] at hF
  refine J_swd ?_
  refine J_aload_n (j := 0) dX9_read_144 rfl rfl ?_
  refine JM_getR (r := 92) fl_WithOneHandModel_47_8 dX9_read_145 c_80 rfl rfl ?_
  refine J_iload_n (j := 1) dX9_read_148 rfl rfl ?_
  obtain ⟨b23, hF⟩ := chk hF
  refine JM_iald (j := ix a1) dX9_read_149 c_92 (inb_vp b23) rfl ?_
  have e_r := Option.some.inj hF
  subst e_r
  exact J_ireturn rfl rfl dX9_read_150 ⟨rfl, rfl⟩
def f_X9_write (a1 : Int32) (a2 : Int32) (a3 : Int32) (m : MM) : Option MM :=
  if a2 = 0 then
  if inb a1 6 = true then
  letx (ms m 81 (ix a1) a3) (fun m3 =>
  some m3)
  else none
  else
  if a2 = 1 then
  if inb a1 6 = true then
  letx (ms m 82 (ix a1) a3) (fun m6 =>
  some m6)
  else none
  else
  if a2 = 2 then
  if inb a1 6 = true then
  letx (ms m 83 (ix a1) a3) (fun m9 =>
  some m9)
  else none
  else
  if a2 = 3 then
  if inb a1 6 = true then
  letx (ms m 84 (ix a1) a3) (fun m12 =>
  some m12)
  else none
  else
  if a2 = 4 then
  if inb a1 6 = true then
  letx (ms m 85 (ix a1) a3) (fun m15 =>
  some m15)
  else none
  else
  if a2 = 5 then
  if inb a1 6 = true then
  letx (ms m 86 (ix a1) a3) (fun m18 =>
  some m18)
  else none
  else
  if a2 = 6 then
  if inb a1 2 = true then
  letx (ms m 88 (ix a1) a3) (fun m21 =>
  some m21)
  else none
  else
  if a2 = 7 then
  if inb a1 2 = true then
  letx (ms m 89 (ix a1) a3) (fun m24 =>
  some m24)
  else none
  else
  if a2 = 8 then
  if inb a1 2 = true then
  letx (ms m 90 (ix a1) a3) (fun m27 =>
  some m27)
  else none
  else
  if a2 = 9 then
  letx (ms m 80 3 a3) (fun m29 =>
  some m29)
  else
  if a2 = 10 then
  letx (ms m 80 4 a3) (fun m31 =>
  some m31)
  else
  if a2 = 11 then
  if inb a1 8 = true then
  letx (ms m 91 (ix a1) a3) (fun m34 =>
  some m34)
  else none
  else
  if inb a1 8 = true then
  letx (ms m 92 (ix a1) a3) (fun m36 =>
  some m36)
  else none
theorem S_X9_write {g : GC} {d : Nat} {a1 : Int32} {a2 : Int32} {a3 : Int32} {x : MX} {m : MM} {z : MM} (hd : 1 ≤ d) 
  (hF : f_X9_write a1 a2 a3 m = some z) : JC g m_X9_write d 0 0 [.ref 80, .int a1, .int a2, .int a3] (ST x m) (EQ (none) (ST x z)) := by
  refine JC.of (by decide +kernel) (Nat.le_of_ble_eq_true rfl) ?_
  change J g m_X9_write d 0 0 0 [(0, .ref 80), (1, .int a1), (2, .int a2), (3, .int a3)] [] (ST x m) 0 0 (EQ (none) (ST x z))
  unfold f_X9_write at hF
  refine J_iload_n (j := 2) dX9_write_0 rfl rfl ?_
  refine J_tsw (n := 11) (td := 180) (cs := [(0, 64), (1, 74), (2, 84), (3, 94), (4, 104), (5, 114), (6, 124), (7, 134), (8, 144), (9, 154), (10, 162), (11, 170)]) dX9_write_1 (by decide) (by decide) (by decide +kernel) (by decide +kernel) ?_
  refine J_sw (fun q1 => ?_) (fun q1 => ?_)
  · rw [if_pos q1] at hF
    refine J_aload_n (j := 0) dX9_write_64 rfl rfl ?_
    refine JM_getR (r := 81) fl_WithOneHandModel_13_8 dX9_write_65 c_80 rfl rfl ?_
    refine J_iload_n (j := 1) dX9_write_68 rfl rfl ?_
    refine J_iload_n (j := 3) dX9_write_69 rfl rfl ?_
    obtain ⟨b2, hF⟩ := chk hF
    obtain ⟨m3, e_m3, hF⟩ := letx_eq hF
    refine JM_iast (j := ix a1) dX9_write_70 c_81 (inb_vp b2) rfl ?_
    rw [← e_m3]
    refine J_goto (tgt := 187) dX9_write_71 (by decide) ?_
    have e_r := Option.some.inj hF
    subst e_r
    exact J_return rfl dX9_write_187 ⟨rfl, rfl⟩
  rw [if_neg q1] at hF
  refine J_sw (fun q4 => ?_) (fun q4 => ?_)
  · rw [if_pos q4] at hF
    refine J_aload_n (j := 0) dX9_write_74 rfl rfl ?_
    refine JM_getR (r := 82) fl_WithOneHandModel_17_8 dX9_write_75 c_80 rfl rfl ?_
    refine J_iload_n (j := 1) dX9_write_78 rfl rfl ?_
    refine J_iload_n (j := 3) dX9_write_79 rfl rfl ?_
    obtain ⟨b5, hF⟩ := chk hF
    obtain ⟨m6, e_m6, hF⟩ := letx_eq hF
    refine JM_iast (j := ix a1) dX9_write_80 c_82 (inb_vp b5) rfl ?_
    rw [← e_m6]
    refine J_goto (tgt := 187) dX9_write_81 (by decide) ?_
    have e_r := Option.some.inj hF
    subst e_r
    exact J_return rfl dX9_write_187 ⟨rfl, rfl⟩
  rw [if_neg q4] at hF
  refine J_sw (fun q7 => ?_) (fun q7 => ?_)
  · rw [if_pos q7] at hF
    refine J_aload_n (j := 0) dX9_write_84 rfl rfl ?_
    refine JM_getR (r := 83) fl_WithOneHandModel_20_8 dX9_write_85 c_80 rfl rfl ?_
    refine J_iload_n (j := 1) dX9_write_88 rfl rfl ?_
    refine J_iload_n (j := 3) dX9_write_89 rfl rfl ?_
    obtain ⟨b8, hF⟩ := chk hF
    obtain ⟨m9, e_m9, hF⟩ := letx_eq hF
    refine JM_iast (j := ix a1) dX9_write_90 c_83 (inb_vp b8) rfl ?_
    rw [← e_m9]
    refine J_goto (tgt := 187) dX9_write_91 (by decide) ?_
    have e_r := Option.some.inj hF
    subst e_r
    exact J_return rfl dX9_write_187 ⟨rfl, rfl⟩
  rw [if_neg q7] at hF
  refine J_sw (fun q10 => ?_) (fun q10 => ?_)
  · rw [if_pos q10] at hF
    refine J_aload_n (j := 0) dX9_write_94 rfl rfl ?_
    refine JM_getR (r := 84) fl_WithOneHandModel_23_8 dX9_write_95 c_80 rfl rfl ?_
    refine J_iload_n (j := 1) dX9_write_98 rfl rfl ?_
    refine J_iload_n (j := 3) dX9_write_99 rfl rfl ?_
    obtain ⟨b11, hF⟩ := chk hF
    obtain ⟨m12, e_m12, hF⟩ := letx_eq hF
    refine JM_iast (j := ix a1) dX9_write_100 c_84 (inb_vp b11) rfl ?_
    rw [← e_m12]
    refine J_goto (tgt := 187) dX9_write_101 (by decide) ?_
    have e_r := Option.some.inj hF
    subst e_r
    exact J_return rfl dX9_write_187 ⟨rfl, rfl⟩
  rw [if_neg q10] at hF
  refine J_sw (fun q13 => ?_) (fun q13 => ?_)
  · rw [if_pos q13] at hF
    refine J_aload_n (j := 0) dX9_write_104 rfl rfl ?_
    refine JM_getR (r := 85) fl_WithOneHandModel_26_8 dX9_write_105 c_80 rfl rfl ?_
    refine J_iload_n (j := 1) dX9_write_108 rfl rfl ?_
    refine J_iload_n (j := 3) dX9_write_109 rfl rfl ?_
    obtain ⟨b14, hF⟩ := chk hF
    obtain ⟨m15, e_m15, hF⟩ := letx_eq hF
    refine JM_iast (j := ix a1) dX9_write_110 c_85 (inb_vp b14) rfl ?_
    rw [← e_m15]
    refine J_goto (tgt := 187) dX9_write_111 (by decide) ?_
    have e_r := Option.some.inj hF
    subst e_r
    exact J_return rfl dX9_write_187 ⟨rfl, rfl⟩
  rw [if_neg q13] at hF
  refine J_sw (fun q16 => ?_) (fun q16 => ?_)
  · rw [if_pos q16] at hF
    refine J_aload_n (j := 0) dX9_write_114 rfl rfl ?_
    refine JM_getR (r := 86) fl_WithOneHandModel_29_8 dX9_write_115 c_80 rfl rfl ?_
    refine J_iload_n (j := 1) dX9_write_118 rfl rfl ?_
    refine J_iload_n (j := 3) dX9_write_119 rfl rfl ?_
    obtain ⟨b17, hF⟩ := chk hF
    obtain ⟨m18, e_m18, hF⟩ := letx_eq hF
    refine JM_iast (j := ix a1) dX9_write_120 c_86 (inb_vp b17) rfl ?_
    rw [← e_m18]
    refine J_goto (tgt := 187) dX9_write_121 (by decide) ?_
    have e_r := Option.some.inj hF
    subst e_r
    exact J_return rfl dX9_write_187 ⟨rfl, rfl⟩
  rw [if_neg q16] at hF
  refine J_sw (fun q19 => ?_) (fun q19 => ?_)
  · rw [if_pos q19] at hF
    refine J_aload_n (j := 0) dX9_write_124 rfl rfl ?_
    refine JM_getR (r := 88) fl_WithOneHandModel_35_8 dX9_write_125 c_80 rfl rfl ?_
    refine J_iload_n (j := 1) dX9_write_128 rfl rfl ?_
    refine J_iload_n (j := 3) dX9_write_129 rfl rfl ?_
    obtain ⟨b20, hF⟩ := chk hF
    obtain ⟨m21, e_m21, hF⟩ := letx_eq hF
    refine JM_iast (j := ix a1) dX9_write_130 c_88 (inb_vp b20) rfl ?_
    rw [← e_m21]
    refine J_goto (tgt := 187) dX9_write_131 (by decide) ?_
    have e_r := Option.some.inj hF
    subst e_r
    exact J_return rfl dX9_write_187 ⟨rfl, rfl⟩
  rw [if_neg q19] at hF
  refine J_sw (fun q22 => ?_) (fun q22 => ?_)
  · rw [if_pos q22] at hF
    refine J_aload_n (j := 0) dX9_write_134 rfl rfl ?_
    refine JM_getR (r := 89) fl_WithOneHandModel_38_8 dX9_write_135 c_80 rfl rfl ?_
    refine J_iload_n (j := 1) dX9_write_138 rfl rfl ?_
    refine J_iload_n (j := 3) dX9_write_139 rfl rfl ?_
    obtain ⟨b23, hF⟩ := chk hF
    obtain ⟨m24, e_m24, hF⟩ := letx_eq hF
    refine JM_iast (j := ix a1) dX9_write_140 c_89 (inb_vp b23) rfl ?_
    rw [← e_m24]
    refine J_goto (tgt := 187) dX9_write_141 (by decide) ?_
    have e_r := Option.some.inj hF
    subst e_r
    exact J_return rfl dX9_write_187 ⟨rfl, rfl⟩
  rw [if_neg q22] at hF
  refine J_sw (fun q25 => ?_) (fun q25 => ?_)
  · rw [if_pos q25] at hF
    refine J_aload_n (j := 0) dX9_write_144 rfl rfl ?_
    refine JM_getR (r := 90) fl_WithOneHandModel_41_8 dX9_write_145 c_80 rfl rfl ?_
    refine J_iload_n (j := 1) dX9_write_148 rfl rfl ?_
    refine J_iload_n (j := 3) dX9_write_149 rfl rfl ?_
    obtain ⟨b26, hF⟩ := chk hF
    obtain ⟨m27, e_m27, hF⟩ := letx_eq hF
    refine JM_iast (j := ix a1) dX9_write_150 c_90 (inb_vp b26) rfl ?_
    rw [← e_m27]
    refine J_goto (tgt := 187) dX9_write_151 (by decide) ?_
    have e_r := Option.some.inj hF
    subst e_r
    exact J_return rfl dX9_write_187 ⟨rfl, rfl⟩
  rw [if_neg q25] at hF
  refine J_sw (fun q28 => ?_) (fun q28 => ?_)
  · rw [if_pos q28] at hF
    refine J_aload_n (j := 0) dX9_write_154 rfl rfl ?_
    refine J_iload_n (j := 3) dX9_write_155 rfl rfl ?_
    obtain ⟨m29, e_m29, hF⟩ := letx_eq hF
    refine JM_putI fl_WithOneHandModel_139_8 dX9_write_156 c_80 rfl rfl rfl ?_
    rw [← e_m29]
    refine J_goto (tgt := 187) dX9_write_159 (by decide) ?_
    have e_r := Option.some.inj hF
    subst e_r
    exact J_return rfl dX9_write_187 ⟨rfl, rfl⟩
  rw [if_neg q28] at hF
  refine J_sw (fun q30 => ?_) (fun q30 => ?_)
  · rw [if_pos q30] at hF
    refine J_aload_n (j := 0) dX9_write_162 rfl rfl ?_
    refine J_iload_n (j := 3) dX9_write_163 rfl rfl ?_
    obtain ⟨m31, e_m31, hF⟩ := letx_eq hF
    refine JM_putI fl_WithOneHandModel_7_8 dX9_write_164 c_80 rfl rfl rfl ?_
    rw [← e_m31]
    refine J_goto (tgt := 187) dX9_write_167 (by decide) ?_
    have e_r := Option.some.inj hF
    subst e_r
    exact J_return rfl dX9_write_187 ⟨rfl, rfl⟩
  rw [if_neg q30] at hF
  refine J_sw (fun q32 => ?_) (fun q32 => ?_)
  · rw [if_pos q32] at hF
    refine J_aload_n (j := 0) dX9_write_170 rfl rfl ?_
    refine JM_getR (r := 91) fl_WithOneHandModel_44_8 dX9_write_171 c_80 rfl rfl ?_
    refine J_iload_n (j := 1) dX9_write_174 rfl rfl ?_
    refine J_iload_n (j := 3) dX9_write_175 rfl rfl ?_
    obtain ⟨b33, hF⟩ := chk hF
    obtain ⟨m34, e_m34, hF⟩ := letx_eq hF
    refine JM_iast (j := ix a1) dX9_write_176 c_91 (inb_vp b33) rfl ?_
    rw [← e_m34]
    refine J_goto (tgt := 187) dX9_write_177 (by decide) ?_
    have e_r := Option.some.inj hF
    subst e_r
    exact J_return rfl dX9_write_187 ⟨rfl, rfl⟩
  rw [if_neg q32] at hF
  refine J_swd ?_
  refine J_aload_n (j := 0) dX9_write_180 rfl rfl ?_
  refine JM_getR (r := 92) fl_WithOneHandModel_47_8 dX9_write_181 c_80 rfl rfl ?_
  refine J_iload_n (j := 1) dX9_write_184 rfl rfl ?_
  refine J_iload_n (j := 3) dX9_write_185 rfl rfl ?_
  obtain ⟨b35, hF⟩ := chk hF
  obtain ⟨m36, e_m36, hF⟩ := letx_eq hF
  refine JM_iast (j := ix a1) dX9_write_186 c_92 (inb_vp b35) rfl ?_
  rw [← e_m36]
  have e_r := Option.some.inj hF
  subst e_r
  exact J_return rfl dX9_write_187 ⟨rfl, rfl⟩
