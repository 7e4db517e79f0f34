def f_X8_takesByHand (a1 : Int32) (a2 : Int32) (a3 : Int32) (a4 : Int32) (x : MX) : Option (Int32 × MX) :=
  if inb a2 8 = true then
  if inb a3 8 = true then
  ob2 (f_X8_takesWith a1 a2 (xi x 9 (ix a2)) (xi x 13 (ix a3)) ((xi x 15 (ix a3)) + a4) x) (fun r3 x4 =>
  some (r3, x4))
  else none
  else none
theorem S_X8_takesByHand {g : GC} {d : Nat} {a1 : Int32} {a2 : Int32} {a3 : Int32} {a4 : Int32} {x : MX} {m : MM} {r : Int32} {z : MX} (hd : 4 ≤ d) 
  (hF : f_X8_takesByHand a1 a2 a3 a4 x = some (r, z)) : JC g m_X8_takesByHand d 0 0 [.ref 5, .int a1, .int a2, .int a3, .int a4] (ST x m) (EQ (some (.int r)) (ST z m)) := by
  refine JC.of (by decide +kernel) (Nat.le_of_ble_eq_true rfl) ?_
  change J g m_X8_takesByHand d 0 0 0 [(0, .ref 5), (1, .int a1), (2, .int a2), (3, .int a3), (4, .int a4)] [] (ST x m) 0 0 (EQ (some (.int r)) (ST z m))
  unfold f_X8_takesByHand at hF
  refine J_aload_n (j := 0) dX8_takesByHand_0 rfl rfl ?_
  refine J_iload_n (j := 1) dX8_takesByHand_1 rfl rfl ?_
  refine J_iload_n (j := 2) dX8_takesByHand_2 rfl rfl ?_
  refine J_aload_n (j := 0) dX8_takesByHand_3 rfl rfl ?_
  refine JX_getR (r := 6) fl_WithOneHand_11_7 dX8_takesByHand_4 c_5 rfl rfl ?_
  refine J_iconst (v := 2) dX8_takesByHand_7 (by decide) ?_
  refine JX_aald (j := 2) (r := 9) (by decide) dX8_takesByHand_8 c_6 (by unfold vp_in; decide) (by decide) rfl ?_
  refine J_iload_n (j := 2) dX8_takesByHand_9 rfl rfl ?_
  obtain ⟨b1, hF⟩ := chk hF
  refine JX_iald (j := ix a2) dX8_takesByHand_10 c_9 (inb_vp b1) rfl ?_
  refine J_aload_n (j := 0) dX8_takesByHand_11 rfl rfl ?_
  refine JX_getR (r := 6) fl_WithOneHand_11_7 dX8_takesByHand_12 c_5 rfl rfl ?_
  refine J_bipush (v := 6) dX8_takesByHand_15 (by decide) ?_
  refine JX_aald (j := 6) (r := 13) (by decide) dX8_takesByHand_17 c_6 (by unfold vp_in; decide) (by decide) rfl ?_
  refine J_iload_n (j := 3) dX8_takesByHand_18 rfl rfl ?_
  obtain ⟨b2, hF⟩ := chk hF
  refine JX_iald (j := ix a3) dX8_takesByHand_19 c_13 (inb_vp b2) rfl ?_
  refine J_aload_n (j := 0) dX8_takesByHand_20 rfl rfl ?_
  refine JX_getR (r := 6) fl_WithOneHand_11_7 dX8_takesByHand_21 c_5 rfl rfl ?_
  refine J_bipush (v := 8) dX8_takesByHand_24 (by decide) ?_
  refine JX_aald (j := 8) (r := 15) (by decide) dX8_takesByHand_26 c_6 (by unfold vp_in; decide) (by decide) rfl ?_
  refine J_iload_n (j := 3) dX8_takesByHand_27 rfl rfl ?_
  refine JX_iald (j := ix a3) dX8_takesByHand_28 c_15 (inb_vp b2) rfl ?_
  refine J_iload (j := 4) dX8_takesByHand_29 rfl ?_
  refine J_iadd dX8_takesByHand_31 ?_
  obtain ⟨r3, x4, h5, hF⟩ := ob2_some hF
  refine JX_callVi (As := [.int a1, .int a2, .int (xi x 9 (ix a2)), .int (xi x 13 (ix a3)), .int ((xi x 15 (ix a3)) + a4)]) (S := []) lkV_WithOneHand_359_X8_takesWith rfl (by decide) dX8_takesByHand_32 c_5 (S_X8_takesWith (by omega) h5) (by omega) rfl rfl (Nat.le_of_ble_eq_true rfl) rfl ?_
  obtain ⟨e_r, e_z⟩ := someP hF
  subst e_r
  subst e_z
  exact J_ireturn rfl rfl dX8_takesByHand_35 ⟨rfl, rfl⟩
def f_X8_takesNow (a1 : Int32) (a2 : Int32) (x : MX) : Option (Int32 × MX) :=
  if inb a2 8 = true then
  ob2 (f_X8_takesByHand a1 a2 (xi x 11 (ix a2)) 0 x) (fun r2 x3 =>
  some (r2, x3))
  else none
theorem S_X8_takesNow {g : GC} {d : Nat} {a1 : Int32} {a2 : Int32} {x : MX} {m : MM} {r : Int32} {z : MX} (hd : 5 ≤ d) 
  (hF : f_X8_takesNow a1 a2 x = some (r, z)) : JC g m_X8_takesNow d 0 0 [.ref 5, .int a1, .int a2] (ST x m) (EQ (some (.int r)) (ST z m)) := by
  refine JC.of (by decide +kernel) (Nat.le_of_ble_eq_true rfl) ?_
  change J g m_X8_takesNow d 0 0 0 [(0, .ref 5), (1, .int a1), (2, .int a2)] [] (ST x m) 0 0 (EQ (some (.int r)) (ST z m))
  unfold f_X8_takesNow at hF
  refine J_aload_n (j := 0) dX8_takesNow_0 rfl rfl ?_
  refine J_iload_n (j := 1) dX8_takesNow_1 rfl rfl ?_
  refine J_iload_n (j := 2) dX8_takesNow_2 rfl rfl ?_
  refine J_aload_n (j := 0) dX8_takesNow_3 rfl rfl ?_
  refine JX_getR (r := 6) fl_WithOneHand_11_7 dX8_takesNow_4 c_5 rfl rfl ?_
  refine J_iconst (v := 4) dX8_takesNow_7 (by decide) ?_
  refine JX_aald (j := 4) (r := 11) (by decide) dX8_takesNow_8 c_6 (by unfold vp_in; decide) (by decide) rfl ?_
  refine J_iload_n (j := 2) dX8_takesNow_9 rfl rfl ?_
  obtain ⟨b1, hF⟩ := chk hF
  refine JX_iald (j := ix a2) dX8_takesNow_10 c_11 (inb_vp b1) rfl ?_
  refine J_iconst (v := 0) dX8_takesNow_11 (by decide) ?_
  obtain ⟨r2, x3, h4, hF⟩ := ob2_some hF
  refine JX_callVi (As := [.int a1, .int a2, .int (xi x 11 (ix a2)), .int 0]) (S := []) lkV_WithOneHand_169_X8_takesByHand rfl (by decide) dX8_takesNow_12 c_5 (S_X8_takesByHand (by omega) h4) (by omega) rfl rfl (Nat.le_of_ble_eq_true rfl) rfl ?_
  obtain ⟨e_r, e_z⟩ := someP hF
  subst e_r
  subst e_z
  exact J_ireturn rfl rfl dX8_takesNow_15 ⟨rfl, rfl⟩
def B_X8_takesBefore_26 (v1 : Int32) (v2 : Int32) (t0 : Int32) (x : MX) : Option (Int32 × MX) :=
  ob2 (f_X8_takesByHand v1 v2 t0 0 x) (fun r2 x3 =>
  some (imax 1 (r2 / 2), x3))
theorem SB_X8_takesBefore_26 {g : GC} {d : Nat} {v1 : Int32} {v2 : Int32} {t0 : Int32} {x : MX} {m : MM} {r : Int32} {z : MX} (hd : 5 ≤ d) 
  (hF : B_X8_takesBefore_26 v1 v2 t0 x = some (r, z)) : J g m_X8_takesBefore d 0 0 26 [(0, .ref 5), (1, .int v1), (2, .int v2)] [.int t0] (ST x m) 0 0 (EQ (some (.int r)) (ST z m)) := by
  unfold B_X8_takesBefore_26 at hF
  refine J_istore_n (L' := [(3, .int t0), (0, .ref 5), (1, .int v1), (2, .int v2)]) dX8_takesBefore_26 rfl (by decide) rfl ?_
  refine J_iconst (v := 1) dX8_takesBefore_27 (by decide) ?_
  refine J_aload_n (j := 1) dX8_takesBefore_28 rfl rfl ?_
  refine J_iload_n (j := 2) dX8_takesBefore_29 rfl rfl ?_
  refine J_iload_n (j := 3) dX8_takesBefore_30 rfl rfl ?_
  refine J_iload_n (j := 0) dX8_takesBefore_31 rfl rfl ?_
  refine J_iconst (v := 0) dX8_takesBefore_32 (by decide) ?_
  obtain ⟨r2, x3, h4, hF⟩ := ob2_some hF
  refine JX_callVi (As := [.int v1, .int v2, .int t0, .int 0]) (S := [.int 1]) lkV_WithOneHand_169_X8_takesByHand rfl (by decide) dX8_takesBefore_33 c_5 (S_X8_takesByHand (by omega) h4) (by omega) rfl rfl (Nat.le_of_ble_eq_true rfl) rfl ?_
  refine J_iconst (v := 2) dX8_takesBefore_36 (by decide) ?_
  refine J_idiv dX8_takesBefore_37 (by decide) ?_
  refine J_mmax (S := []) (tb 505 (by decide +kernel)) dX8_takesBefore_38 (Nat.le_of_ble_eq_true rfl) ?_
  obtain ⟨e_r, e_z⟩ := someP hF
  subst e_r
  subst e_z
  exact J_ireturn rfl rfl dX8_takesBefore_41 ⟨rfl, rfl⟩
def f_X8_takesBefore (a1 : Int32) (a2 : Int32) (x : MX) : Option (Int32 × MX) :=
  if (xi x 13 1) ≤ (xi x 13 0) then
  B_X8_takesBefore_26 a1 a2 0 x
  else
  B_X8_takesBefore_26 a1 a2 1 x
theorem S_X8_takesBefore {g : GC} {d : Nat} {a1 : Int32} {a2 : Int32} {x : MX} {m : MM} {r : Int32} {z : MX} (hd : 5 ≤ d) 
  (hF : f_X8_takesBefore a1 a2 x = some (r, z)) : JC g m_X8_takesBefore d 0 0 [.ref 5, .int a1, .int a2] (ST x m) (EQ (some (.int r)) (ST z m)) := by
  refine JC.of (by decide +kernel) (Nat.le_of_ble_eq_true rfl) ?_
  change J g m_X8_takesBefore d 0 0 0 [(0, .ref 5), (1, .int a1), (2, .int a2)] [] (ST x m) 0 0 (EQ (some (.int r)) (ST z m))
  unfold f_X8_takesBefore at hF
  refine J_aload_n (j := 0) dX8_takesBefore_0 rfl rfl ?_
  refine JX_getR (r := 6) fl_WithOneHand_11_7 dX8_takesBefore_1 c_5 rfl rfl ?_
  refine J_bipush (v := 6) dX8_takesBefore_4 (by decide) ?_
  refine JX_aald (j := 6) (r := 13) (by decide) dX8_takesBefore_6 c_6 (by unfold vp_in; decide) (by decide) rfl ?_
  refine J_iconst (v := 1) dX8_takesBefore_7 (by decide) ?_
  refine JX_iald (j := 1) dX8_takesBefore_8 c_13 (by unfold vp_in; decide) (by decide) ?_
  refine J_aload_n (j := 0) dX8_takesBefore_9 rfl rfl ?_
  refine JX_getR (r := 6) fl_WithOneHand_11_7 dX8_takesBefore_10 c_5 rfl rfl ?_
  refine J_bipush (v := 6) dX8_takesBefore_13 (by decide) ?_
  refine JX_aald (j := 6) (r := 13) (by decide) dX8_takesBefore_15 c_6 (by unfold vp_in; decide) (by decide) rfl ?_
  refine J_iconst (v := 0) dX8_takesBefore_16 (by decide) ?_
  refine JX_iald (j := 0) dX8_takesBefore_17 c_13 (by unfold vp_in; decide) (by decide) ?_
  refine J_icmp_le (tgt := 25) dX8_takesBefore_18 (by decide) (fun q1 => ?_) (fun q1 => ?_)
  · rw [if_pos q1] at hF
    refine J_iconst (v := 0) dX8_takesBefore_25 (by decide) ?_
    exact SB_X8_takesBefore_26 hd hF
  · rw [if_neg q1] at hF
    refine J_iconst (v := 1) dX8_takesBefore_21 (by decide) ?_
    refine J_goto (tgt := 26) dX8_takesBefore_22 (by decide) ?_
    exact SB_X8_takesBefore_26 hd hF
def f_X8_goesThrough (a1 : Int32) (a2 : Int32) (x : MX) : Option Bool :=
  if inb a2 8 = true then
  if inb (1 - (xi x 11 (ix a2))) 8 = true then
  if inb a1 8 = true then
  if ((xi x 12 (ix a2)) + (2 * (xi x 8 (ix a1)))) < (xi x 14 (ix (1 - (xi x 11 (ix a2))))) then
  some false
  else
  some true
  else none
  else none
  else none
theorem S_X8_goesThrough {g : GC} {d : Nat} {a1 : Int32} {a2 : Int32} {x : MX} {m : MM} {r : Bool} (hd : 1 ≤ d) 
  (hF : f_X8_goesThrough a1 a2 x = some r) : JC g m_X8_goesThrough d 0 0 [.ref 5, .int a1, .int a2] (ST x m) (EQ (some (.int (b2i r))) (ST x m)) := by
  refine JC.of (by decide +kernel) (Nat.le_of_ble_eq_true rfl) ?_
  change J g m_X8_goesThrough d 0 0 0 [(0, .ref 5), (1, .int a1), (2, .int a2)] [] (ST x m) 0 0 (EQ (some (.int (b2i r))) (ST x m))
  unfold f_X8_goesThrough at hF
  refine J_iconst (v := 1) dX8_goesThrough_0 (by decide) ?_
  refine J_aload_n (j := 0) dX8_goesThrough_1 rfl rfl ?_
  refine JX_getR (r := 6) fl_WithOneHand_11_7 dX8_goesThrough_2 c_5 rfl rfl ?_
  refine J_iconst (v := 4) dX8_goesThrough_5 (by decide) ?_
  refine JX_aald (j := 4) (r := 11) (by decide) dX8_goesThrough_6 c_6 (by unfold vp_in; decide) (by decide) rfl ?_
  refine J_iload_n (j := 2) dX8_goesThrough_7 rfl rfl ?_
  obtain ⟨b1, hF⟩ := chk hF
  refine JX_iald (j := ix a2) dX8_goesThrough_8 c_11 (inb_vp b1) rfl ?_
  refine J_isub dX8_goesThrough_9 ?_
  refine J_istore_n (L' := [(3, .int (1 - (xi x 11 (ix a2)))), (0, .ref 5), (1, .int a1), (2, .int a2)]) dX8_goesThrough_10 rfl (by decide) rfl ?_
  refine J_aload_n (j := 1) dX8_goesThrough_11 rfl rfl ?_
  refine JX_getR (r := 6) fl_WithOneHand_11_7 dX8_goesThrough_12 c_5 rfl rfl ?_
  refine J_bipush (v := 7) dX8_goesThrough_15 (by decide) ?_
  refine JX_aald (j := 7) (r := 14) (by decide) dX8_goesThrough_17 c_6 (by unfold vp_in; decide) (by decide) rfl ?_
  refine J_iload_n (j := 0) dX8_goesThrough_18 rfl rfl ?_
  obtain ⟨b2, hF⟩ := chk hF
  refine JX_iald (j := ix (1 - (xi x 11 (ix a2)))) dX8_goesThrough_19 c_14 (inb_vp b2) rfl ?_
  refine J_aload_n (j := 1) dX8_goesThrough_20 rfl rfl ?_
  refine JX_getR (r := 6) fl_WithOneHand_11_7 dX8_goesThrough_21 c_5 rfl rfl ?_
  refine J_iconst (v := 5) dX8_goesThrough_24 (by decide) ?_
  refine JX_aald (j := 5) (r := 12) (by decide) dX8_goesThrough_25 c_6 (by unfold vp_in; decide) (by decide) rfl ?_
  refine J_iload_n (j := 3) dX8_goesThrough_26 rfl rfl ?_
  refine JX_iald (j := ix a2) dX8_goesThrough_27 c_12 (inb_vp b1) rfl ?_
  refine J_iconst (v := 2) dX8_goesThrough_28 (by decide) ?_
  refine J_aload_n (j := 1) dX8_goesThrough_29 rfl rfl ?_
  refine JX_getR (r := 6) fl_WithOneHand_11_7 dX8_goesThrough_30 c_5 rfl rfl ?_
  refine J_iconst (v := 1) dX8_goesThrough_33 (by decide) ?_
  refine JX_aald (j := 1) (r := 8) (by decide) dX8_goesThrough_34 c_6 (by unfold vp_in; decide) (by decide) rfl ?_
  refine J_iload_n (j := 2) dX8_goesThrough_35 rfl rfl ?_
  obtain ⟨b3, hF⟩ := chk hF
  refine JX_iald (j := ix a1) dX8_goesThrough_36 c_8 (inb_vp b3) rfl ?_
  refine J_imul dX8_goesThrough_37 ?_
  refine J_iadd dX8_goesThrough_38 ?_
  refine J_icmp_gt (tgt := 46) dX8_goesThrough_39 (by decide) (fun q4 => ?_) (fun q4 => ?_)
  · rw [if_pos q4] at hF
    refine J_iconst (v := 0) dX8_goesThrough_46 (by decide) ?_
    have e_r := Option.some.inj hF
    subst e_r
    exact J_ireturn rfl rfl dX8_goesThrough_47 ⟨rfl, rfl⟩
  · rw [if_neg q4] at hF
    refine J_iconst (v := 1) dX8_goesThrough_42 (by decide) ?_
    refine J_goto (tgt := 47) dX8_goesThrough_43 (by decide) ?_
    have e_r := Option.some.inj hF
    subst e_r
    exact J_ireturn rfl rfl dX8_goesThrough_47 ⟨rfl, rfl⟩
def f_X8_takesAtBest (a1 : Int32) (a2 : Int32) (x : MX) : Option (Int32 × MX) :=
  ob2 (f_X8_takesNow a1 a2 x) (fun r1 x2 =>
  ob (f_X8_goesThrough a1 a2 x2) (fun r4 =>
  if r4 = true then
  ob2 (f_X8_takesBefore a1 a2 x2) (fun r7 x8 =>
  some (imin r1 r7, x8))
  else
  some (r1, x2)))
theorem S_X8_takesAtBest {g : GC} {d : Nat} {a1 : Int32} {a2 : Int32} {x : MX} {m : MM} {r : Int32} {z : MX} (hd : 6 ≤ d) 
  (hF : f_X8_takesAtBest a1 a2 x = some (r, z)) : JC g m_X8_takesAtBest d 0 0 [.ref 5, .int a1, .int a2] (ST x m) (EQ (some (.int r)) (ST z m)) := by
  refine JC.of (by decide +kernel) (Nat.le_of_ble_eq_true rfl) ?_
  change J g m_X8_takesAtBest d 0 0 0 [(0, .ref 5), (1, .int a1), (2, .int a2)] [] (ST x m) 0 0 (EQ (some (.int r)) (ST z m))
  unfold f_X8_takesAtBest at hF
  refine J_aload_n (j := 0) dX8_takesAtBest_0 rfl rfl ?_
  refine J_iload_n (j := 1) dX8_takesAtBest_1 rfl rfl ?_
  refine J_iload_n (j := 2) dX8_takesAtBest_2 rfl rfl ?_
  obtain ⟨r1, x2, h3, hF⟩ := ob2_some hF
  refine JX_callVi (As := [.int a1, .int a2]) (S := []) lkV_WithOneHand_135_X8_takesNow rfl (by decide) dX8_takesAtBest_3 c_5 (S_X8_takesNow (by omega) h3) (by omega) rfl rfl (Nat.le_of_ble_eq_true rfl) rfl ?_
  refine J_istore_n (L' := [(3, .int r1), (0, .ref 5), (1, .int a1), (2, .int a2)]) dX8_takesAtBest_6 rfl (by decide) rfl ?_
  refine J_aload_n (j := 1) dX8_takesAtBest_7 rfl rfl ?_
  refine J_iload_n (j := 2) dX8_takesAtBest_8 rfl rfl ?_
  refine J_iload_n (j := 3) dX8_takesAtBest_9 rfl rfl ?_
  obtain ⟨r4, h5, hF⟩ := ob_some hF
  refine JX_callVi (As := [.int a1, .int a2]) (S := []) lkV_WithOneHand_142_X8_goesThrough rfl (by decide) dX8_takesAtBest_10 c_5 (S_X8_goesThrough (by omega) h5) (by omega) rfl rfl (Nat.le_of_ble_eq_true rfl) rfl ?_
  refine J_ifb_eq (tgt := 29) dX8_takesAtBest_13 (by decide) (fun q6 => ?_) (fun q6 => ?_)
  · rw [if_neg q6] at hF
    refine J_iload_n (j := 0) dX8_takesAtBest_29 rfl rfl ?_
    obtain ⟨e_r, e_z⟩ := someP hF
    subst e_r
    subst e_z
    exact J_ireturn rfl rfl dX8_takesAtBest_30 ⟨rfl, rfl⟩
  · rw [if_pos q6] at hF
    refine J_iload_n (j := 0) dX8_takesAtBest_16 rfl rfl ?_
    refine J_aload_n (j := 1) dX8_takesAtBest_17 rfl rfl ?_
    refine J_iload_n (j := 2) dX8_takesAtBest_18 rfl rfl ?_
    refine J_iload_n (j := 3) dX8_takesAtBest_19 rfl rfl ?_
    obtain ⟨r7, x8, h9, hF⟩ := ob2_some hF
    refine JX_callVi (As := [.int a1, .int a2]) (S := [.int r1]) lkV_WithOneHand_139_X8_takesBefore rfl (by decide) dX8_takesAtBest_20 c_5 (S_X8_takesBefore (by omega) h9) (by omega) rfl rfl (Nat.le_of_ble_eq_true rfl) rfl ?_
    refine J_mmin (S := []) (tb 531 (by decide +kernel)) dX8_takesAtBest_23 (Nat.le_of_ble_eq_true rfl) ?_
    refine J_goto (tgt := 30) dX8_takesAtBest_26 (by decide) ?_
    obtain ⟨e_r, e_z⟩ := someP hF
    subst e_r
    subst e_z
    exact J_ireturn rfl rfl dX8_takesAtBest_30 ⟨rfl, rfl⟩
def f_X8_seconds (a1 : Int32) (a2 : Int32) (x : MX) : Option (Int32 × MX) :=
  ob (f_X8_isLinkAndCuff a1 x) (fun r1 =>
  if r1 = true then
  if a2 < 0 then
  some ((-1), x)
  else
  if a2 ≤ 3 then
  if a2 = 0 then
  ob2 (f_X8_takesNow (a1 / 10) (a1 % 10) x) (fun r7 x8 =>
  some (r7, x8))
  else
  if a2 = 1 then
  ob2 (f_X8_takesBefore (a1 / 10) (a1 % 10) x) (fun r11 x12 =>
  some (r11, x12))
  else
  if a2 = 2 then
  ob (f_X8_goesThrough (a1 / 10) (a1 % 10) x) (fun r15 =>
  if r15 = true then
  some (1, x)
  else
  some (0, x))
  else
  ob2 (f_X8_takesAtBest (a1 / 10) (a1 % 10) x) (fun r18 x19 =>
  some (r18, x19))
  else
  some ((-1), x)
  else
  some ((-1), x))
theorem S_X8_seconds {g : GC} {d : Nat} {a1 : Int32} {a2 : Int32} {x : MX} {m : MM} {r : Int32} {z : MX} (hd : 7 ≤ d) 
  (hF : f_X8_seconds a1 a2 x = some (r, z)) : JC g m_X8_seconds d 0 0 [.ref 5, .int a1, .int a2] (ST x m) (EQ (some (.int r)) (ST z m)) := by
  refine JC.of (by decide +kernel) (Nat.le_of_ble_eq_true rfl) ?_
  change J g m_X8_seconds d 0 0 0 [(0, .ref 5), (1, .int a1), (2, .int a2)] [] (ST x m) 0 0 (EQ (some (.int r)) (ST z m))
  unfold f_X8_seconds at hF
  refine J_aload_n (j := 0) dX8_seconds_0 rfl rfl ?_
  refine J_iload_n (j := 1) dX8_seconds_1 rfl rfl ?_
  obtain ⟨r1, h2, hF⟩ := ob_some hF
  refine JX_callVi (As := [.int a1]) (S := []) lkV_WithOneHand_132_X8_isLinkAndCuff rfl (by decide) dX8_seconds_2 c_5 (S_X8_isLinkAndCuff (by omega) h2) (by omega) rfl rfl (Nat.le_of_ble_eq_true rfl) rfl ?_
  refine J_ifb_eq (tgt := 17) dX8_seconds_5 (by decide) (fun q3 => ?_) (fun q3 => ?_)
  · rw [if_neg q3] at hF
    refine J_iconst (v := (-1)) dX8_seconds_17 (by decide) ?_
    obtain ⟨e_r, e_z⟩ := someP hF
    subst e_r
    subst e_z
    exact J_ireturn rfl rfl dX8_seconds_18 ⟨rfl, rfl⟩
  · rw [if_pos q3] at hF
    refine J_iload_n (j := 2) dX8_seconds_8 rfl rfl ?_
    refine J_if_lt (tgt := 17) dX8_seconds_9 (by decide) (fun q4 => ?_) (fun q4 => ?_)
    · rw [if_pos q4] at hF
      refine J_iconst (v := (-1)) dX8_seconds_17 (by decide) ?_
      obtain ⟨e_r, e_z⟩ := someP hF
      subst e_r
      subst e_z
      exact J_ireturn rfl rfl dX8_seconds_18 ⟨rfl, rfl⟩
    · rw [if_neg q4] at hF
      refine J_iload_n (j := 2) dX8_seconds_12 rfl rfl ?_
      refine J_iconst (v := 3) dX8_seconds_13 (by decide) ?_
      refine J_icmp_le (tgt := 19) dX8_seconds_14 (by decide) (fun q5 => ?_) (fun q5 => ?_)
      · rw [if_pos q5] at hF
        refine J_iload_n (j := 1) dX8_seconds_19 rfl rfl ?_
        refine J_bipush (v := 10) dX8_seconds_20 (by decide) ?_
        refine J_idiv dX8_seconds_22 (by decide) ?_
        refine J_istore_n (L' := [(3, .int (a1 / 10)), (0, .ref 5), (1, .int a1), (2, .int a2)]) dX8_seconds_23 rfl (by decide) rfl ?_
        refine J_iload_n (j := 2) dX8_seconds_24 rfl rfl ?_
        refine J_bipush (v := 10) dX8_seconds_25 (by decide) ?_
        refine J_irem dX8_seconds_27 (by decide) ?_
        refine J_istore (L' := [(4, .int (a1 % 10)), (3, .int (a1 / 10)), (0, .ref 5), (1, .int a1), (2, .int a2)]) dX8_seconds_28 (by decide) rfl ?_
        refine J_iload_n (j := 4) dX8_seconds_30 rfl rfl ?_
        refine J_tsw (n := 2) (td := 88) (cs := [(0, 56), (1, 64), (2, 72)]) dX8_seconds_31 (by decide) (by decide) (by decide +kernel) (by decide +kernel) ?_
        refine J_sw (fun q6 => ?_) (fun q6 => ?_)
        · rw [if_pos q6] at hF
          refine J_aload_n (j := 2) dX8_seconds_56 rfl rfl ?_
          refine J_iload_n (j := 1) dX8_seconds_57 rfl rfl ?_
          refine J_iload (j := 0) dX8_seconds_58 rfl ?_
          obtain ⟨r7, x8, h9, hF⟩ := ob2_some hF
          refine JX_callVi (As := [.int (a1 / 10), .int (a1 % 10)]) (S := []) lkV_WithOneHand_135_X8_takesNow rfl (by decide) dX8_seconds_60 c_5 (S_X8_takesNow (by omega) h9) (by omega) rfl rfl (Nat.le_of_ble_eq_true rfl) rfl ?_
          obtain ⟨e_r, e_z⟩ := someP hF
          subst e_r
          subst e_z
          exact J_ireturn rfl rfl dX8_seconds_63 ⟨rfl, rfl⟩
        rw [if_neg q6] at hF
        refine J_sw (fun q10 => ?_) (fun q10 => ?_)
        · rw [if_pos q10] at hF
          refine J_aload_n (j := 2) dX8_seconds_64 rfl rfl ?_
          refine J_iload_n (j := 1) dX8_seconds_65 rfl rfl ?_
          refine J_iload (j := 0) dX8_seconds_66 rfl ?_
          obtain ⟨r11, x12, h13, hF⟩ := ob2_some hF
          refine JX_callVi (As := [.int (a1 / 10), .int (a1 % 10)]) (S := []) lkV_WithOneHand_139_X8_takesBefore rfl (by decide) dX8_seconds_68 c_5 (S_X8_takesBefore (by omega) h13) (by omega) rfl rfl (Nat.le_of_ble_eq_true rfl) rfl ?_
          obtain ⟨e_r, e_z⟩ := someP hF
          subst e_r
          subst e_z
          exact J_ireturn rfl rfl dX8_seconds_71 ⟨rfl, rfl⟩
        rw [if_neg q10] at hF
        refine J_sw (fun q14 => ?_) (fun q14 => ?_)
        · rw [if_pos q14] at hF
          refine J_aload_n (j := 2) dX8_seconds_72 rfl rfl ?_
          refine J_iload_n (j := 1) dX8_seconds_73 rfl rfl ?_
          refine J_iload (j := 0) dX8_seconds_74 rfl ?_
          obtain ⟨r15, h16, hF⟩ := ob_some hF
          refine JX_callVi (As := [.int (a1 / 10), .int (a1 % 10)]) (S := []) lkV_WithOneHand_142_X8_goesThrough rfl (by decide) dX8_seconds_76 c_5 (S_X8_goesThrough (by omega) h16) (by omega) rfl rfl (Nat.le_of_ble_eq_true rfl) rfl ?_
          refine J_ifb_eq (tgt := 86) dX8_seconds_79 (by decide) (fun q17 => ?_) (fun q17 => ?_)
          · rw [if_neg q17] at hF
            refine J_iconst (v := 0) dX8_seconds_86 (by decide) ?_
            obtain ⟨e_r, e_z⟩ := someP hF
            subst e_r
            subst e_z
            exact J_ireturn rfl rfl dX8_seconds_87 ⟨rfl, rfl⟩
          · rw [if_pos q17] at hF
            refine J_iconst (v := 1) dX8_seconds_82 (by decide) ?_
            refine J_goto (tgt := 87) dX8_seconds_83 (by decide) ?_
            obtain ⟨e_r, e_z⟩ := someP hF
            subst e_r
            subst e_z
            exact J_ireturn rfl rfl dX8_seconds_87 ⟨rfl, rfl⟩
        rw [if_neg q14] at hF
        refine J_swd ?_
        refine J_aload_n (j := 2) dX8_seconds_88 rfl rfl ?_
        refine J_iload_n (j := 1) dX8_seconds_89 rfl rfl ?_
        refine J_iload (j := 0) dX8_seconds_90 rfl ?_
        obtain ⟨r18, x19, h20, hF⟩ := ob2_some hF
        refine JX_callVi (As := [.int (a1 / 10), .int (a1 % 10)]) (S := []) lkV_WithOneHand_145_X8_takesAtBest rfl (by decide) dX8_seconds_92 c_5 (S_X8_takesAtBest (by omega) h20) (by omega) rfl rfl (Nat.le_of_ble_eq_true rfl) rfl ?_
        obtain ⟨e_r, e_z⟩ := someP hF
        subst e_r
        subst e_z
        exact J_ireturn rfl rfl dX8_seconds_95 ⟨rfl, rfl⟩
      · rw [if_neg q5] at hF
        refine J_iconst (v := (-1)) dX8_seconds_17 (by decide) ?_
        obtain ⟨e_r, e_z⟩ := someP hF
        subst e_r
        subst e_z
        exact J_ireturn rfl rfl dX8_seconds_18 ⟨rfl, rfl⟩
def f_X9_isPair (a1 : Int32) (m : MM) : Option Bool :=
  if a1 < 0 then
  some false
  else
  if (f_X9_isLink (a1 / 10) m) = true then
  if (f_X9_isCuff (a1 % 10) m) = true then
  some true
  else
  some false
  else
  some false
theorem S_X9_isPair {g : GC} {d : Nat} {a1 : Int32} {x : MX} {m : MM} {r : Bool} (hd : 2 ≤ d) 
  (hF : f_X9_isPair a1 m = some r) : JC g m_X9_isPair d 0 0 [.ref 80, .int a1] (ST x m) (EQ (some (.int (b2i r))) (ST x m)) := by
  refine JC.of (by decide +kernel) (Nat.le_of_ble_eq_true rfl) ?_
  change J g m_X9_isPair d 0 0 0 [(0, .ref 80), (1, .int a1)] [] (ST x m) 0 0 (EQ (some (.int (b2i r))) (ST x m))
  unfold f_X9_isPair at hF
  refine J_iload_n (j := 1) dX9_isPair_0 rfl rfl ?_
  refine J_if_lt (tgt := 30) dX9_isPair_1 (by decide) (fun q1 => ?_) (fun q1 => ?_)
  · rw [if_pos q1] at hF
    refine J_iconst (v := 0) dX9_isPair_30 (by decide) ?_
    have e_r := Option.some.inj hF
    subst e_r
    exact J_ireturn rfl rfl dX9_isPair_31 ⟨rfl, rfl⟩
  · rw [if_neg q1] at hF
    refine J_aload_n (j := 0) dX9_isPair_4 rfl rfl ?_
    refine J_iload_n (j := 1) dX9_isPair_5 rfl rfl ?_
    refine J_bipush (v := 10) dX9_isPair_6 (by decide) ?_
    refine J_idiv dX9_isPair_8 (by decide) ?_
    refine JM_callVi (As := [.int (a1 / 10)]) (S := []) lkV_WithOneHandModel_133_X9_isLink rfl (by decide) dX9_isPair_9 c_80 (S_X9_isLink (by omega) rfl) (by omega) rfl rfl (Nat.le_of_ble_eq_true rfl) rfl ?_
    refine J_ifb_eq (tgt := 30) dX9_isPair_12 (by decide) (fun q2 => ?_) (fun q2 => ?_)
    · rw [if_neg q2] at hF
      refine J_iconst (v := 0) dX9_isPair_30 (by decide) ?_
      have e_r := Option.some.inj hF
      subst e_r
      exact J_ireturn rfl rfl dX9_isPair_31 ⟨rfl, rfl⟩
    · rw [if_pos q2] at hF
      refine J_aload_n (j := 0) dX9_isPair_15 rfl rfl ?_
      refine J_iload_n (j := 1) dX9_isPair_16 rfl rfl ?_
      refine J_bipush (v := 10) dX9_isPair_17 (by decide) ?_
      refine J_irem dX9_isPair_19 (by decide) ?_
      refine JM_callVi (As := [.int (a1 % 10)]) (S := []) lkV_WithOneHandModel_136_X9_isCuff rfl (by decide) dX9_isPair_20 c_80 (S_X9_isCuff (by omega) rfl) (by omega) rfl rfl (Nat.le_of_ble_eq_true rfl) rfl ?_
      refine J_ifb_eq (tgt := 30) dX9_isPair_23 (by decide) (fun q3 => ?_) (fun q3 => ?_)
      · rw [if_neg q3] at hF
        refine J_iconst (v := 0) dX9_isPair_30 (by decide) ?_
        have e_r := Option.some.inj hF
        subst e_r
        exact J_ireturn rfl rfl dX9_isPair_31 ⟨rfl, rfl⟩
      · rw [if_pos q3] at hF
        refine J_iconst (v := 1) dX9_isPair_26 (by decide) ?_
        refine J_goto (tgt := 31) dX9_isPair_27 (by decide) ?_
        have e_r := Option.some.inj hF
        subst e_r
        exact J_ireturn rfl rfl dX9_isPair_31 ⟨rfl, rfl⟩
def f_X9_one (a1 : Int32) : Int32 :=
  if a1 = 0 then
  0
  else
  1
theorem S_X9_one {g : GC} {d : Nat} {a1 : Int32} {x : MX} {m : MM} {r : Int32} (hd : 1 ≤ d) 
  (hF : f_X9_one a1 = r) : JC g m_X9_one d 0 0 [.ref 80, .int a1] (ST x m) (EQ (some (.int r)) (ST x m)) := by
  refine JC.of (by decide +kernel) (Nat.le_of_ble_eq_true rfl) ?_
  change J g m_X9_one d 0 0 0 [(0, .ref 80), (1, .int a1)] [] (ST x m) 0 0 (EQ (some (.int r)) (ST x m))
  unfold f_X9_one at hF
  refine J_iload_n (j := 1) dX9_one_0 rfl rfl ?_
  refine J_if_eq (tgt := 8) dX9_one_1 (by decide) (fun q1 => ?_) (fun q1 => ?_)
  · rw [if_pos q1] at hF
    refine J_iconst (v := 0) dX9_one_8 (by decide) ?_
    subst hF
    exact J_ireturn rfl rfl dX9_one_9 ⟨rfl, rfl⟩
  · rw [if_neg q1] at hF
    refine J_iconst (v := 1) dX9_one_4 (by decide) ?_
    refine J_goto (tgt := 9) dX9_one_5 (by decide) ?_
    subst hF
    exact J_ireturn rfl rfl dX9_one_9 ⟨rfl, rfl⟩
def f_X9_seen (m : MM) : Option Int32 :=
  if (mi m 80 6) ≤ (mi m 80 30) then
  some (-1)
  else
  if inb (mi m 80 30) 120 = true then
  some (mi m 94 (ix (mi m 80 30)))
  else none
theorem S_X9_seen {g : GC} {d : Nat}  {x : MX} {m : MM} {r : Int32} (hd : 1 ≤ d) 
  (hF : f_X9_seen m = some r) : JC g m_X9_seen d 0 0 [.ref 80] (ST x m) (EQ (some (.int r)) (ST x m)) := by
  refine JC.of (by decide +kernel) (Nat.le_of_ble_eq_true rfl) ?_
  change J g m_X9_seen d 0 0 0 [(0, .ref 80)] [] (ST x m) 0 0 (EQ (some (.int r)) (ST x m))
  unfold f_X9_seen at hF
  refine J_aload_n (j := 0) dX9_seen_0 rfl rfl ?_
  refine JM_getI fl_WithOneHandModel_171_8 dX9_seen_1 c_80 rfl ?_
  refine J_aload_n (j := 0) dX9_seen_4 rfl rfl ?_
  refine JM_getI fl_WithOneHandModel_216_8 dX9_seen_5 c_80 rfl ?_
  refine J_icmp_ge (tgt := 23) dX9_seen_8 (by decide) (fun q1 => ?_) (fun q1 => ?_)
  · rw [if_pos q1] at hF
    refine J_iconst (v := (-1)) dX9_seen_23 (by decide) ?_
    have e_r := Option.some.inj hF
    subst e_r
    exact J_ireturn rfl rfl dX9_seen_24 ⟨rfl, rfl⟩
  · rw [if_neg q1] at hF
    refine J_aload_n (j := 0) dX9_seen_11 rfl rfl ?_
    refine JM_getR (r := 94) fl_WithOneHandModel_53_8 dX9_seen_12 c_80 rfl rfl ?_
    refine J_aload_n (j := 0) dX9_seen_15 rfl rfl ?_
    refine JM_getI fl_WithOneHandModel_171_8 dX9_seen_16 c_80 rfl ?_
    obtain ⟨b2, hF⟩ := chk hF
    refine JM_iald (j := ix (mi m 80 30)) dX9_seen_19 c_94 (inb_vp b2) rfl ?_
    refine J_goto (tgt := 24) dX9_seen_20 (by decide) ?_
    have e_r := Option.some.inj hF
    subst e_r
    exact J_ireturn rfl rfl dX9_seen_24 ⟨rfl, rfl⟩
def f_X9_isSeen (a1 : Int32) (m : MM) : Option (Bool × MM) :=
  ob (f_X9_seen m) (fun r1 =>
  if r1 = a1 then
  letx (ms m 80 30 ((mi m 80 30) + 1)) (fun m4 =>
  some (true, m4))
  else
  some (false, m))
theorem S_X9_isSeen {g : GC} {d : Nat} {a1 : Int32} {x : MX} {m : MM} {r : Bool} {z : MM} (hd : 2 ≤ d) 
  (hF : f_X9_isSeen a1 m = some (r, z)) : JC g m_X9_isSeen d 0 0 [.ref 80, .int a1] (ST x m) (EQ (some (.int (b2i r))) (ST x z)) := by
  refine JC.of (by decide +kernel) (Nat.le_of_ble_eq_true rfl) ?_
  change J g m_X9_isSeen d 0 0 0 [(0, .ref 80), (1, .int a1)] [] (ST x m) 0 0 (EQ (some (.int (b2i r))) (ST x z))
  unfold f_X9_isSeen at hF
  refine J_aload_n (j := 0) dX9_isSeen_0 rfl rfl ?_
  obtain ⟨r1, h2, hF⟩ := ob_some hF
  refine JM_callVi (As := []) (S := []) lkV_WithOneHandModel_222_X9_seen rfl (by decide) dX9_isSeen_1 c_80 (S_X9_seen (by omega) h2) (by omega) rfl rfl (Nat.le_of_ble_eq_true rfl) rfl ?_
  refine J_iload_n (j := 1) dX9_isSeen_4 rfl rfl ?_
  refine J_icmp_eq (tgt := 10) dX9_isSeen_5 (by decide) (fun q3 => ?_) (fun q3 => ?_)
  · rw [if_pos q3] at hF
    refine J_aload_n (j := 0) dX9_isSeen_10 rfl rfl ?_
    refine J_dup dX9_isSeen_11 rfl ?_
    refine JM_getI fl_WithOneHandModel_171_8 dX9_isSeen_12 c_80 rfl ?_
    refine J_iconst (v := 1) dX9_isSeen_15 (by decide) ?_
    refine J_iadd dX9_isSeen_16 ?_
    obtain ⟨m4, e_m4, hF⟩ := letx_eq hF
    refine JM_putI fl_WithOneHandModel_171_8 dX9_isSeen_17 c_80 rfl rfl rfl ?_
    rw [← e_m4]
    refine J_iconst (v := 1) dX9_isSeen_20 (by decide) ?_
    obtain ⟨e_r, e_z⟩ := someP hF
    subst e_r
    subst e_z
    exact J_ireturn rfl rfl dX9_isSeen_21 ⟨rfl, rfl⟩
  · rw [if_neg q3] at hF
    refine J_iconst (v := 0) dX9_isSeen_8 (by decide) ?_
    obtain ⟨e_r, e_z⟩ := someP hF
    subst e_r
    subst e_z
    exact J_ireturn rfl rfl dX9_isSeen_9 ⟨rfl, rfl⟩
def B_X9_takesO_93 (s_X9_takesO : MM → Option (Int32 × MM)) (s_X9_takesP : MM → Option (Int32 × MM)) (s_X9_takesS : MM → Option (Int32 × MM)) (s_X9_takesB : MM → Option (Int32 × MM)) (s_X9_takesA : MM → Option (Int32 × MM)) (s_X9_takesE : MM → Option (Int32 × MM)) (t0 : Int32) (m : MM) : Option (Int32 × MM) :=
  some (f_X9_one t0, m)
theorem SB_X9_takesO_93 {g : GC} {nn d : Nat} {s_X9_takesO : MM → Option (Int32 × MM)} {s_X9_takesP : MM → Option (Int32 × MM)} {s_X9_takesS : MM → Option (Int32 × MM)} {s_X9_takesB : MM → Option (Int32 × MM)} {s_X9_takesA : MM → Option (Int32 × MM)} {s_X9_takesE : MM → Option (Int32 × MM)} {t0 : Int32} {x : MX} {m : MM} {r : Int32} {z : MM} (hd : nn + 4 ≤ d) (hs_s_X9_takesO : ∀ (d : Nat), nn + 3 ≤ d → ∀  (m : MM) (r : Int32) (z : MM), s_X9_takesO m = some (r, z) → JC g m_X9_takesO d 0 0 [.ref 80] (ST x m) (EQ (some (.int r)) (ST x z))) (hs_s_X9_takesP : ∀ (d : Nat), nn + 3 ≤ d → ∀  (m : MM) (r : Int32) (z : MM), s_X9_takesP m = some (r, z) → JC g m_X9_takesP d 0 0 [.ref 80] (ST x m) (EQ (some (.int r)) (ST x z))) (hs_s_X9_takesS : ∀ (d : Nat), nn + 3 ≤ d → ∀  (m : MM) (r : Int32) (z : MM), s_X9_takesS m = some (r, z) → JC g m_X9_takesS d 0 0 [.ref 80] (ST x m) (EQ (some (.int r)) (ST x z))) (hs_s_X9_takesB : ∀ (d : Nat), nn + 3 ≤ d → ∀  (m : MM) (r : Int32) (z : MM), s_X9_takesB m = some (r, z) → JC g m_X9_takesB d 0 0 [.ref 80] (ST x m) (EQ (some (.int r)) (ST x z))) (hs_s_X9_takesA : ∀ (d : Nat), nn + 3 ≤ d → ∀  (m : MM) (r : Int32) (z : MM), s_X9_takesA m = some (r, z) → JC g m_X9_takesA d 0 0 [.ref 80] (ST x m) (EQ (some (.int r)) (ST x z))) (hs_s_X9_takesE : ∀ (d : Nat), nn + 3 ≤ d → ∀  (m : MM) (r : Int32) (z : MM), s_X9_takesE m = some (r, z) → JC g m_X9_takesE d 0 0 [.ref 80] (ST x m) (EQ (some (.int r)) (ST x z)))
  (hF : B_X9_takesO_93 s_X9_takesO s_X9_takesP s_X9_takesS s_X9_takesB s_X9_takesA s_X9_takesE t0 m = some (r, z)) : J g m_X9_takesO d 0 0 93 [] [.int t0, .ref 80] (ST x m) 0 0 (EQ (some (.int r)) (ST x z)) := by
  unfold B_X9_takesO_93 at hF
  refine JM_callVi (As := [.int t0]) (S := []) lkV_WithOneHandModel_228_X9_one rfl (by decide) dX9_takesO_93 c_80 (S_X9_one (by omega) rfl) (by omega) rfl rfl (Nat.le_of_ble_eq_true rfl) rfl ?_
  obtain ⟨e_r, e_z⟩ := someP hF
  subst e_r
  subst e_z
  exact J_ireturn rfl rfl dX9_takesO_96 ⟨rfl, rfl⟩
def B_X9_takesO_20 (s_X9_takesO : MM → Option (Int32 × MM)) (s_X9_takesP : MM → Option (Int32 × MM)) (s_X9_takesS : MM → Option (Int32 × MM)) (s_X9_takesB : MM → Option (Int32 × MM)) (s_X9_takesA : MM → Option (Int32 × MM)) (s_X9_takesE : MM → Option (Int32 × MM)) (K20 : Int32 → MM → Option (Int32 × MM)) (v2 : Int32) (m : MM) : Option (Int32 × MM) :=
  ob (f_X9_seen m) (fun r20 =>
  if (f_X9_isDigit r20) = true then
  if inb (mi m 80 30) 120 = true then
  letx (((10 * v2) + (mi m 94 (ix (mi m 80 30)))) - 48) (fun y24 =>
  letx (ms m 80 30 ((mi m 80 30) + 1)) (fun m25 =>
  K20 y24 m25))
  else none
  else
  some (v2, m))
theorem SB_X9_takesO_20 {g : GC} {nn d : Nat} {s_X9_takesO : MM → Option (Int32 × MM)} {s_X9_takesP : MM → Option (Int32 × MM)} {s_X9_takesS : MM → Option (Int32 × MM)} {s_X9_takesB : MM → Option (Int32 × MM)} {s_X9_takesA : MM → Option (Int32 × MM)} {s_X9_takesE : MM → Option (Int32 × MM)} {K20 : Int32 → MM → Option (Int32 × MM)} {v2 : Int32} {x : MX} {m : MM} {r : Int32} {z : MM} (hd : nn + 4 ≤ d) (hs_s_X9_takesO : ∀ (d : Nat), nn + 3 ≤ d → ∀  (m : MM) (r : Int32) (z : MM), s_X9_takesO m = some (r, z) → JC g m_X9_takesO d 0 0 [.ref 80] (ST x m) (EQ (some (.int r)) (ST x z))) (hs_s_X9_takesP : ∀ (d : Nat), nn + 3 ≤ d → ∀  (m : MM) (r : Int32) (z : MM), s_X9_takesP m = some (r, z) → JC g m_X9_takesP d 0 0 [.ref 80] (ST x m) (EQ (some (.int r)) (ST x z))) (hs_s_X9_takesS : ∀ (d : Nat), nn + 3 ≤ d → ∀  (m : MM) (r : Int32) (z : MM), s_X9_takesS m = some (r, z) → JC g m_X9_takesS d 0 0 [.ref 80] (ST x m) (EQ (some (.int r)) (ST x z))) (hs_s_X9_takesB : ∀ (d : Nat), nn + 3 ≤ d → ∀  (m : MM) (r : Int32) (z : MM), s_X9_takesB m = some (r, z) → JC g m_X9_takesB d 0 0 [.ref 80] (ST x m) (EQ (some (.int r)) (ST x z))) (hs_s_X9_takesA : ∀ (d : Nat), nn + 3 ≤ d → ∀  (m : MM) (r : Int32) (z : MM), s_X9_takesA m = some (r, z) → JC g m_X9_takesA d 0 0 [.ref 80] (ST x m) (EQ (some (.int r)) (ST x z))) (hs_s_X9_takesE : ∀ (d : Nat), nn + 3 ≤ d → ∀  (m : MM) (r : Int32) (z : MM), s_X9_takesE m = some (r, z) → JC g m_X9_takesE d 0 0 [.ref 80] (ST x m) (EQ (some (.int r)) (ST x z))) (hK20 : ∀ (v2 : Int32) (m : MM) (r : Int32) (z : MM), K20 v2 m = some (r, z) → J g m_X9_takesO d 0 0 20 [(0, .ref 80), (2, .int v2)] [] (ST x m) 0 0 (EQ (some (.int r)) (ST x z)))
  (hF : B_X9_takesO_20 s_X9_takesO s_X9_takesP s_X9_takesS s_X9_takesB s_X9_takesA s_X9_takesE K20 v2 m = some (r, z)) : J g m_X9_takesO d 0 0 20 [(0, .ref 80), (2, .int v2)] [] (ST x m) 0 0 (EQ (some (.int r)) (ST x z)) := by
  unfold B_X9_takesO_20 at hF
  refine J_aload_n (j := 0) dX9_takesO_20 rfl rfl ?_
  refine J_aload_n (j := 0) dX9_takesO_21 rfl rfl ?_
  obtain ⟨r20, h21, hF⟩ := ob_some hF
  refine JM_callVi (As := []) (S := [.ref 80]) lkV_WithOneHandModel_222_X9_seen rfl (by decide) dX9_takesO_22 c_80 (S_X9_seen (by omega) h21) (by omega) rfl rfl (Nat.le_of_ble_eq_true rfl) rfl ?_
  refine JM_callVi (As := [.int r20]) (S := []) lkV_WithOneHandModel_182_X9_isDigit rfl (by decide) dX9_takesO_25 c_80 (S_X9_isDigit (by omega) rfl) (by omega) rfl rfl (Nat.le_of_ble_eq_true rfl) rfl ?_
  refine J_ifb_eq (tgt := 62) dX9_takesO_28 (by decide) (fun q22 => ?_) (fun q22 => ?_)
  · rw [if_neg q22] at hF
    refine J_iload_n (j := 1) dX9_takesO_62 rfl rfl ?_
    obtain ⟨e_r, e_z⟩ := someP hF
    subst e_r
    subst e_z
    exact J_ireturn rfl rfl dX9_takesO_63 ⟨rfl, rfl⟩
  · rw [if_pos q22] at hF
    refine J_bipush (v := 10) dX9_takesO_31 (by decide) ?_
    refine J_iload_n (j := 1) dX9_takesO_33 rfl rfl ?_
    refine J_imul dX9_takesO_34 ?_
    refine J_aload_n (j := 0) dX9_takesO_35 rfl rfl ?_
    refine JM_getR (r := 94) fl_WithOneHandModel_53_8 dX9_takesO_36 c_80 rfl rfl ?_
    refine J_aload_n (j := 0) dX9_takesO_39 rfl rfl ?_
    refine JM_getI fl_WithOneHandModel_171_8 dX9_takesO_40 c_80 rfl ?_
    obtain ⟨b23, hF⟩ := chk hF
    refine JM_iald (j := ix (mi m 80 30)) dX9_takesO_43 c_94 (inb_vp b23) rfl ?_
    refine J_iadd dX9_takesO_44 ?_
    refine J_bipush (v := 48) dX9_takesO_45 (by decide) ?_
    refine J_isub dX9_takesO_47 ?_
    obtain ⟨y24, e_y24, hF⟩ := letx_eq hF
    rw [← e_y24]
    refine J_istore_n (L' := [(2, .int y24), (0, .ref 80)]) dX9_takesO_48 rfl (by decide) rfl ?_
    refine J_aload_n (j := 1) dX9_takesO_49 rfl rfl ?_
    refine J_dup dX9_takesO_50 rfl ?_
    refine JM_getI fl_WithOneHandModel_171_8 dX9_takesO_51 c_80 rfl ?_
    refine J_iconst (v := 1) dX9_takesO_54 (by decide) ?_
    refine J_iadd dX9_takesO_55 ?_
    obtain ⟨m25, e_m25, hF⟩ := letx_eq hF
    refine JM_putI fl_WithOneHandModel_171_8 dX9_takesO_56 c_80 rfl rfl rfl ?_
    rw [← e_m25]
    refine J_goto (tgt := 20) dX9_takesO_59 (by decide) ?_
    refine J_sub [1, 0] rfl ?_
    exact hK20 _ _ _ _  hF
def f_X9_takesO_20 (s_X9_takesO : MM → Option (Int32 × MM)) (s_X9_takesP : MM → Option (Int32 × MM)) (s_X9_takesS : MM → Option (Int32 × MM)) (s_X9_takesB : MM → Option (Int32 × MM)) (s_X9_takesA : MM → Option (Int32 × MM)) (s_X9_takesE : MM → Option (Int32 × MM)) : Nat → Int32 → MM → Option (Int32 × MM)
  | 0 => fun _ _ => none
  | n + 1 => fun v2 m => B_X9_takesO_20 s_X9_takesO s_X9_takesP s_X9_takesS s_X9_takesB s_X9_takesA s_X9_takesE (f_X9_takesO_20 s_X9_takesO s_X9_takesP s_X9_takesS s_X9_takesB s_X9_takesA s_X9_takesE n) v2 m
theorem Sf_X9_takesO_20 {g : GC} {nn d : Nat} {x : MX} {s_X9_takesO : MM → Option (Int32 × MM)} {s_X9_takesP : MM → Option (Int32 × MM)} {s_X9_takesS : MM → Option (Int32 × MM)} {s_X9_takesB : MM → Option (Int32 × MM)} {s_X9_takesA : MM → Option (Int32 × MM)} {s_X9_takesE : MM → Option (Int32 × MM)} (hd : nn + 4 ≤ d) (hs_s_X9_takesO : ∀ (d : Nat), nn + 3 ≤ d → ∀  (m : MM) (r : Int32) (z : MM), s_X9_takesO m = some (r, z) → JC g m_X9_takesO d 0 0 [.ref 80] (ST x m) (EQ (some (.int r)) (ST x z))) (hs_s_X9_takesP : ∀ (d : Nat), nn + 3 ≤ d → ∀  (m : MM) (r : Int32) (z : MM), s_X9_takesP m = some (r, z) → JC g m_X9_takesP d 0 0 [.ref 80] (ST x m) (EQ (some (.int r)) (ST x z))) (hs_s_X9_takesS : ∀ (d : Nat), nn + 3 ≤ d → ∀  (m : MM) (r : Int32) (z : MM), s_X9_takesS m = some (r, z) → JC g m_X9_takesS d 0 0 [.ref 80] (ST x m) (EQ (some (.int r)) (ST x z))) (hs_s_X9_takesB : ∀ (d : Nat), nn + 3 ≤ d → ∀  (m : MM) (r : Int32) (z : MM), s_X9_takesB m = some (r, z) → JC g m_X9_takesB d 0 0 [.ref 80] (ST x m) (EQ (some (.int r)) (ST x z))) (hs_s_X9_takesA : ∀ (d : Nat), nn + 3 ≤ d → ∀  (m : MM) (r : Int32) (z : MM), s_X9_takesA m = some (r, z) → JC g m_X9_takesA d 0 0 [.ref 80] (ST x m) (EQ (some (.int r)) (ST x z))) (hs_s_X9_takesE : ∀ (d : Nat), nn + 3 ≤ d → ∀  (m : MM) (r : Int32) (z : MM), s_X9_takesE m = some (r, z) → JC g m_X9_takesE d 0 0 [.ref 80] (ST x m) (EQ (some (.int r)) (ST x z))) : ∀ (n : Nat) (v2 : Int32) (m : MM) (r : Int32) (z : MM), f_X9_takesO_20 s_X9_takesO s_X9_takesP s_X9_takesS s_X9_takesB s_X9_takesA s_X9_takesE n v2 m = some (r, z) → J g m_X9_takesO d 0 0 20 [(0, .ref 80), (2, .int v2)] [] (ST x m) 0 0 (EQ (some (.int r)) (ST x z)) := by
  intro n
  induction n with
  | zero => intro v2 m r z  hF; exact absurd hF (fun q => by cases q)
  | succ n ih =>
    intro v2 m r z  hF
    exact SB_X9_takesO_20 hd hs_s_X9_takesO hs_s_X9_takesP hs_s_X9_takesS hs_s_X9_takesB hs_s_X9_takesA hs_s_X9_takesE (fun v2 m r z  hF => ih v2 m r z  hF) hF
def R_X9_takesO (s_X9_takesO : MM → Option (Int32 × MM)) (s_X9_takesP : MM → Option (Int32 × MM)) (s_X9_takesS : MM → Option (Int32 × MM)) (s_X9_takesB : MM → Option (Int32 × MM)) (s_X9_takesA : MM → Option (Int32 × MM)) (s_X9_takesE : MM → Option (Int32 × MM)) (m : MM) : Option (Int32 × MM) :=
  if inb (mi m 80 30) 120 = true then
  letx (mi m 94 (ix (mi m 80 30))) (fun y2 =>
  if (f_X9_isDigit y2) = true then
  f_X9_takesO_20 s_X9_takesO s_X9_takesP s_X9_takesS s_X9_takesB s_X9_takesA s_X9_takesE LF 0 m
  else
  letx (ms m 80 30 ((mi m 80 30) + 1)) (fun m4 =>
  if y2 = 33 then
  ob2 (s_X9_takesO m4) (fun r16 m17 =>
  if r16 = 0 then
  B_X9_takesO_93 s_X9_takesO s_X9_takesP s_X9_takesS s_X9_takesB s_X9_takesA s_X9_takesE 1 m17
  else
  B_X9_takesO_93 s_X9_takesO s_X9_takesP s_X9_takesS s_X9_takesB s_X9_takesA s_X9_takesE 0 m17)
  else
  if y2 = 45 then
  ob2 (s_X9_takesO m4) (fun r13 m14 =>
  some (-r13, m14))
  else
  if y2 = 40 then
  ob2 (s_X9_takesE m4) (fun r8 m9 =>
  letx (ms m9 80 30 ((mi m9 80 30) + 1)) (fun m11 =>
  some (r8, m11)))
  else
  if inb y2 128 = true then
  some (mi m4 99 (ix y2), m4)
  else none))
  else none
theorem SR_X9_takesO {g : GC} {nn d : Nat} {s_X9_takesO : MM → Option (Int32 × MM)} {s_X9_takesP : MM → Option (Int32 × MM)} {s_X9_takesS : MM → Option (Int32 × MM)} {s_X9_takesB : MM → Option (Int32 × MM)} {s_X9_takesA : MM → Option (Int32 × MM)} {s_X9_takesE : MM → Option (Int32 × MM)}  {x : MX} {m : MM} {r : Int32} {z : MM} (hd : nn + 4 ≤ d) (hs_s_X9_takesO : ∀ (d : Nat), nn + 3 ≤ d → ∀  (m : MM) (r : Int32) (z : MM), s_X9_takesO m = some (r, z) → JC g m_X9_takesO d 0 0 [.ref 80] (ST x m) (EQ (some (.int r)) (ST x z))) (hs_s_X9_takesP : ∀ (d : Nat), nn + 3 ≤ d → ∀  (m : MM) (r : Int32) (z : MM), s_X9_takesP m = some (r, z) → JC g m_X9_takesP d 0 0 [.ref 80] (ST x m) (EQ (some (.int r)) (ST x z))) (hs_s_X9_takesS : ∀ (d : Nat), nn + 3 ≤ d → ∀  (m : MM) (r : Int32) (z : MM), s_X9_takesS m = some (r, z) → JC g m_X9_takesS d 0 0 [.ref 80] (ST x m) (EQ (some (.int r)) (ST x z))) (hs_s_X9_takesB : ∀ (d : Nat), nn + 3 ≤ d → ∀  (m : MM) (r : Int32) (z : MM), s_X9_takesB m = some (r, z) → JC g m_X9_takesB d 0 0 [.ref 80] (ST x m) (EQ (some (.int r)) (ST x z))) (hs_s_X9_takesA : ∀ (d : Nat), nn + 3 ≤ d → ∀  (m : MM) (r : Int32) (z : MM), s_X9_takesA m = some (r, z) → JC g m_X9_takesA d 0 0 [.ref 80] (ST x m) (EQ (some (.int r)) (ST x z))) (hs_s_X9_takesE : ∀ (d : Nat), nn + 3 ≤ d → ∀  (m : MM) (r : Int32) (z : MM), s_X9_takesE m = some (r, z) → JC g m_X9_takesE d 0 0 [.ref 80] (ST x m) (EQ (some (.int r)) (ST x z))) 
  (hF : R_X9_takesO s_X9_takesO s_X9_takesP s_X9_takesS s_X9_takesB s_X9_takesA s_X9_takesE m = some (r, z)) : JC g m_X9_takesO d 0 0 [.ref 80] (ST x m) (EQ (some (.int r)) (ST x z)) := by
  refine JC.of (by decide +kernel) (Nat.le_of_ble_eq_true rfl) ?_
  change J g m_X9_takesO d 0 0 0 [(0, .ref 80)] [] (ST x m) 0 0 (EQ (some (.int r)) (ST x z))
  unfold R_X9_takesO at hF
  refine J_aload_n (j := 0) dX9_takesO_0 rfl rfl ?_
  refine JM_getR (r := 94) fl_WithOneHandModel_53_8 dX9_takesO_1 c_80 rfl rfl ?_
  refine J_aload_n (j := 0) dX9_takesO_4 rfl rfl ?_
  refine JM_getI fl_WithOneHandModel_171_8 dX9_takesO_5 c_80 rfl ?_
  obtain ⟨b1, hF⟩ := chk hF
  refine JM_iald (j := ix (mi m 80 30)) dX9_takesO_8 c_94 (inb_vp b1) rfl ?_
  obtain ⟨y2, e_y2, hF⟩ := letx_eq hF
  rw [← e_y2]
  refine J_istore_n (L' := [(1, .int y2), (0, .ref 80)]) dX9_takesO_9 rfl (by decide) rfl ?_
  refine J_aload_n (j := 1) dX9_takesO_10 rfl rfl ?_
  refine J_iload_n (j := 0) dX9_takesO_11 rfl rfl ?_
  refine JM_callVi (As := [.int y2]) (S := []) lkV_WithOneHandModel_182_X9_isDigit rfl (by decide) dX9_takesO_12 c_80 (S_X9_isDigit (by omega) rfl) (by omega) rfl rfl (Nat.le_of_ble_eq_true rfl) rfl ?_
  refine J_ifb_eq (tgt := 64) dX9_takesO_15 (by decide) (fun q3 => ?_) (fun q3 => ?_)
  · rw [if_neg q3] at hF
    refine J_aload_n (j := 1) dX9_takesO_64 rfl rfl ?_
    refine J_dup dX9_takesO_65 rfl ?_
    refine JM_getI fl_WithOneHandModel_171_8 dX9_takesO_66 c_80 rfl ?_
    refine J_iconst (v := 1) dX9_takesO_69 (by decide) ?_
    refine J_iadd dX9_takesO_70 ?_
    obtain ⟨m4, e_m4, hF⟩ := letx_eq hF
    refine JM_putI fl_WithOneHandModel_171_8 dX9_takesO_71 c_80 rfl rfl rfl ?_
    rw [← e_m4]
    refine J_iload_n (j := 0) dX9_takesO_74 rfl rfl ?_
    refine J_bipush (v := 33) dX9_takesO_75 (by decide) ?_
    refine J_icmp_ne (tgt := 97) dX9_takesO_77 (by decide) (fun q5 => ?_) (fun q5 => ?_)
    · rw [if_neg q5] at hF
      refine J_iload_n (j := 0) dX9_takesO_97 rfl rfl ?_
      refine J_bipush (v := 45) dX9_takesO_98 (by decide) ?_
      refine J_icmp_ne (tgt := 109) dX9_takesO_100 (by decide) (fun q6 => ?_) (fun q6 => ?_)
      · rw [if_neg q6] at hF
        refine J_iload_n (j := 0) dX9_takesO_109 rfl rfl ?_
        refine J_bipush (v := 40) dX9_takesO_110 (by decide) ?_
        refine J_icmp_eq (tgt := 122) dX9_takesO_112 (by decide) (fun q7 => ?_) (fun q7 => ?_)
        · rw [if_pos q7] at hF
          refine J_aload_n (j := 1) dX9_takesO_122 rfl rfl ?_
          obtain ⟨r8, m9, h10, hF⟩ := ob2_some hF
          refine JM_callVi (As := []) (S := []) lkV_WithOneHandModel_232_X9_takesE rfl (by decide) dX9_takesO_123 c_80 (hs_s_X9_takesE (d - 1) (by omega) _ _ _ h10) (by omega) rfl rfl (Nat.le_of_ble_eq_true rfl) rfl ?_
          refine J_istore_n (L' := [(2, .int r8), (1, .int y2), (0, .ref 80)]) dX9_takesO_126 rfl (by decide) rfl ?_
          refine J_aload_n (j := 2) dX9_takesO_127 rfl rfl ?_
          refine J_dup dX9_takesO_128 rfl ?_
          refine JM_getI fl_WithOneHandModel_171_8 dX9_takesO_129 c_80 rfl ?_
          refine J_iconst (v := 1) dX9_takesO_132 (by decide) ?_
          refine J_iadd dX9_takesO_133 ?_
          obtain ⟨m11, e_m11, hF⟩ := letx_eq hF
          refine JM_putI fl_WithOneHandModel_171_8 dX9_takesO_134 c_80 rfl rfl rfl ?_
          rw [← e_m11]
          refine J_iload_n (j := 0) dX9_takesO_137 rfl rfl ?_
          obtain ⟨e_r, e_z⟩ := someP hF
          subst e_r
          subst e_z
          exact J_ireturn rfl rfl dX9_takesO_138 ⟨rfl, rfl⟩
        · rw [if_neg q7] at hF
          refine J_aload_n (j := 1) dX9_takesO_115 rfl rfl ?_
          refine JM_getR (r := 99) fl_WithOneHandModel_68_8 dX9_takesO_116 c_80 rfl rfl ?_
          refine J_iload_n (j := 0) dX9_takesO_119 rfl rfl ?_
          obtain ⟨b12, hF⟩ := chk hF
          refine JM_iald (j := ix y2) dX9_takesO_120 c_99 (inb_vp b12) rfl ?_
          obtain ⟨e_r, e_z⟩ := someP hF
          subst e_r
          subst e_z
          exact J_ireturn rfl rfl dX9_takesO_121 ⟨rfl, rfl⟩
      · rw [if_pos q6] at hF
        refine J_aload_n (j := 1) dX9_takesO_103 rfl rfl ?_
        obtain ⟨r13, m14, h15, hF⟩ := ob2_some hF
        refine JM_callVi (As := []) (S := []) lkV_WithOneHandModel_225_X9_takesO rfl (by decide) dX9_takesO_104 c_80 (hs_s_X9_takesO (d - 1) (by omega) _ _ _ h15) (by omega) rfl rfl (Nat.le_of_ble_eq_true rfl) rfl ?_
        refine J_ineg dX9_takesO_107 ?_
        obtain ⟨e_r, e_z⟩ := someP hF
        subst e_r
        subst e_z
        exact J_ireturn rfl rfl dX9_takesO_108 ⟨rfl, rfl⟩
    · rw [if_pos q5] at hF
      refine J_aload_n (j := 1) dX9_takesO_80 rfl rfl ?_
      refine J_aload_n (j := 1) dX9_takesO_81 rfl rfl ?_
      obtain ⟨r16, m17, h18, hF⟩ := ob2_some hF
      refine JM_callVi (As := []) (S := [.ref 80]) lkV_WithOneHandModel_225_X9_takesO rfl (by decide) dX9_takesO_82 c_80 (hs_s_X9_takesO (d - 1) (by omega) _ _ _ h18) (by omega) rfl rfl (Nat.le_of_ble_eq_true rfl) rfl ?_
      refine J_if_ne (tgt := 92) dX9_takesO_85 (by decide) (fun q19 => ?_) (fun q19 => ?_)
      · rw [if_neg q19] at hF
        refine J_iconst (v := 0) dX9_takesO_92 (by decide) ?_
        refine J_sub [] rfl ?_
        exact SB_X9_takesO_93 hd hs_s_X9_takesO hs_s_X9_takesP hs_s_X9_takesS hs_s_X9_takesB hs_s_X9_takesA hs_s_X9_takesE hF
      · rw [if_pos q19] at hF
        refine J_iconst (v := 1) dX9_takesO_88 (by decide) ?_
        refine J_goto (tgt := 93) dX9_takesO_89 (by decide) ?_
        refine J_sub [] rfl ?_
        exact SB_X9_takesO_93 hd hs_s_X9_takesO hs_s_X9_takesP hs_s_X9_takesS hs_s_X9_takesB hs_s_X9_takesA hs_s_X9_takesE hF
  · rw [if_pos q3] at hF
    refine J_iconst (v := 0) dX9_takesO_18 (by decide) ?_
    refine J_istore_n (L' := [(2, .int 0), (1, .int y2), (0, .ref 80)]) dX9_takesO_19 rfl (by decide) rfl ?_
    refine J_sub [2, 0] rfl ?_
    exact Sf_X9_takesO_20 hd hs_s_X9_takesO hs_s_X9_takesP hs_s_X9_takesS hs_s_X9_takesB hs_s_X9_takesA hs_s_X9_takesE _ _ _ _ _ hF
def B_X9_takesP_78 (s_X9_takesO : MM → Option (Int32 × MM)) (s_X9_takesP : MM → Option (Int32 × MM)) (s_X9_takesS : MM → Option (Int32 × MM)) (s_X9_takesB : MM → Option (Int32 × MM)) (s_X9_takesA : MM → Option (Int32 × MM)) (s_X9_takesE : MM → Option (Int32 × MM)) (K5 : Int32 → MM → Option (Int32 × MM)) (t0 : Int32) (m : MM) : Option (Int32 × MM) :=
  K5 t0 m
theorem SB_X9_takesP_78 {g : GC} {nn d : Nat} {s_X9_takesO : MM → Option (Int32 × MM)} {s_X9_takesP : MM → Option (Int32 × MM)} {s_X9_takesS : MM → Option (Int32 × MM)} {s_X9_takesB : MM → Option (Int32 × MM)} {s_X9_takesA : MM → Option (Int32 × MM)} {s_X9_takesE : MM → Option (Int32 × MM)} {K5 : Int32 → MM → Option (Int32 × MM)} {t0 : Int32} {x : MX} {m : MM} {r : Int32} {z : MM} (hd : nn + 4 ≤ d) (hs_s_X9_takesO : ∀ (d : Nat), nn + 3 ≤ d → ∀  (m : MM) (r : Int32) (z : MM), s_X9_takesO m = some (r, z) → JC g m_X9_takesO d 0 0 [.ref 80] (ST x m) (EQ (some (.int r)) (ST x z))) (hs_s_X9_takesP : ∀ (d : Nat), nn + 3 ≤ d → ∀  (m : MM) (r : Int32) (z : MM), s_X9_takesP m = some (r, z) → JC g m_X9_takesP d 0 0 [.ref 80] (ST x m) (EQ (some (.int r)) (ST x z))) (hs_s_X9_takesS : ∀ (d : Nat), nn + 3 ≤ d → ∀  (m : MM) (r : Int32) (z : MM), s_X9_takesS m = some (r, z) → JC g m_X9_takesS d 0 0 [.ref 80] (ST x m) (EQ (some (.int r)) (ST x z))) (hs_s_X9_takesB : ∀ (d : Nat), nn + 3 ≤ d → ∀  (m : MM) (r : Int32) (z : MM), s_X9_takesB m = some (r, z) → JC g m_X9_takesB d 0 0 [.ref 80] (ST x m) (EQ (some (.int r)) (ST x z))) (hs_s_X9_takesA : ∀ (d : Nat), nn + 3 ≤ d → ∀  (m : MM) (r : Int32) (z : MM), s_X9_takesA m = some (r, z) → JC g m_X9_takesA d 0 0 [.ref 80] (ST x m) (EQ (some (.int r)) (ST x z))) (hs_s_X9_takesE : ∀ (d : Nat), nn + 3 ≤ d → ∀  (m : MM) (r : Int32) (z : MM), s_X9_takesE m = some (r, z) → JC g m_X9_takesE d 0 0 [.ref 80] (ST x m) (EQ (some (.int r)) (ST x z))) (hK5 : ∀ (v1 : Int32) (m : MM) (r : Int32) (z : MM), K5 v1 m = some (r, z) → J g m_X9_takesP d 0 0 5 [(0, .ref 80), (1, .int v1)] [] (ST x m) 0 0 (EQ (some (.int r)) (ST x z)))
  (hF : B_X9_takesP_78 s_X9_takesO s_X9_takesP s_X9_takesS s_X9_takesB s_X9_takesA s_X9_takesE K5 t0 m = some (r, z)) : J g m_X9_takesP d 0 0 78 [(0, .ref 80)] [.int t0] (ST x m) 0 0 (EQ (some (.int r)) (ST x z)) := by
  unfold B_X9_takesP_78 at hF
  refine J_istore_n (L' := [(1, .int t0), (0, .ref 80)]) dX9_takesP_78 rfl (by decide) rfl ?_
  refine J_goto (tgt := 5) dX9_takesP_79 (by decide) ?_
  refine J_sub [1, 0] rfl ?_
  exact hK5 _ _ _ _  hF
def B_X9_takesP_49 (s_X9_takesO : MM → Option (Int32 × MM)) (s_X9_takesP : MM → Option (Int32 × MM)) (s_X9_takesS : MM → Option (Int32 × MM)) (s_X9_takesB : MM → Option (Int32 × MM)) (s_X9_takesA : MM → Option (Int32 × MM)) (s_X9_takesE : MM → Option (Int32 × MM)) (K5 : Int32 → MM → Option (Int32 × MM)) (t0 : Int32) (m : MM) : Option (Int32 × MM) :=
  K5 t0 m
theorem SB_X9_takesP_49 {g : GC} {nn d : Nat} {s_X9_takesO : MM → Option (Int32 × MM)} {s_X9_takesP : MM → Option (Int32 × MM)} {s_X9_takesS : MM → Option (Int32 × MM)} {s_X9_takesB : MM → Option (Int32 × MM)} {s_X9_takesA : MM → Option (Int32 × MM)} {s_X9_takesE : MM → Option (Int32 × MM)} {K5 : Int32 → MM → Option (Int32 × MM)} {t0 : Int32} {x : MX} {m : MM} {r : Int32} {z : MM} (hd : nn + 4 ≤ d) (hs_s_X9_takesO : ∀ (d : Nat), nn + 3 ≤ d → ∀  (m : MM) (r : Int32) (z : MM), s_X9_takesO m = some (r, z) → JC g m_X9_takesO d 0 0 [.ref 80] (ST x m) (EQ (some (.int r)) (ST x z))) (hs_s_X9_takesP : ∀ (d : Nat), nn + 3 ≤ d → ∀  (m : MM) (r : Int32) (z : MM), s_X9_takesP m = some (r, z) → JC g m_X9_takesP d 0 0 [.ref 80] (ST x m) (EQ (some (.int r)) (ST x z))) (hs_s_X9_takesS : ∀ (d : Nat), nn + 3 ≤ d → ∀  (m : MM) (r : Int32) (z : MM), s_X9_takesS m = some (r, z) → JC g m_X9_takesS d 0 0 [.ref 80] (ST x m) (EQ (some (.int r)) (ST x z))) (hs_s_X9_takesB : ∀ (d : Nat), nn + 3 ≤ d → ∀  (m : MM) (r : Int32) (z : MM), s_X9_takesB m = some (r, z) → JC g m_X9_takesB d 0 0 [.ref 80] (ST x m) (EQ (some (.int r)) (ST x z))) (hs_s_X9_takesA : ∀ (d : Nat), nn + 3 ≤ d → ∀  (m : MM) (r : Int32) (z : MM), s_X9_takesA m = some (r, z) → JC g m_X9_takesA d 0 0 [.ref 80] (ST x m) (EQ (some (.int r)) (ST x z))) (hs_s_X9_takesE : ∀ (d : Nat), nn + 3 ≤ d → ∀  (m : MM) (r : Int32) (z : MM), s_X9_takesE m = some (r, z) → JC g m_X9_takesE d 0 0 [.ref 80] (ST x m) (EQ (some (.int r)) (ST x z))) (hK5 : ∀ (v1 : Int32) (m : MM) (r : Int32) (z : MM), K5 v1 m = some (r, z) → J g m_X9_takesP d 0 0 5 [(0, .ref 80), (1, .int v1)] [] (ST x m) 0 0 (EQ (some (.int r)) (ST x z)))
  (hF : B_X9_takesP_49 s_X9_takesO s_X9_takesP s_X9_takesS s_X9_takesB s_X9_takesA s_X9_takesE K5 t0 m = some (r, z)) : J g m_X9_takesP d 0 0 49 [(0, .ref 80)] [.int t0] (ST x m) 0 0 (EQ (some (.int r)) (ST x z)) := by
  unfold B_X9_takesP_49 at hF
  refine J_istore_n (L' := [(1, .int t0), (0, .ref 80)]) dX9_takesP_49 rfl (by decide) rfl ?_
  refine J_goto (tgt := 5) dX9_takesP_50 (by decide) ?_
  refine J_sub [1, 0] rfl ?_
  exact hK5 _ _ _ _  hF
def B_X9_takesP_5 (s_X9_takesO : MM → Option (Int32 × MM)) (s_X9_takesP : MM → Option (Int32 × MM)) (s_X9_takesS : MM → Option (Int32 × MM)) (s_X9_takesB : MM → Option (Int32 × MM)) (s_X9_takesA : MM → Option (Int32 × MM)) (s_X9_takesE : MM → Option (Int32 × MM)) (K5 : Int32 → MM → Option (Int32 × MM)) (v1 : Int32) (m : MM) : Option (Int32 × MM) :=
  ob2 (f_X9_isSeen 42 m) (fun r4 m5 =>
  if r4 = true then
  ob2 (s_X9_takesO m5) (fun r26 m27 =>
  K5 (v1 * r26) m27)
  else
  ob2 (f_X9_isSeen 47 m5) (fun r8 m9 =>
  if r8 = true then
  ob2 (s_X9_takesO m9) (fun r21 m22 =>
  if r21 = 0 then
  B_X9_takesP_49 s_X9_takesO s_X9_takesP s_X9_takesS s_X9_takesB s_X9_takesA s_X9_takesE K5 0 m22
  else
  if ¬ r21 = 0 then
  B_X9_takesP_49 s_X9_takesO s_X9_takesP s_X9_takesS s_X9_takesB s_X9_takesA s_X9_takesE K5 (v1 / r21) m22
  else none)
  else
  ob2 (f_X9_isSeen 37 m9) (fun r12 m13 =>
  if r12 = true then
  ob2 (s_X9_takesO m13) (fun r16 m17 =>
  if r16 = 0 then
  B_X9_takesP_78 s_X9_takesO s_X9_takesP s_X9_takesS s_X9_takesB s_X9_takesA s_X9_takesE K5 0 m17
  else
  if ¬ r16 = 0 then
  B_X9_takesP_78 s_X9_takesO s_X9_takesP s_X9_takesS s_X9_takesB s_X9_takesA s_X9_takesE K5 (v1 % r16) m17
  else none)
  else
  some (v1, m13))))
theorem SB_X9_takesP_5 {g : GC} {nn d : Nat} {s_X9_takesO : MM → Option (Int32 × MM)} {s_X9_takesP : MM → Option (Int32 × MM)} {s_X9_takesS : MM → Option (Int32 × MM)} {s_X9_takesB : MM → Option (Int32 × MM)} {s_X9_takesA : MM → Option (Int32 × MM)} {s_X9_takesE : MM → Option (Int32 × MM)} {K5 : Int32 → MM → Option (Int32 × MM)} {v1 : Int32} {x : MX} {m : MM} {r : Int32} {z : MM} (hd : nn + 4 ≤ d) (hs_s_X9_takesO : ∀ (d : Nat), nn + 3 ≤ d → ∀  (m : MM) (r : Int32) (z : MM), s_X9_takesO m = some (r, z) → JC g m_X9_takesO d 0 0 [.ref 80] (ST x m) (EQ (some (.int r)) (ST x z))) (hs_s_X9_takesP : ∀ (d : Nat), nn + 3 ≤ d → ∀  (m : MM) (r : Int32) (z : MM), s_X9_takesP m = some (r, z) → JC g m_X9_takesP d 0 0 [.ref 80] (ST x m) (EQ (some (.int r)) (ST x z))) (hs_s_X9_takesS : ∀ (d : Nat), nn + 3 ≤ d → ∀  (m : MM) (r : Int32) (z : MM), s_X9_takesS m = some (r, z) → JC g m_X9_takesS d 0 0 [.ref 80] (ST x m) (EQ (some (.int r)) (ST x z))) (hs_s_X9_takesB : ∀ (d : Nat), nn + 3 ≤ d → ∀  (m : MM) (r : Int32) (z : MM), s_X9_takesB m = some (r, z) → JC g m_X9_takesB d 0 0 [.ref 80] (ST x m) (EQ (some (.int r)) (ST x z))) (hs_s_X9_takesA : ∀ (d : Nat), nn + 3 ≤ d → ∀  (m : MM) (r : Int32) (z : MM), s_X9_takesA m = some (r, z) → JC g m_X9_takesA d 0 0 [.ref 80] (ST x m) (EQ (some (.int r)) (ST x z))) (hs_s_X9_takesE : ∀ (d : Nat), nn + 3 ≤ d → ∀  (m : MM) (r : Int32) (z : MM), s_X9_takesE m = some (r, z) → JC g m_X9_takesE d 0 0 [.ref 80] (ST x m) (EQ (some (.int r)) (ST x z))) (hK5 : ∀ (v1 : Int32) (m : MM) (r : Int32) (z : MM), K5 v1 m = some (r, z) → J g m_X9_takesP d 0 0 5 [(0, .ref 80), (1, .int v1)] [] (ST x m) 0 0 (EQ (some (.int r)) (ST x z)))
  (hF : B_X9_takesP_5 s_X9_takesO s_X9_takesP s_X9_takesS s_X9_takesB s_X9_takesA s_X9_takesE K5 v1 m = some (r, z)) : J g m_X9_takesP d 0 0 5 [(0, .ref 80), (1, .int v1)] [] (ST x m) 0 0 (EQ (some (.int r)) (ST x z)) := by
  unfold B_X9_takesP_5 at hF
  refine J_aload_n (j := 0) dX9_takesP_5 rfl rfl ?_
  refine J_bipush (v := 42) dX9_takesP_6 (by decide) ?_
  obtain ⟨r4, m5, h6, hF⟩ := ob2_some hF
  refine JM_callVi (As := [.int 42]) (S := []) lkV_WithOneHandModel_235_X9_isSeen rfl (by decide) dX9_takesP_8 c_80 (S_X9_isSeen (by omega) h6) (by omega) rfl rfl (Nat.le_of_ble_eq_true rfl) rfl ?_
  refine J_ifb_eq (tgt := 24) dX9_takesP_11 (by decide) (fun q7 => ?_) (fun q7 => ?_)
  · rw [if_neg q7] at hF
    refine J_aload_n (j := 0) dX9_takesP_24 rfl rfl ?_
    refine J_bipush (v := 47) dX9_takesP_25 (by decide) ?_
    obtain ⟨r8, m9, h10, hF⟩ := ob2_some hF
    refine JM_callVi (As := [.int 47]) (S := []) lkV_WithOneHandModel_235_X9_isSeen rfl (by decide) dX9_takesP_27 c_80 (S_X9_isSeen (by omega) h10) (by omega) rfl rfl (Nat.le_of_ble_eq_true rfl) rfl ?_
    refine J_ifb_eq (tgt := 53) dX9_takesP_30 (by decide) (fun q11 => ?_) (fun q11 => ?_)
    · rw [if_neg q11] at hF
      refine J_aload_n (j := 0) dX9_takesP_53 rfl rfl ?_
      refine J_bipush (v := 37) dX9_takesP_54 (by decide) ?_
      obtain ⟨r12, m13, h14, hF⟩ := ob2_some hF
      refine JM_callVi (As := [.int 37]) (S := []) lkV_WithOneHandModel_235_X9_isSeen rfl (by decide) dX9_takesP_56 c_80 (S_X9_isSeen (by omega) h14) (by omega) rfl rfl (Nat.le_of_ble_eq_true rfl) rfl ?_
      refine J_ifb_eq (tgt := 82) dX9_takesP_59 (by decide) (fun q15 => ?_) (fun q15 => ?_)
      · rw [if_neg q15] at hF
        refine J_iload_n (j := 1) dX9_takesP_82 rfl rfl ?_
        obtain ⟨e_r, e_z⟩ := someP hF
        subst e_r
        subst e_z
        exact J_ireturn rfl rfl dX9_takesP_83 ⟨rfl, rfl⟩
      · rw [if_pos q15] at hF
        refine J_aload_n (j := 0) dX9_takesP_62 rfl rfl ?_
        obtain ⟨r16, m17, h18, hF⟩ := ob2_some hF
        refine JM_callVi (As := []) (S := []) lkV_WithOneHandModel_225_X9_takesO rfl (by decide) dX9_takesP_63 c_80 (hs_s_X9_takesO (d - 1) (by omega) _ _ _ h18) (by omega) rfl rfl (Nat.le_of_ble_eq_true rfl) rfl ?_
        refine J_istore_n (L' := [(2, .int r16), (0, .ref 80), (1, .int v1)]) dX9_takesP_66 rfl (by decide) rfl ?_
        refine J_iload_n (j := 0) dX9_takesP_67 rfl rfl ?_
        refine J_if_ne (tgt := 75) dX9_takesP_68 (by decide) (fun q19 => ?_) (fun q19 => ?_)
        · rw [if_neg q19] at hF
          refine J_iload_n (j := 2) dX9_takesP_75 rfl rfl ?_
          refine J_iload_n (j := 0) dX9_takesP_76 rfl rfl ?_
          obtain ⟨b20, hF⟩ := chk hF
          refine J_irem dX9_takesP_77 b20 ?_
          refine J_sub [1] rfl ?_
          exact SB_X9_takesP_78 hd hs_s_X9_takesO hs_s_X9_takesP hs_s_X9_takesS hs_s_X9_takesB hs_s_X9_takesA hs_s_X9_takesE hK5 hF
        · rw [if_pos q19] at hF
          refine J_iconst (v := 0) dX9_takesP_71 (by decide) ?_
          refine J_goto (tgt := 78) dX9_takesP_72 (by decide) ?_
          refine J_sub [1] rfl ?_
          exact SB_X9_takesP_78 hd hs_s_X9_takesO hs_s_X9_takesP hs_s_X9_takesS hs_s_X9_takesB hs_s_X9_takesA hs_s_X9_takesE hK5 hF
    · rw [if_pos q11] at hF
      refine J_aload_n (j := 0) dX9_takesP_33 rfl rfl ?_
      obtain ⟨r21, m22, h23, hF⟩ := ob2_some hF
      refine JM_callVi (As := []) (S := []) lkV_WithOneHandModel_225_X9_takesO rfl (by decide) dX9_takesP_34 c_80 (hs_s_X9_takesO (d - 1) (by omega) _ _ _ h23) (by omega) rfl rfl (Nat.le_of_ble_eq_true rfl) rfl ?_
      refine J_istore_n (L' := [(2, .int r21), (0, .ref 80), (1, .int v1)]) dX9_takesP_37 rfl (by decide) rfl ?_
      refine J_iload_n (j := 0) dX9_takesP_38 rfl rfl ?_
      refine J_if_ne (tgt := 46) dX9_takesP_39 (by decide) (fun q24 => ?_) (fun q24 => ?_)
      · rw [if_neg q24] at hF
        refine J_iload_n (j := 2) dX9_takesP_46 rfl rfl ?_
        refine J_iload_n (j := 0) dX9_takesP_47 rfl rfl ?_
        obtain ⟨b25, hF⟩ := chk hF
        refine J_idiv dX9_takesP_48 b25 ?_
        refine J_sub [1] rfl ?_
        exact SB_X9_takesP_49 hd hs_s_X9_takesO hs_s_X9_takesP hs_s_X9_takesS hs_s_X9_takesB hs_s_X9_takesA hs_s_X9_takesE hK5 hF
      · rw [if_pos q24] at hF
        refine J_iconst (v := 0) dX9_takesP_42 (by decide) ?_
        refine J_goto (tgt := 49) dX9_takesP_43 (by decide) ?_
        refine J_sub [1] rfl ?_
        exact SB_X9_takesP_49 hd hs_s_X9_takesO hs_s_X9_takesP hs_s_X9_takesS hs_s_X9_takesB hs_s_X9_takesA hs_s_X9_takesE hK5 hF
  · rw [if_pos q7] at hF
    refine J_iload_n (j := 1) dX9_takesP_14 rfl rfl ?_
    refine J_aload_n (j := 0) dX9_takesP_15 rfl rfl ?_
    obtain ⟨r26, m27, h28, hF⟩ := ob2_some hF
    refine JM_callVi (As := []) (S := [.int v1]) lkV_WithOneHandModel_225_X9_takesO rfl (by decide) dX9_takesP_16 c_80 (hs_s_X9_takesO (d - 1) (by omega) _ _ _ h28) (by omega) rfl rfl (Nat.le_of_ble_eq_true rfl) rfl ?_
    refine J_imul dX9_takesP_19 ?_
    refine J_istore_n (L' := [(1, .int (v1 * r26)), (0, .ref 80)]) dX9_takesP_20 rfl (by decide) rfl ?_
    refine J_goto (tgt := 5) dX9_takesP_21 (by decide) ?_
    refine J_sub [1, 0] rfl ?_
    exact hK5 _ _ _ _  hF
def f_X9_takesP_5 (s_X9_takesO : MM → Option (Int32 × MM)) (s_X9_takesP : MM → Option (Int32 × MM)) (s_X9_takesS : MM → Option (Int32 × MM)) (s_X9_takesB : MM → Option (Int32 × MM)) (s_X9_takesA : MM → Option (Int32 × MM)) (s_X9_takesE : MM → Option (Int32 × MM)) : Nat → Int32 → MM → Option (Int32 × MM)
  | 0 => fun _ _ => none
  | n + 1 => fun v1 m => B_X9_takesP_5 s_X9_takesO s_X9_takesP s_X9_takesS s_X9_takesB s_X9_takesA s_X9_takesE (f_X9_takesP_5 s_X9_takesO s_X9_takesP s_X9_takesS s_X9_takesB s_X9_takesA s_X9_takesE n) v1 m
theorem Sf_X9_takesP_5 {g : GC} {nn d : Nat} {x : MX} {s_X9_takesO : MM → Option (Int32 × MM)} {s_X9_takesP : MM → Option (Int32 × MM)} {s_X9_takesS : MM → Option (Int32 × MM)} {s_X9_takesB : MM → Option (Int32 × MM)} {s_X9_takesA : MM → Option (Int32 × MM)} {s_X9_takesE : MM → Option (Int32 × MM)} (hd : nn + 4 ≤ d) (hs_s_X9_takesO : ∀ (d : Nat), nn + 3 ≤ d → ∀  (m : MM) (r : Int32) (z : MM), s_X9_takesO m = some (r, z) → JC g m_X9_takesO d 0 0 [.ref 80] (ST x m) (EQ (some (.int r)) (ST x z))) (hs_s_X9_takesP : ∀ (d : Nat), nn + 3 ≤ d → ∀  (m : MM) (r : Int32) (z : MM), s_X9_takesP m = some (r, z) → JC g m_X9_takesP d 0 0 [.ref 80] (ST x m) (EQ (some (.int r)) (ST x z))) (hs_s_X9_takesS : ∀ (d : Nat), nn + 3 ≤ d → ∀  (m : MM) (r : Int32) (z : MM), s_X9_takesS m = some (r, z) → JC g m_X9_takesS d 0 0 [.ref 80] (ST x m) (EQ (some (.int r)) (ST x z))) (hs_s_X9_takesB : ∀ (d : Nat), nn + 3 ≤ d → ∀  (m : MM) (r : Int32) (z : MM), s_X9_takesB m = some (r, z) → JC g m_X9_takesB d 0 0 [.ref 80] (ST x m) (EQ (some (.int r)) (ST x z))) (hs_s_X9_takesA : ∀ (d : Nat), nn + 3 ≤ d → ∀  (m : MM) (r : Int32) (z : MM), s_X9_takesA m = some (r, z) → JC g m_X9_takesA d 0 0 [.ref 80] (ST x m) (EQ (some (.int r)) (ST x z))) (hs_s_X9_takesE : ∀ (d : Nat), nn + 3 ≤ d → ∀  (m : MM) (r : Int32) (z : MM), s_X9_takesE m = some (r, z) → JC g m_X9_takesE d 0 0 [.ref 80] (ST x m) (EQ (some (.int r)) (ST x z))) : ∀ (n : Nat) (v1 : Int32) (m : MM) (r : Int32) (z : MM), f_X9_takesP_5 s_X9_takesO s_X9_takesP s_X9_takesS s_X9_takesB s_X9_takesA s_X9_takesE n v1 m = some (r, z) → J g m_X9_takesP d 0 0 5 [(0, .ref 80), (1, .int v1)] [] (ST x m) 0 0 (EQ (some (.int r)) (ST x z)) := by
  intro n
  induction n with
  | zero => intro v1 m r z  hF; exact absurd hF (fun q => by cases q)
  | succ n ih =>
    intro v1 m r z  hF
    exact SB_X9_takesP_5 hd hs_s_X9_takesO hs_s_X9_takesP hs_s_X9_takesS hs_s_X9_takesB hs_s_X9_takesA hs_s_X9_takesE (fun v1 m r z  hF => ih v1 m r z  hF) hF
def R_X9_takesP (s_X9_takesO : MM → Option (Int32 × MM)) (s_X9_takesP : MM → Option (Int32 × MM)) (s_X9_takesS : MM → Option (Int32 × MM)) (s_X9_takesB : MM → Option (Int32 × MM)) (s_X9_takesA : MM → Option (Int32 × MM)) (s_X9_takesE : MM → Option (Int32 × MM)) (m : MM) : Option (Int32 × MM) :=
  ob2 (s_X9_takesO m) (fun r1 m2 =>
  f_X9_takesP_5 s_X9_takesO s_X9_takesP s_X9_takesS s_X9_takesB s_X9_takesA s_X9_takesE LF r1 m2)
theorem SR_X9_takesP {g : GC} {nn d : Nat} {s_X9_takesO : MM → Option (Int32 × MM)} {s_X9_takesP : MM → Option (Int32 × MM)} {s_X9_takesS : MM → Option (Int32 × MM)} {s_X9_takesB : MM → Option (Int32 × MM)} {s_X9_takesA : MM → Option (Int32 × MM)} {s_X9_takesE : MM → Option (Int32 × MM)}  {x : MX} {m : MM} {r : Int32} {z : MM} (hd : nn + 4 ≤ d) (hs_s_X9_takesO : ∀ (d : Nat), nn + 3 ≤ d → ∀  (m : MM) (r : Int32) (z : MM), s_X9_takesO m = some (r, z) → JC g m_X9_takesO d 0 0 [.ref 80] (ST x m) (EQ (some (.int r)) (ST x z))) (hs_s_X9_takesP : ∀ (d : Nat), nn + 3 ≤ d → ∀  (m : MM) (r : Int32) (z : MM), s_X9_takesP m = some (r, z) → JC g m_X9_takesP d 0 0 [.ref 80] (ST x m) (EQ (some (.int r)) (ST x z))) (hs_s_X9_takesS : ∀ (d : Nat), nn + 3 ≤ d → ∀  (m : MM) (r : Int32) (z : MM), s_X9_takesS m = some (r, z) → JC g m_X9_takesS d 0 0 [.ref 80] (ST x m) (EQ (some (.int r)) (ST x z))) (hs_s_X9_takesB : ∀ (d : Nat), nn + 3 ≤ d → ∀  (m : MM) (r : Int32) (z : MM), s_X9_takesB m = some (r, z) → JC g m_X9_takesB d 0 0 [.ref 80] (ST x m) (EQ (some (.int r)) (ST x z))) (hs_s_X9_takesA : ∀ (d : Nat), nn + 3 ≤ d → ∀  (m : MM) (r : Int32) (z : MM), s_X9_takesA m = some (r, z) → JC g m_X9_takesA d 0 0 [.ref 80] (ST x m) (EQ (some (.int r)) (ST x z))) (hs_s_X9_takesE : ∀ (d : Nat), nn + 3 ≤ d → ∀  (m : MM) (r : Int32) (z : MM), s_X9_takesE m = some (r, z) → JC g m_X9_takesE d 0 0 [.ref 80] (ST x m) (EQ (some (.int r)) (ST x z))) 
  (hF : R_X9_takesP s_X9_takesO s_X9_takesP s_X9_takesS s_X9_takesB s_X9_takesA s_X9_takesE m = some (r, z)) : JC g m_X9_takesP d 0 0 [.ref 80] (ST x m) (EQ (some (.int r)) (ST x z)) := by
  refine JC.of (by decide +kernel) (Nat.le_of_ble_eq_true rfl) ?_
  change J g m_X9_takesP d 0 0 0 [(0, .ref 80)] [] (ST x m) 0 0 (EQ (some (.int r)) (ST x z))
  unfold R_X9_takesP at hF
  refine J_aload_n (j := 0) dX9_takesP_0 rfl rfl ?_
  obtain ⟨r1, m2, h3, hF⟩ := ob2_some hF
  refine JM_callVi (As := []) (S := []) lkV_WithOneHandModel_225_X9_takesO rfl (by decide) dX9_takesP_1 c_80 (hs_s_X9_takesO (d - 1) (by omega) _ _ _ h3) (by omega) rfl rfl (Nat.le_of_ble_eq_true rfl) rfl ?_
  refine J_istore_n (L' := [(1, .int r1), (0, .ref 80)]) dX9_takesP_4 rfl (by decide) rfl ?_
  refine J_sub [1, 0] rfl ?_
  exact Sf_X9_takesP_5 hd hs_s_X9_takesO hs_s_X9_takesP hs_s_X9_takesS hs_s_X9_takesB hs_s_X9_takesA hs_s_X9_takesE _ _ _ _ _ hF
def B_X9_takesS_5 (s_X9_takesO : MM → Option (Int32 × MM)) (s_X9_takesP : MM → Option (Int32 × MM)) (s_X9_takesS : MM → Option (Int32 × MM)) (s_X9_takesB : MM → Option (Int32 × MM)) (s_X9_takesA : MM → Option (Int32 × MM)) (s_X9_takesE : MM → Option (Int32 × MM)) (K5 : Int32 → MM → Option (Int32 × MM)) (v1 : Int32) (m : MM) : Option (Int32 × MM) :=
  ob2 (f_X9_isSeen 43 m) (fun r4 m5 =>
  if r4 = true then
  ob2 (s_X9_takesP m5) (fun r15 m16 =>
  K5 (v1 + r15) m16)
  else
  ob2 (f_X9_isSeen 45 m5) (fun r8 m9 =>
  if r8 = true then
  ob2 (s_X9_takesP m9) (fun r12 m13 =>
  K5 (v1 - r12) m13)
  else
  some (v1, m9)))
theorem SB_X9_takesS_5 {g : GC} {nn d : Nat} {s_X9_takesO : MM → Option (Int32 × MM)} {s_X9_takesP : MM → Option (Int32 × MM)} {s_X9_takesS : MM → Option (Int32 × MM)} {s_X9_takesB : MM → Option (Int32 × MM)} {s_X9_takesA : MM → Option (Int32 × MM)} {s_X9_takesE : MM → Option (Int32 × MM)} {K5 : Int32 → MM → Option (Int32 × MM)} {v1 : Int32} {x : MX} {m : MM} {r : Int32} {z : MM} (hd : nn + 4 ≤ d) (hs_s_X9_takesO : ∀ (d : Nat), nn + 3 ≤ d → ∀  (m : MM) (r : Int32) (z : MM), s_X9_takesO m = some (r, z) → JC g m_X9_takesO d 0 0 [.ref 80] (ST x m) (EQ (some (.int r)) (ST x z))) (hs_s_X9_takesP : ∀ (d : Nat), nn + 3 ≤ d → ∀  (m : MM) (r : Int32) (z : MM), s_X9_takesP m = some (r, z) → JC g m_X9_takesP d 0 0 [.ref 80] (ST x m) (EQ (some (.int r)) (ST x z))) (hs_s_X9_takesS : ∀ (d : Nat), nn + 3 ≤ d → ∀  (m : MM) (r : Int32) (z : MM), s_X9_takesS m = some (r, z) → JC g m_X9_takesS d 0 0 [.ref 80] (ST x m) (EQ (some (.int r)) (ST x z))) (hs_s_X9_takesB : ∀ (d : Nat), nn + 3 ≤ d → ∀  (m : MM) (r : Int32) (z : MM), s_X9_takesB m = some (r, z) → JC g m_X9_takesB d 0 0 [.ref 80] (ST x m) (EQ (some (.int r)) (ST x z))) (hs_s_X9_takesA : ∀ (d : Nat), nn + 3 ≤ d → ∀  (m : MM) (r : Int32) (z : MM), s_X9_takesA m = some (r, z) → JC g m_X9_takesA d 0 0 [.ref 80] (ST x m) (EQ (some (.int r)) (ST x z))) (hs_s_X9_takesE : ∀ (d : Nat), nn + 3 ≤ d → ∀  (m : MM) (r : Int32) (z : MM), s_X9_takesE m = some (r, z) → JC g m_X9_takesE d 0 0 [.ref 80] (ST x m) (EQ (some (.int r)) (ST x z))) (hK5 : ∀ (v1 : Int32) (m : MM) (r : Int32) (z : MM), K5 v1 m = some (r, z) → J g m_X9_takesS d 0 0 5 [(0, .ref 80), (1, .int v1)] [] (ST x m) 0 0 (EQ (some (.int r)) (ST x z)))
  (hF : B_X9_takesS_5 s_X9_takesO s_X9_takesP s_X9_takesS s_X9_takesB s_X9_takesA s_X9_takesE K5 v1 m = some (r, z)) : J g m_X9_takesS d 0 0 5 [(0, .ref 80), (1, .int v1)] [] (ST x m) 0 0 (EQ (some (.int r)) (ST x z)) := by
  unfold B_X9_takesS_5 at hF
  refine J_aload_n (j := 0) dX9_takesS_5 rfl rfl ?_
  refine J_bipush (v := 43) dX9_takesS_6 (by decide) ?_
  obtain ⟨r4, m5, h6, hF⟩ := ob2_some hF
  refine JM_callVi (As := [.int 43]) (S := []) lkV_WithOneHandModel_235_X9_isSeen rfl (by decide) dX9_takesS_8 c_80 (S_X9_isSeen (by omega) h6) (by omega) rfl rfl (Nat.le_of_ble_eq_true rfl) rfl ?_
  refine J_ifb_eq (tgt := 24) dX9_takesS_11 (by decide) (fun q7 => ?_) (fun q7 => ?_)
  · rw [if_neg q7] at hF
    refine J_aload_n (j := 0) dX9_takesS_24 rfl rfl ?_
    refine J_bipush (v := 45) dX9_takesS_25 (by decide) ?_
    obtain ⟨r8, m9, h10, hF⟩ := ob2_some hF
    refine JM_callVi (As := [.int 45]) (S := []) lkV_WithOneHandModel_235_X9_isSeen rfl (by decide) dX9_takesS_27 c_80 (S_X9_isSeen (by omega) h10) (by omega) rfl rfl (Nat.le_of_ble_eq_true rfl) rfl ?_
    refine J_ifb_eq (tgt := 43) dX9_takesS_30 (by decide) (fun q11 => ?_) (fun q11 => ?_)
    · rw [if_neg q11] at hF
      refine J_iload_n (j := 1) dX9_takesS_43 rfl rfl ?_
      obtain ⟨e_r, e_z⟩ := someP hF
      subst e_r
      subst e_z
      exact J_ireturn rfl rfl dX9_takesS_44 ⟨rfl, rfl⟩
    · rw [if_pos q11] at hF
      refine J_iload_n (j := 1) dX9_takesS_33 rfl rfl ?_
      refine J_aload_n (j := 0) dX9_takesS_34 rfl rfl ?_
      obtain ⟨r12, m13, h14, hF⟩ := ob2_some hF
      refine JM_callVi (As := []) (S := [.int v1]) lkV_WithOneHandModel_238_X9_takesP rfl (by decide) dX9_takesS_35 c_80 (hs_s_X9_takesP (d - 1) (by omega) _ _ _ h14) (by omega) rfl rfl (Nat.le_of_ble_eq_true rfl) rfl ?_
      refine J_isub dX9_takesS_38 ?_
      refine J_istore_n (L' := [(1, .int (v1 - r12)), (0, .ref 80)]) dX9_takesS_39 rfl (by decide) rfl ?_
      refine J_goto (tgt := 5) dX9_takesS_40 (by decide) ?_
      refine J_sub [1, 0] rfl ?_
      exact hK5 _ _ _ _  hF
  · rw [if_pos q7] at hF
    refine J_iload_n (j := 1) dX9_takesS_14 rfl rfl ?_
    refine J_aload_n (j := 0) dX9_takesS_15 rfl rfl ?_
    obtain ⟨r15, m16, h17, hF⟩ := ob2_some hF
    refine JM_callVi (As := []) (S := [.int v1]) lkV_WithOneHandModel_238_X9_takesP rfl (by decide) dX9_takesS_16 c_80 (hs_s_X9_takesP (d - 1) (by omega) _ _ _ h17) (by omega) rfl rfl (Nat.le_of_ble_eq_true rfl) rfl ?_
    refine J_iadd dX9_takesS_19 ?_
    refine J_istore_n (L' := [(1, .int (v1 + r15)), (0, .ref 80)]) dX9_takesS_20 rfl (by decide) rfl ?_
    refine J_goto (tgt := 5) dX9_takesS_21 (by decide) ?_
    refine J_sub [1, 0] rfl ?_
    exact hK5 _ _ _ _  hF
def f_X9_takesS_5 (s_X9_takesO : MM → Option (Int32 × MM)) (s_X9_takesP : MM → Option (Int32 × MM)) (s_X9_takesS : MM → Option (Int32 × MM)) (s_X9_takesB : MM → Option (Int32 × MM)) (s_X9_takesA : MM → Option (Int32 × MM)) (s_X9_takesE : MM → Option (Int32 × MM)) : Nat → Int32 → MM → Option (Int32 × MM)
  | 0 => fun _ _ => none
  | n + 1 => fun v1 m => B_X9_takesS_5 s_X9_takesO s_X9_takesP s_X9_takesS s_X9_takesB s_X9_takesA s_X9_takesE (f_X9_takesS_5 s_X9_takesO s_X9_takesP s_X9_takesS s_X9_takesB s_X9_takesA s_X9_takesE n) v1 m
theorem Sf_X9_takesS_5 {g : GC} {nn d : Nat} {x : MX} {s_X9_takesO : MM → Option (Int32 × MM)} {s_X9_takesP : MM → Option (Int32 × MM)} {s_X9_takesS : MM → Option (Int32 × MM)} {s_X9_takesB : MM → Option (Int32 × MM)} {s_X9_takesA : MM → Option (Int32 × MM)} {s_X9_takesE : MM → Option (Int32 × MM)} (hd : nn + 4 ≤ d) (hs_s_X9_takesO : ∀ (d : Nat), nn + 3 ≤ d → ∀  (m : MM) (r : Int32) (z : MM), s_X9_takesO m = some (r, z) → JC g m_X9_takesO d 0 0 [.ref 80] (ST x m) (EQ (some (.int r)) (ST x z))) (hs_s_X9_takesP : ∀ (d : Nat), nn + 3 ≤ d → ∀  (m : MM) (r : Int32) (z : MM), s_X9_takesP m = some (r, z) → JC g m_X9_takesP d 0 0 [.ref 80] (ST x m) (EQ (some (.int r)) (ST x z))) (hs_s_X9_takesS : ∀ (d : Nat), nn + 3 ≤ d → ∀  (m : MM) (r : Int32) (z : MM), s_X9_takesS m = some (r, z) → JC g m_X9_takesS d 0 0 [.ref 80] (ST x m) (EQ (some (.int r)) (ST x z))) (hs_s_X9_takesB : ∀ (d : Nat), nn + 3 ≤ d → ∀  (m : MM) (r : Int32) (z : MM), s_X9_takesB m = some (r, z) → JC g m_X9_takesB d 0 0 [.ref 80] (ST x m) (EQ (some (.int r)) (ST x z))) (hs_s_X9_takesA : ∀ (d : Nat), nn + 3 ≤ d → ∀  (m : MM) (r : Int32) (z : MM), s_X9_takesA m = some (r, z) → JC g m_X9_takesA d 0 0 [.ref 80] (ST x m) (EQ (some (.int r)) (ST x z))) (hs_s_X9_takesE : ∀ (d : Nat), nn + 3 ≤ d → ∀  (m : MM) (r : Int32) (z : MM), s_X9_takesE m = some (r, z) → JC g m_X9_takesE d 0 0 [.ref 80] (ST x m) (EQ (some (.int r)) (ST x z))) : ∀ (n : Nat) (v1 : Int32) (m : MM) (r : Int32) (z : MM), f_X9_takesS_5 s_X9_takesO s_X9_takesP s_X9_takesS s_X9_takesB s_X9_takesA s_X9_takesE n v1 m = some (r, z) → J g m_X9_takesS d 0 0 5 [(0, .ref 80), (1, .int v1)] [] (ST x m) 0 0 (EQ (some (.int r)) (ST x z)) := by
  intro n
  induction n with
  | zero => intro v1 m r z  hF; exact absurd hF (fun q => by cases q)
  | succ n ih =>
    intro v1 m r z  hF
    exact SB_X9_takesS_5 hd hs_s_X9_takesO hs_s_X9_takesP hs_s_X9_takesS hs_s_X9_takesB hs_s_X9_takesA hs_s_X9_takesE (fun v1 m r z  hF => ih v1 m r z  hF) hF
def R_X9_takesS (s_X9_takesO : MM → Option (Int32 × MM)) (s_X9_takesP : MM → Option (Int32 × MM)) (s_X9_takesS : MM → Option (Int32 × MM)) (s_X9_takesB : MM → Option (Int32 × MM)) (s_X9_takesA : MM → Option (Int32 × MM)) (s_X9_takesE : MM → Option (Int32 × MM)) (m : MM) : Option (Int32 × MM) :=
  ob2 (s_X9_takesP m) (fun r1 m2 =>
  f_X9_takesS_5 s_X9_takesO s_X9_takesP s_X9_takesS s_X9_takesB s_X9_takesA s_X9_takesE LF r1 m2)
theorem SR_X9_takesS {g : GC} {nn d : Nat} {s_X9_takesO : MM → Option (Int32 × MM)} {s_X9_takesP : MM → Option (Int32 × MM)} {s_X9_takesS : MM → Option (Int32 × MM)} {s_X9_takesB : MM → Option (Int32 × MM)} {s_X9_takesA : MM → Option (Int32 × MM)} {s_X9_takesE : MM → Option (Int32 × MM)}  {x : MX} {m : MM} {r : Int32} {z : MM} (hd : nn + 4 ≤ d) (hs_s_X9_takesO : ∀ (d : Nat), nn + 3 ≤ d → ∀  (m : MM) (r : Int32) (z : MM), s_X9_takesO m = some (r, z) → JC g m_X9_takesO d 0 0 [.ref 80] (ST x m) (EQ (some (.int r)) (ST x z))) (hs_s_X9_takesP : ∀ (d : Nat), nn + 3 ≤ d → ∀  (m : MM) (r : Int32) (z : MM), s_X9_takesP m = some (r, z) → JC g m_X9_takesP d 0 0 [.ref 80] (ST x m) (EQ (some (.int r)) (ST x z))) (hs_s_X9_takesS : ∀ (d : Nat), nn + 3 ≤ d → ∀  (m : MM) (r : Int32) (z : MM), s_X9_takesS m = some (r, z) → JC g m_X9_takesS d 0 0 [.ref 80] (ST x m) (EQ (some (.int r)) (ST x z))) (hs_s_X9_takesB : ∀ (d : Nat), nn + 3 ≤ d → ∀  (m : MM) (r : Int32) (z : MM), s_X9_takesB m = some (r, z) → JC g m_X9_takesB d 0 0 [.ref 80] (ST x m) (EQ (some (.int r)) (ST x z))) (hs_s_X9_takesA : ∀ (d : Nat), nn + 3 ≤ d → ∀  (m : MM) (r : Int32) (z : MM), s_X9_takesA m = some (r, z) → JC g m_X9_takesA d 0 0 [.ref 80] (ST x m) (EQ (some (.int r)) (ST x z))) (hs_s_X9_takesE : ∀ (d : Nat), nn + 3 ≤ d → ∀  (m : MM) (r : Int32) (z : MM), s_X9_takesE m = some (r, z) → JC g m_X9_takesE d 0 0 [.ref 80] (ST x m) (EQ (some (.int r)) (ST x z))) 
  (hF : R_X9_takesS s_X9_takesO s_X9_takesP s_X9_takesS s_X9_takesB s_X9_takesA s_X9_takesE m = some (r, z)) : JC g m_X9_takesS d 0 0 [.ref 80] (ST x m) (EQ (some (.int r)) (ST x z)) := by
  refine JC.of (by decide +kernel) (Nat.le_of_ble_eq_true rfl) ?_
  change J g m_X9_takesS d 0 0 0 [(0, .ref 80)] [] (ST x m) 0 0 (EQ (some (.int r)) (ST x z))
  unfold R_X9_takesS at hF
  refine J_aload_n (j := 0) dX9_takesS_0 rfl rfl ?_
  obtain ⟨r1, m2, h3, hF⟩ := ob2_some hF
  refine JM_callVi (As := []) (S := []) lkV_WithOneHandModel_238_X9_takesP rfl (by decide) dX9_takesS_1 c_80 (hs_s_X9_takesP (d - 1) (by omega) _ _ _ h3) (by omega) rfl rfl (Nat.le_of_ble_eq_true rfl) rfl ?_
  refine J_istore_n (L' := [(1, .int r1), (0, .ref 80)]) dX9_takesS_4 rfl (by decide) rfl ?_
  refine J_sub [1, 0] rfl ?_
  exact Sf_X9_takesS_5 hd hs_s_X9_takesO hs_s_X9_takesP hs_s_X9_takesS hs_s_X9_takesB hs_s_X9_takesA hs_s_X9_takesE _ _ _ _ _ hF
def B_X9_takesB_82 (s_X9_takesO : MM → Option (Int32 × MM)) (s_X9_takesP : MM → Option (Int32 × MM)) (s_X9_takesS : MM → Option (Int32 × MM)) (s_X9_takesB : MM → Option (Int32 × MM)) (s_X9_takesA : MM → Option (Int32 × MM)) (s_X9_takesE : MM → Option (Int32 × MM)) (t0 : Int32) (m : MM) : Option (Int32 × MM) :=
  some (f_X9_one t0, m)
theorem SB_X9_takesB_82 {g : GC} {nn d : Nat} {s_X9_takesO : MM → Option (Int32 × MM)} {s_X9_takesP : MM → Option (Int32 × MM)} {s_X9_takesS : MM → Option (Int32 × MM)} {s_X9_takesB : MM → Option (Int32 × MM)} {s_X9_takesA : MM → Option (Int32 × MM)} {s_X9_takesE : MM → Option (Int32 × MM)} {t0 : Int32} {x : MX} {m : MM} {r : Int32} {z : MM} (hd : nn + 4 ≤ d) (hs_s_X9_takesO : ∀ (d : Nat), nn + 3 ≤ d → ∀  (m : MM) (r : Int32) (z : MM), s_X9_takesO m = some (r, z) → JC g m_X9_takesO d 0 0 [.ref 80] (ST x m) (EQ (some (.int r)) (ST x z))) (hs_s_X9_takesP : ∀ (d : Nat), nn + 3 ≤ d → ∀  (m : MM) (r : Int32) (z : MM), s_X9_takesP m = some (r, z) → JC g m_X9_takesP d 0 0 [.ref 80] (ST x m) (EQ (some (.int r)) (ST x z))) (hs_s_X9_takesS : ∀ (d : Nat), nn + 3 ≤ d → ∀  (m : MM) (r : Int32) (z : MM), s_X9_takesS m = some (r, z) → JC g m_X9_takesS d 0 0 [.ref 80] (ST x m) (EQ (some (.int r)) (ST x z))) (hs_s_X9_takesB : ∀ (d : Nat), nn + 3 ≤ d → ∀  (m : MM) (r : Int32) (z : MM), s_X9_takesB m = some (r, z) → JC g m_X9_takesB d 0 0 [.ref 80] (ST x m) (EQ (some (.int r)) (ST x z))) (hs_s_X9_takesA : ∀ (d : Nat), nn + 3 ≤ d → ∀  (m : MM) (r : Int32) (z : MM), s_X9_takesA m = some (r, z) → JC g m_X9_takesA d 0 0 [.ref 80] (ST x m) (EQ (some (.int r)) (ST x z))) (hs_s_X9_takesE : ∀ (d : Nat), nn + 3 ≤ d → ∀  (m : MM) (r : Int32) (z : MM), s_X9_takesE m = some (r, z) → JC g m_X9_takesE d 0 0 [.ref 80] (ST x m) (EQ (some (.int r)) (ST x z)))
  (hF : B_X9_takesB_82 s_X9_takesO s_X9_takesP s_X9_takesS s_X9_takesB s_X9_takesA s_X9_takesE t0 m = some (r, z)) : J g m_X9_takesB d 0 0 82 [] [.int t0, .ref 80] (ST x m) 0 0 (EQ (some (.int r)) (ST x z)) := by
  unfold B_X9_takesB_82 at hF
  refine JM_callVi (As := [.int t0]) (S := []) lkV_WithOneHandModel_228_X9_one rfl (by decide) dX9_takesB_82 c_80 (S_X9_one (by omega) rfl) (by omega) rfl rfl (Nat.le_of_ble_eq_true rfl) rfl ?_
  obtain ⟨e_r, e_z⟩ := someP hF
  subst e_r
  subst e_z
  exact J_ireturn rfl rfl dX9_takesB_85 ⟨rfl, rfl⟩
def B_X9_takesB_55 (s_X9_takesO : MM → Option (Int32 × MM)) (s_X9_takesP : MM → Option (Int32 × MM)) (s_X9_takesS : MM → Option (Int32 × MM)) (s_X9_takesB : MM → Option (Int32 × MM)) (s_X9_takesA : MM → Option (Int32 × MM)) (s_X9_takesE : MM → Option (Int32 × MM)) (t0 : Int32) (m : MM) : Option (Int32 × MM) :=
  some (f_X9_one t0, m)
theorem SB_X9_takesB_55 {g : GC} {nn d : Nat} {s_X9_takesO : MM → Option (Int32 × MM)} {s_X9_takesP : MM → Option (Int32 × MM)} {s_X9_takesS : MM → Option (Int32 × MM)} {s_X9_takesB : MM → Option (Int32 × MM)} {s_X9_takesA : MM → Option (Int32 × MM)} {s_X9_takesE : MM → Option (Int32 × MM)} {t0 : Int32} {x : MX} {m : MM} {r : Int32} {z : MM} (hd : nn + 4 ≤ d) (hs_s_X9_takesO : ∀ (d : Nat), nn + 3 ≤ d → ∀  (m : MM) (r : Int32) (z : MM), s_X9_takesO m = some (r, z) → JC g m_X9_takesO d 0 0 [.ref 80] (ST x m) (EQ (some (.int r)) (ST x z))) (hs_s_X9_takesP : ∀ (d : Nat), nn + 3 ≤ d → ∀  (m : MM) (r : Int32) (z : MM), s_X9_takesP m = some (r, z) → JC g m_X9_takesP d 0 0 [.ref 80] (ST x m) (EQ (some (.int r)) (ST x z))) (hs_s_X9_takesS : ∀ (d : Nat), nn + 3 ≤ d → ∀  (m : MM) (r : Int32) (z : MM), s_X9_takesS m = some (r, z) → JC g m_X9_takesS d 0 0 [.ref 80] (ST x m) (EQ (some (.int r)) (ST x z))) (hs_s_X9_takesB : ∀ (d : Nat), nn + 3 ≤ d → ∀  (m : MM) (r : Int32) (z : MM), s_X9_takesB m = some (r, z) → JC g m_X9_takesB d 0 0 [.ref 80] (ST x m) (EQ (some (.int r)) (ST x z))) (hs_s_X9_takesA : ∀ (d : Nat), nn + 3 ≤ d → ∀  (m : MM) (r : Int32) (z : MM), s_X9_takesA m = some (r, z) → JC g m_X9_takesA d 0 0 [.ref 80] (ST x m) (EQ (some (.int r)) (ST x z))) (hs_s_X9_takesE : ∀ (d : Nat), nn + 3 ≤ d → ∀  (m : MM) (r : Int32) (z : MM), s_X9_takesE m = some (r, z) → JC g m_X9_takesE d 0 0 [.ref 80] (ST x m) (EQ (some (.int r)) (ST x z)))
  (hF : B_X9_takesB_55 s_X9_takesO s_X9_takesP s_X9_takesS s_X9_takesB s_X9_takesA s_X9_takesE t0 m = some (r, z)) : J g m_X9_takesB d 0 0 55 [] [.int t0, .ref 80] (ST x m) 0 0 (EQ (some (.int r)) (ST x z)) := by
  unfold B_X9_takesB_55 at hF
  refine JM_callVi (As := [.int t0]) (S := []) lkV_WithOneHandModel_228_X9_one rfl (by decide) dX9_takesB_55 c_80 (S_X9_one (by omega) rfl) (by omega) rfl rfl (Nat.le_of_ble_eq_true rfl) rfl ?_
  obtain ⟨e_r, e_z⟩ := someP hF
  subst e_r
  subst e_z
  exact J_ireturn rfl rfl dX9_takesB_58 ⟨rfl, rfl⟩
def B_X9_takesB_28 (s_X9_takesO : MM → Option (Int32 × MM)) (s_X9_takesP : MM → Option (Int32 × MM)) (s_X9_takesS : MM → Option (Int32 × MM)) (s_X9_takesB : MM → Option (Int32 × MM)) (s_X9_takesA : MM → Option (Int32 × MM)) (s_X9_takesE : MM → Option (Int32 × MM)) (t0 : Int32) (m : MM) : Option (Int32 × MM) :=
  some (f_X9_one t0, m)
theorem SB_X9_takesB_28 {g : GC} {nn d : Nat} {s_X9_takesO : MM → Option (Int32 × MM)} {s_X9_takesP : MM → Option (Int32 × MM)} {s_X9_takesS : MM → Option (Int32 × MM)} {s_X9_takesB : MM → Option (Int32 × MM)} {s_X9_takesA : MM → Option (Int32 × MM)} {s_X9_takesE : MM → Option (Int32 × MM)} {t0 : Int32} {x : MX} {m : MM} {r : Int32} {z : MM} (hd : nn + 4 ≤ d) (hs_s_X9_takesO : ∀ (d : Nat), nn + 3 ≤ d → ∀  (m : MM) (r : Int32) (z : MM), s_X9_takesO m = some (r, z) → JC g m_X9_takesO d 0 0 [.ref 80] (ST x m) (EQ (some (.int r)) (ST x z))) (hs_s_X9_takesP : ∀ (d : Nat), nn + 3 ≤ d → ∀  (m : MM) (r : Int32) (z : MM), s_X9_takesP m = some (r, z) → JC g m_X9_takesP d 0 0 [.ref 80] (ST x m) (EQ (some (.int r)) (ST x z))) (hs_s_X9_takesS : ∀ (d : Nat), nn + 3 ≤ d → ∀  (m : MM) (r : Int32) (z : MM), s_X9_takesS m = some (r, z) → JC g m_X9_takesS d 0 0 [.ref 80] (ST x m) (EQ (some (.int r)) (ST x z))) (hs_s_X9_takesB : ∀ (d : Nat), nn + 3 ≤ d → ∀  (m : MM) (r : Int32) (z : MM), s_X9_takesB m = some (r, z) → JC g m_X9_takesB d 0 0 [.ref 80] (ST x m) (EQ (some (.int r)) (ST x z))) (hs_s_X9_takesA : ∀ (d : Nat), nn + 3 ≤ d → ∀  (m : MM) (r : Int32) (z : MM), s_X9_takesA m = some (r, z) → JC g m_X9_takesA d 0 0 [.ref 80] (ST x m) (EQ (some (.int r)) (ST x z))) (hs_s_X9_takesE : ∀ (d : Nat), nn + 3 ≤ d → ∀  (m : MM) (r : Int32) (z : MM), s_X9_takesE m = some (r, z) → JC g m_X9_takesE d 0 0 [.ref 80] (ST x m) (EQ (some (.int r)) (ST x z)))
  (hF : B_X9_takesB_28 s_X9_takesO s_X9_takesP s_X9_takesS s_X9_takesB s_X9_takesA s_X9_takesE t0 m = some (r, z)) : J g m_X9_takesB d 0 0 28 [] [.int t0, .ref 80] (ST x m) 0 0 (EQ (some (.int r)) (ST x z)) := by
  unfold B_X9_takesB_28 at hF
  refine JM_callVi (As := [.int t0]) (S := []) lkV_WithOneHandModel_228_X9_one rfl (by decide) dX9_takesB_28 c_80 (S_X9_one (by omega) rfl) (by omega) rfl rfl (Nat.le_of_ble_eq_true rfl) rfl ?_
  obtain ⟨e_r, e_z⟩ := someP hF
  subst e_r
  subst e_z
  exact J_ireturn rfl rfl dX9_takesB_31 ⟨rfl, rfl⟩
def R_X9_takesB (s_X9_takesO : MM → Option (Int32 × MM)) (s_X9_takesP : MM → Option (Int32 × MM)) (s_X9_takesS : MM → Option (Int32 × MM)) (s_X9_takesB : MM → Option (Int32 × MM)) (s_X9_takesA : MM → Option (Int32 × MM)) (s_X9_takesE : MM → Option (Int32 × MM)) (m : MM) : Option (Int32 × MM) :=
  ob2 (s_X9_takesS m) (fun r1 m2 =>
  ob2 (f_X9_isSeen 60 m2) (fun r4 m5 =>
  if r4 = true then
  ob2 (s_X9_takesS m5) (fun r24 m25 =>
  if r24 ≤ r1 then
  B_X9_takesB_28 s_X9_takesO s_X9_takesP s_X9_takesS s_X9_takesB s_X9_takesA s_X9_takesE 0 m25
  else
  B_X9_takesB_28 s_X9_takesO s_X9_takesP s_X9_takesS s_X9_takesB s_X9_takesA s_X9_takesE 1 m25)
  else
  ob2 (f_X9_isSeen 61 m5) (fun r8 m9 =>
  if r8 = true then
  ob2 (s_X9_takesS m9) (fun r20 m21 =>
  if r1 = r20 then
  B_X9_takesB_55 s_X9_takesO s_X9_takesP s_X9_takesS s_X9_takesB s_X9_takesA s_X9_takesE 1 m21
  else
  B_X9_takesB_55 s_X9_takesO s_X9_takesP s_X9_takesS s_X9_takesB s_X9_takesA s_X9_takesE 0 m21)
  else
  ob2 (f_X9_isSeen 62 m9) (fun r12 m13 =>
  if r12 = true then
  ob2 (s_X9_takesS m13) (fun r16 m17 =>
  if r1 ≤ r16 then
  B_X9_takesB_82 s_X9_takesO s_X9_takesP s_X9_takesS s_X9_takesB s_X9_takesA s_X9_takesE 0 m17
  else
  B_X9_takesB_82 s_X9_takesO s_X9_takesP s_X9_takesS s_X9_takesB s_X9_takesA s_X9_takesE 1 m17)
  else
  some (r1, m13)))))
theorem SR_X9_takesB {g : GC} {nn d : Nat} {s_X9_takesO : MM → Option (Int32 × MM)} {s_X9_takesP : MM → Option (Int32 × MM)} {s_X9_takesS : MM → Option (Int32 × MM)} {s_X9_takesB : MM → Option (Int32 × MM)} {s_X9_takesA : MM → Option (Int32 × MM)} {s_X9_takesE : MM → Option (Int32 × MM)}  {x : MX} {m : MM} {r : Int32} {z : MM} (hd : nn + 4 ≤ d) (hs_s_X9_takesO : ∀ (d : Nat), nn + 3 ≤ d → ∀  (m : MM) (r : Int32) (z : MM), s_X9_takesO m = some (r, z) → JC g m_X9_takesO d 0 0 [.ref 80] (ST x m) (EQ (some (.int r)) (ST x z))) (hs_s_X9_takesP : ∀ (d : Nat), nn + 3 ≤ d → ∀  (m : MM) (r : Int32) (z : MM), s_X9_takesP m = some (r, z) → JC g m_X9_takesP d 0 0 [.ref 80] (ST x m) (EQ (some (.int r)) (ST x z))) (hs_s_X9_takesS : ∀ (d : Nat), nn + 3 ≤ d → ∀  (m : MM) (r : Int32) (z : MM), s_X9_takesS m = some (r, z) → JC g m_X9_takesS d 0 0 [.ref 80] (ST x m) (EQ (some (.int r)) (ST x z))) (hs_s_X9_takesB : ∀ (d : Nat), nn + 3 ≤ d → ∀  (m : MM) (r : Int32) (z : MM), s_X9_takesB m = some (r, z) → JC g m_X9_takesB d 0 0 [.ref 80] (ST x m) (EQ (some (.int r)) (ST x z))) (hs_s_X9_takesA : ∀ (d : Nat), nn + 3 ≤ d → ∀  (m : MM) (r : Int32) (z : MM), s_X9_takesA m = some (r, z) → JC g m_X9_takesA d 0 0 [.ref 80] (ST x m) (EQ (some (.int r)) (ST x z))) (hs_s_X9_takesE : ∀ (d : Nat), nn + 3 ≤ d → ∀  (m : MM) (r : Int32) (z : MM), s_X9_takesE m = some (r, z) → JC g m_X9_takesE d 0 0 [.ref 80] (ST x m) (EQ (some (.int r)) (ST x z))) 
  (hF : R_X9_takesB s_X9_takesO s_X9_takesP s_X9_takesS s_X9_takesB s_X9_takesA s_X9_takesE m = some (r, z)) : JC g m_X9_takesB d 0 0 [.ref 80] (ST x m) (EQ (some (.int r)) (ST x z)) := by
  refine JC.of (by decide +kernel) (Nat.le_of_ble_eq_true rfl) ?_
  change J g m_X9_takesB d 0 0 0 [(0, .ref 80)] [] (ST x m) 0 0 (EQ (some (.int r)) (ST x z))
  unfold R_X9_takesB at hF
  refine J_aload_n (j := 0) dX9_takesB_0 rfl rfl ?_
  obtain ⟨r1, m2, h3, hF⟩ := ob2_some hF
  refine JM_callVi (As := []) (S := []) lkV_WithOneHandModel_241_X9_takesS rfl (by decide) dX9_takesB_1 c_80 (hs_s_X9_takesS (d - 1) (by omega) _ _ _ h3) (by omega) rfl rfl (Nat.le_of_ble_eq_true rfl) rfl ?_
  refine J_istore_n (L' := [(1, .int r1), (0, .ref 80)]) dX9_takesB_4 rfl (by decide) rfl ?_
  refine J_aload_n (j := 1) dX9_takesB_5 rfl rfl ?_
  refine J_bipush (v := 60) dX9_takesB_6 (by decide) ?_
  obtain ⟨r4, m5, h6, hF⟩ := ob2_some hF
  refine JM_callVi (As := [.int 60]) (S := []) lkV_WithOneHandModel_235_X9_isSeen rfl (by decide) dX9_takesB_8 c_80 (S_X9_isSeen (by omega) h6) (by omega) rfl rfl (Nat.le_of_ble_eq_true rfl) rfl ?_
  refine J_ifb_eq (tgt := 32) dX9_takesB_11 (by decide) (fun q7 => ?_) (fun q7 => ?_)
  · rw [if_neg q7] at hF
    refine J_aload_n (j := 1) dX9_takesB_32 rfl rfl ?_
    refine J_bipush (v := 61) dX9_takesB_33 (by decide) ?_
    obtain ⟨r8, m9, h10, hF⟩ := ob2_some hF
    refine JM_callVi (As := [.int 61]) (S := []) lkV_WithOneHandModel_235_X9_isSeen rfl (by decide) dX9_takesB_35 c_80 (S_X9_isSeen (by omega) h10) (by omega) rfl rfl (Nat.le_of_ble_eq_true rfl) rfl ?_
    refine J_ifb_eq (tgt := 59) dX9_takesB_38 (by decide) (fun q11 => ?_) (fun q11 => ?_)
    · rw [if_neg q11] at hF
      refine J_aload_n (j := 1) dX9_takesB_59 rfl rfl ?_
      refine J_bipush (v := 62) dX9_takesB_60 (by decide) ?_
      obtain ⟨r12, m13, h14, hF⟩ := ob2_some hF
      refine JM_callVi (As := [.int 62]) (S := []) lkV_WithOneHandModel_235_X9_isSeen rfl (by decide) dX9_takesB_62 c_80 (S_X9_isSeen (by omega) h14) (by omega) rfl rfl (Nat.le_of_ble_eq_true rfl) rfl ?_
      refine J_ifb_eq (tgt := 86) dX9_takesB_65 (by decide) (fun q15 => ?_) (fun q15 => ?_)
      · rw [if_neg q15] at hF
        refine J_iload_n (j := 0) dX9_takesB_86 rfl rfl ?_
        obtain ⟨e_r, e_z⟩ := someP hF
        subst e_r
        subst e_z
        exact J_ireturn rfl rfl dX9_takesB_87 ⟨rfl, rfl⟩
      · rw [if_pos q15] at hF
        refine J_aload_n (j := 1) dX9_takesB_68 rfl rfl ?_
        refine J_iload_n (j := 0) dX9_takesB_69 rfl rfl ?_
        refine J_aload_n (j := 1) dX9_takesB_70 rfl rfl ?_
        obtain ⟨r16, m17, h18, hF⟩ := ob2_some hF
        refine JM_callVi (As := []) (S := [.int r1, .ref 80]) lkV_WithOneHandModel_241_X9_takesS rfl (by decide) dX9_takesB_71 c_80 (hs_s_X9_takesS (d - 1) (by omega) _ _ _ h18) (by omega) rfl rfl (Nat.le_of_ble_eq_true rfl) rfl ?_
        refine J_icmp_le (tgt := 81) dX9_takesB_74 (by decide) (fun q19 => ?_) (fun q19 => ?_)
        · rw [if_pos q19] at hF
          refine J_iconst (v := 0) dX9_takesB_81 (by decide) ?_
          refine J_sub [] rfl ?_
          exact SB_X9_takesB_82 hd hs_s_X9_takesO hs_s_X9_takesP hs_s_X9_takesS hs_s_X9_takesB hs_s_X9_takesA hs_s_X9_takesE hF
        · rw [if_neg q19] at hF
          refine J_iconst (v := 1) dX9_takesB_77 (by decide) ?_
          refine J_goto (tgt := 82) dX9_takesB_78 (by decide) ?_
          refine J_sub [] rfl ?_
          exact SB_X9_takesB_82 hd hs_s_X9_takesO hs_s_X9_takesP hs_s_X9_takesS hs_s_X9_takesB hs_s_X9_takesA hs_s_X9_takesE hF
    · rw [if_pos q11] at hF
      refine J_aload_n (j := 1) dX9_takesB_41 rfl rfl ?_
      refine J_iload_n (j := 0) dX9_takesB_42 rfl rfl ?_
      refine J_aload_n (j := 1) dX9_takesB_43 rfl rfl ?_
      obtain ⟨r20, m21, h22, hF⟩ := ob2_some hF
      refine JM_callVi (As := []) (S := [.int r1, .ref 80]) lkV_WithOneHandModel_241_X9_takesS rfl (by decide) dX9_takesB_44 c_80 (hs_s_X9_takesS (d - 1) (by omega) _ _ _ h22) (by omega) rfl rfl (Nat.le_of_ble_eq_true rfl) rfl ?_
      refine J_icmp_ne (tgt := 54) dX9_takesB_47 (by decide) (fun q23 => ?_) (fun q23 => ?_)
      · rw [if_neg q23] at hF
        refine J_iconst (v := 0) dX9_takesB_54 (by decide) ?_
        refine J_sub [] rfl ?_
        exact SB_X9_takesB_55 hd hs_s_X9_takesO hs_s_X9_takesP hs_s_X9_takesS hs_s_X9_takesB hs_s_X9_takesA hs_s_X9_takesE hF
      · rw [if_pos q23] at hF
        refine J_iconst (v := 1) dX9_takesB_50 (by decide) ?_
        refine J_goto (tgt := 55) dX9_takesB_51 (by decide) ?_
        refine J_sub [] rfl ?_
        exact SB_X9_takesB_55 hd hs_s_X9_takesO hs_s_X9_takesP hs_s_X9_takesS hs_s_X9_takesB hs_s_X9_takesA hs_s_X9_takesE hF
  · rw [if_pos q7] at hF
    refine J_aload_n (j := 1) dX9_takesB_14 rfl rfl ?_
    refine J_iload_n (j := 0) dX9_takesB_15 rfl rfl ?_
    refine J_aload_n (j := 1) dX9_takesB_16 rfl rfl ?_
    obtain ⟨r24, m25, h26, hF⟩ := ob2_some hF
    refine JM_callVi (As := []) (S := [.int r1, .ref 80]) lkV_WithOneHandModel_241_X9_takesS rfl (by decide) dX9_takesB_17 c_80 (hs_s_X9_takesS (d - 1) (by omega) _ _ _ h26) (by omega) rfl rfl (Nat.le_of_ble_eq_true rfl) rfl ?_
    refine J_icmp_ge (tgt := 27) dX9_takesB_20 (by decide) (fun q27 => ?_) (fun q27 => ?_)
    · rw [if_pos q27] at hF
      refine J_iconst (v := 0) dX9_takesB_27 (by decide) ?_
      refine J_sub [] rfl ?_
      exact SB_X9_takesB_28 hd hs_s_X9_takesO hs_s_X9_takesP hs_s_X9_takesS hs_s_X9_takesB hs_s_X9_takesA hs_s_X9_takesE hF
    · rw [if_neg q27] at hF
      refine J_iconst (v := 1) dX9_takesB_23 (by decide) ?_
      refine J_goto (tgt := 28) dX9_takesB_24 (by decide) ?_
      refine J_sub [] rfl ?_
      exact SB_X9_takesB_28 hd hs_s_X9_takesO hs_s_X9_takesP hs_s_X9_takesS hs_s_X9_takesB hs_s_X9_takesA hs_s_X9_takesE hF
def B_X9_takesA_33 (s_X9_takesO : MM → Option (Int32 × MM)) (s_X9_takesP : MM → Option (Int32 × MM)) (s_X9_takesS : MM → Option (Int32 × MM)) (s_X9_takesB : MM → Option (Int32 × MM)) (s_X9_takesA : MM → Option (Int32 × MM)) (s_X9_takesE : MM → Option (Int32 × MM)) (K5 : Int32 → MM → Option (Int32 × MM)) (t0 : Int32) (m : MM) : Option (Int32 × MM) :=
  K5 (f_X9_one t0) m
theorem SB_X9_takesA_33 {g : GC} {nn d : Nat} {s_X9_takesO : MM → Option (Int32 × MM)} {s_X9_takesP : MM → Option (Int32 × MM)} {s_X9_takesS : MM → Option (Int32 × MM)} {s_X9_takesB : MM → Option (Int32 × MM)} {s_X9_takesA : MM → Option (Int32 × MM)} {s_X9_takesE : MM → Option (Int32 × MM)} {K5 : Int32 → MM → Option (Int32 × MM)} {t0 : Int32} {x : MX} {m : MM} {r : Int32} {z : MM} (hd : nn + 4 ≤ d) (hs_s_X9_takesO : ∀ (d : Nat), nn + 3 ≤ d → ∀  (m : MM) (r : Int32) (z : MM), s_X9_takesO m = some (r, z) → JC g m_X9_takesO d 0 0 [.ref 80] (ST x m) (EQ (some (.int r)) (ST x z))) (hs_s_X9_takesP : ∀ (d : Nat), nn + 3 ≤ d → ∀  (m : MM) (r : Int32) (z : MM), s_X9_takesP m = some (r, z) → JC g m_X9_takesP d 0 0 [.ref 80] (ST x m) (EQ (some (.int r)) (ST x z))) (hs_s_X9_takesS : ∀ (d : Nat), nn + 3 ≤ d → ∀  (m : MM) (r : Int32) (z : MM), s_X9_takesS m = some (r, z) → JC g m_X9_takesS d 0 0 [.ref 80] (ST x m) (EQ (some (.int r)) (ST x z))) (hs_s_X9_takesB : ∀ (d : Nat), nn + 3 ≤ d → ∀  (m : MM) (r : Int32) (z : MM), s_X9_takesB m = some (r, z) → JC g m_X9_takesB d 0 0 [.ref 80] (ST x m) (EQ (some (.int r)) (ST x z))) (hs_s_X9_takesA : ∀ (d : Nat), nn + 3 ≤ d → ∀  (m : MM) (r : Int32) (z : MM), s_X9_takesA m = some (r, z) → JC g m_X9_takesA d 0 0 [.ref 80] (ST x m) (EQ (some (.int r)) (ST x z))) (hs_s_X9_takesE : ∀ (d : Nat), nn + 3 ≤ d → ∀  (m : MM) (r : Int32) (z : MM), s_X9_takesE m = some (r, z) → JC g m_X9_takesE d 0 0 [.ref 80] (ST x m) (EQ (some (.int r)) (ST x z))) (hK5 : ∀ (v1 : Int32) (m : MM) (r : Int32) (z : MM), K5 v1 m = some (r, z) → J g m_X9_takesA d 0 0 5 [(0, .ref 80), (1, .int v1)] [] (ST x m) 0 0 (EQ (some (.int r)) (ST x z)))
  (hF : B_X9_takesA_33 s_X9_takesO s_X9_takesP s_X9_takesS s_X9_takesB s_X9_takesA s_X9_takesE K5 t0 m = some (r, z)) : J g m_X9_takesA d 0 0 33 [(0, .ref 80)] [.int t0, .ref 80] (ST x m) 0 0 (EQ (some (.int r)) (ST x z)) := by
  unfold B_X9_takesA_33 at hF
  refine JM_callVi (As := [.int t0]) (S := []) lkV_WithOneHandModel_228_X9_one rfl (by decide) dX9_takesA_33 c_80 (S_X9_one (by omega) rfl) (by omega) rfl rfl (Nat.le_of_ble_eq_true rfl) rfl ?_
  refine J_istore_n (L' := [(1, .int (f_X9_one t0)), (0, .ref 80)]) dX9_takesA_36 rfl (by decide) rfl ?_
  refine J_goto (tgt := 5) dX9_takesA_37 (by decide) ?_
  refine J_sub [1, 0] rfl ?_
  exact hK5 _ _ _ _  hF
def B_X9_takesA_32 (s_X9_takesO : MM → Option (Int32 × MM)) (s_X9_takesP : MM → Option (Int32 × MM)) (s_X9_takesS : MM → Option (Int32 × MM)) (s_X9_takesB : MM → Option (Int32 × MM)) (s_X9_takesA : MM → Option (Int32 × MM)) (s_X9_takesE : MM → Option (Int32 × MM)) (K5 : Int32 → MM → Option (Int32 × MM)) (m : MM) : Option (Int32 × MM) :=
  B_X9_takesA_33 s_X9_takesO s_X9_takesP s_X9_takesS s_X9_takesB s_X9_takesA s_X9_takesE K5 0 m
theorem SB_X9_takesA_32 {g : GC} {nn d : Nat} {s_X9_takesO : MM → Option (Int32 × MM)} {s_X9_takesP : MM → Option (Int32 × MM)} {s_X9_takesS : MM → Option (Int32 × MM)} {s_X9_takesB : MM → Option (Int32 × MM)} {s_X9_takesA : MM → Option (Int32 × MM)} {s_X9_takesE : MM → Option (Int32 × MM)} {K5 : Int32 → MM → Option (Int32 × MM)} {x : MX} {m : MM} {r : Int32} {z : MM} (hd : nn + 4 ≤ d) (hs_s_X9_takesO : ∀ (d : Nat), nn + 3 ≤ d → ∀  (m : MM) (r : Int32) (z : MM), s_X9_takesO m = some (r, z) → JC g m_X9_takesO d 0 0 [.ref 80] (ST x m) (EQ (some (.int r)) (ST x z))) (hs_s_X9_takesP : ∀ (d : Nat), nn + 3 ≤ d → ∀  (m : MM) (r : Int32) (z : MM), s_X9_takesP m = some (r, z) → JC g m_X9_takesP d 0 0 [.ref 80] (ST x m) (EQ (some (.int r)) (ST x z))) (hs_s_X9_takesS : ∀ (d : Nat), nn + 3 ≤ d → ∀  (m : MM) (r : Int32) (z : MM), s_X9_takesS m = some (r, z) → JC g m_X9_takesS d 0 0 [.ref 80] (ST x m) (EQ (some (.int r)) (ST x z))) (hs_s_X9_takesB : ∀ (d : Nat), nn + 3 ≤ d → ∀  (m : MM) (r : Int32) (z : MM), s_X9_takesB m = some (r, z) → JC g m_X9_takesB d 0 0 [.ref 80] (ST x m) (EQ (some (.int r)) (ST x z))) (hs_s_X9_takesA : ∀ (d : Nat), nn + 3 ≤ d → ∀  (m : MM) (r : Int32) (z : MM), s_X9_takesA m = some (r, z) → JC g m_X9_takesA d 0 0 [.ref 80] (ST x m) (EQ (some (.int r)) (ST x z))) (hs_s_X9_takesE : ∀ (d : Nat), nn + 3 ≤ d → ∀  (m : MM) (r : Int32) (z : MM), s_X9_takesE m = some (r, z) → JC g m_X9_takesE d 0 0 [.ref 80] (ST x m) (EQ (some (.int r)) (ST x z))) (hK5 : ∀ (v1 : Int32) (m : MM) (r : Int32) (z : MM), K5 v1 m = some (r, z) → J g m_X9_takesA d 0 0 5 [(0, .ref 80), (1, .int v1)] [] (ST x m) 0 0 (EQ (some (.int r)) (ST x z)))
  (hF : B_X9_takesA_32 s_X9_takesO s_X9_takesP s_X9_takesS s_X9_takesB s_X9_takesA s_X9_takesE K5 m = some (r, z)) : J g m_X9_takesA d 0 0 32 [(0, .ref 80)] [.ref 80] (ST x m) 0 0 (EQ (some (.int r)) (ST x z)) := by
  unfold B_X9_takesA_32 at hF
  refine J_iconst (v := 0) dX9_takesA_32 (by decide) ?_
  exact SB_X9_takesA_33 hd hs_s_X9_takesO hs_s_X9_takesP hs_s_X9_takesS hs_s_X9_takesB hs_s_X9_takesA hs_s_X9_takesE hK5 hF
def B_X9_takesA_5 (s_X9_takesO : MM → Option (Int32 × MM)) (s_X9_takesP : MM → Option (Int32 × MM)) (s_X9_takesS : MM → Option (Int32 × MM)) (s_X9_takesB : MM → Option (Int32 × MM)) (s_X9_takesA : MM → Option (Int32 × MM)) (s_X9_takesE : MM → Option (Int32 × MM)) (K5 : Int32 → MM → Option (Int32 × MM)) (v1 : Int32) (m : MM) : Option (Int32 × MM) :=
  ob2 (f_X9_isSeen 38 m) (fun r4 m5 =>
  if r4 = true then
  ob2 (s_X9_takesB m5) (fun r8 m9 =>
  if v1 = 0 then
  B_X9_takesA_32 s_X9_takesO s_X9_takesP s_X9_takesS s_X9_takesB s_X9_takesA s_X9_takesE K5 m9
  else
  if r8 = 0 then
  B_X9_takesA_32 s_X9_takesO s_X9_takesP s_X9_takesS s_X9_takesB s_X9_takesA s_X9_takesE K5 m9
  else
  B_X9_takesA_33 s_X9_takesO s_X9_takesP s_X9_takesS s_X9_takesB s_X9_takesA s_X9_takesE K5 1 m9)
  else
  some (v1, m5))
theorem SB_X9_takesA_5 {g : GC} {nn d : Nat} {s_X9_takesO : MM → Option (Int32 × MM)} {s_X9_takesP : MM → Option (Int32 × MM)} {s_X9_takesS : MM → Option (Int32 × MM)} {s_X9_takesB : MM → Option (Int32 × MM)} {s_X9_takesA : MM → Option (Int32 × MM)} {s_X9_takesE : MM → Option (Int32 × MM)} {K5 : Int32 → MM → Option (Int32 × MM)} {v1 : Int32} {x : MX} {m : MM} {r : Int32} {z : MM} (hd : nn + 4 ≤ d) (hs_s_X9_takesO : ∀ (d : Nat), nn + 3 ≤ d → ∀  (m : MM) (r : Int32) (z : MM), s_X9_takesO m = some (r, z) → JC g m_X9_takesO d 0 0 [.ref 80] (ST x m) (EQ (some (.int r)) (ST x z))) (hs_s_X9_takesP : ∀ (d : Nat), nn + 3 ≤ d → ∀  (m : MM) (r : Int32) (z : MM), s_X9_takesP m = some (r, z) → JC g m_X9_takesP d 0 0 [.ref 80] (ST x m) (EQ (some (.int r)) (ST x z))) (hs_s_X9_takesS : ∀ (d : Nat), nn + 3 ≤ d → ∀  (m : MM) (r : Int32) (z : MM), s_X9_takesS m = some (r, z) → JC g m_X9_takesS d 0 0 [.ref 80] (ST x m) (EQ (some (.int r)) (ST x z))) (hs_s_X9_takesB : ∀ (d : Nat), nn + 3 ≤ d → ∀  (m : MM) (r : Int32) (z : MM), s_X9_takesB m = some (r, z) → JC g m_X9_takesB d 0 0 [.ref 80] (ST x m) (EQ (some (.int r)) (ST x z))) (hs_s_X9_takesA : ∀ (d : Nat), nn + 3 ≤ d → ∀  (m : MM) (r : Int32) (z : MM), s_X9_takesA m = some (r, z) → JC g m_X9_takesA d 0 0 [.ref 80] (ST x m) (EQ (some (.int r)) (ST x z))) (hs_s_X9_takesE : ∀ (d : Nat), nn + 3 ≤ d → ∀  (m : MM) (r : Int32) (z : MM), s_X9_takesE m = some (r, z) → JC g m_X9_takesE d 0 0 [.ref 80] (ST x m) (EQ (some (.int r)) (ST x z))) (hK5 : ∀ (v1 : Int32) (m : MM) (r : Int32) (z : MM), K5 v1 m = some (r, z) → J g m_X9_takesA d 0 0 5 [(0, .ref 80), (1, .int v1)] [] (ST x m) 0 0 (EQ (some (.int r)) (ST x z)))
  (hF : B_X9_takesA_5 s_X9_takesO s_X9_takesP s_X9_takesS s_X9_takesB s_X9_takesA s_X9_takesE K5 v1 m = some (r, z)) : J g m_X9_takesA d 0 0 5 [(0, .ref 80), (1, .int v1)] [] (ST x m) 0 0 (EQ (some (.int r)) (ST x z)) := by
  unfold B_X9_takesA_5 at hF
  refine J_aload_n (j := 0) dX9_takesA_5 rfl rfl ?_
  refine J_bipush (v := 38) dX9_takesA_6 (by decide) ?_
  obtain ⟨r4, m5, h6, hF⟩ := ob2_some hF
  refine JM_callVi (As := [.int 38]) (S := []) lkV_WithOneHandModel_235_X9_isSeen rfl (by decide) dX9_takesA_8 c_80 (S_X9_isSeen (by omega) h6) (by omega) rfl rfl (Nat.le_of_ble_eq_true rfl) rfl ?_
  refine J_ifb_eq (tgt := 40) dX9_takesA_11 (by decide) (fun q7 => ?_) (fun q7 => ?_)
  · rw [if_neg q7] at hF
    refine J_iload_n (j := 1) dX9_takesA_40 rfl rfl ?_
    obtain ⟨e_r, e_z⟩ := someP hF
    subst e_r
    subst e_z
    exact J_ireturn rfl rfl dX9_takesA_41 ⟨rfl, rfl⟩
  · rw [if_pos q7] at hF
    refine J_aload_n (j := 0) dX9_takesA_14 rfl rfl ?_
    obtain ⟨r8, m9, h10, hF⟩ := ob2_some hF
    refine JM_callVi (As := []) (S := []) lkV_WithOneHandModel_244_X9_takesB rfl (by decide) dX9_takesA_15 c_80 (hs_s_X9_takesB (d - 1) (by omega) _ _ _ h10) (by omega) rfl rfl (Nat.le_of_ble_eq_true rfl) rfl ?_
    refine J_istore_n (L' := [(2, .int r8), (0, .ref 80), (1, .int v1)]) dX9_takesA_18 rfl (by decide) rfl ?_
    refine J_aload_n (j := 1) dX9_takesA_19 rfl rfl ?_
    refine J_iload_n (j := 2) dX9_takesA_20 rfl rfl ?_
    refine J_if_eq (tgt := 32) dX9_takesA_21 (by decide) (fun q11 => ?_) (fun q11 => ?_)
    · rw [if_pos q11] at hF
      refine J_sub [1] rfl ?_
      exact SB_X9_takesA_32 hd hs_s_X9_takesO hs_s_X9_takesP hs_s_X9_takesS hs_s_X9_takesB hs_s_X9_takesA hs_s_X9_takesE hK5 hF
    · rw [if_neg q11] at hF
      refine J_iload_n (j := 0) dX9_takesA_24 rfl rfl ?_
      refine J_if_eq (tgt := 32) dX9_takesA_25 (by decide) (fun q12 => ?_) (fun q12 => ?_)
      · rw [if_pos q12] at hF
        refine J_sub [1] rfl ?_
        exact SB_X9_takesA_32 hd hs_s_X9_takesO hs_s_X9_takesP hs_s_X9_takesS hs_s_X9_takesB hs_s_X9_takesA hs_s_X9_takesE hK5 hF
      · rw [if_neg q12] at hF
        refine J_iconst (v := 1) dX9_takesA_28 (by decide) ?_
        refine J_goto (tgt := 33) dX9_takesA_29 (by decide) ?_
        refine J_sub [1] rfl ?_
        exact SB_X9_takesA_33 hd hs_s_X9_takesO hs_s_X9_takesP hs_s_X9_takesS hs_s_X9_takesB hs_s_X9_takesA hs_s_X9_takesE hK5 hF
def f_X9_takesA_5 (s_X9_takesO : MM → Option (Int32 × MM)) (s_X9_takesP : MM → Option (Int32 × MM)) (s_X9_takesS : MM → Option (Int32 × MM)) (s_X9_takesB : MM → Option (Int32 × MM)) (s_X9_takesA : MM → Option (Int32 × MM)) (s_X9_takesE : MM → Option (Int32 × MM)) : Nat → Int32 → MM → Option (Int32 × MM)
  | 0 => fun _ _ => none
  | n + 1 => fun v1 m => B_X9_takesA_5 s_X9_takesO s_X9_takesP s_X9_takesS s_X9_takesB s_X9_takesA s_X9_takesE (f_X9_takesA_5 s_X9_takesO s_X9_takesP s_X9_takesS s_X9_takesB s_X9_takesA s_X9_takesE n) v1 m
theorem Sf_X9_takesA_5 {g : GC} {nn d : Nat} {x : MX} {s_X9_takesO : MM → Option (Int32 × MM)} {s_X9_takesP : MM → Option (Int32 × MM)} {s_X9_takesS : MM → Option (Int32 × MM)} {s_X9_takesB : MM → Option (Int32 × MM)} {s_X9_takesA : MM → Option (Int32 × MM)} {s_X9_takesE : MM → Option (Int32 × MM)} (hd : nn + 4 ≤ d) (hs_s_X9_takesO : ∀ (d : Nat), nn + 3 ≤ d → ∀  (m : MM) (r : Int32) (z : MM), s_X9_takesO m = some (r, z) → JC g m_X9_takesO d 0 0 [.ref 80] (ST x m) (EQ (some (.int r)) (ST x z))) (hs_s_X9_takesP : ∀ (d : Nat), nn + 3 ≤ d → ∀  (m : MM) (r : Int32) (z : MM), s_X9_takesP m = some (r, z) → JC g m_X9_takesP d 0 0 [.ref 80] (ST x m) (EQ (some (.int r)) (ST x z))) (hs_s_X9_takesS : ∀ (d : Nat), nn + 3 ≤ d → ∀  (m : MM) (r : Int32) (z : MM), s_X9_takesS m = some (r, z) → JC g m_X9_takesS d 0 0 [.ref 80] (ST x m) (EQ (some (.int r)) (ST x z))) (hs_s_X9_takesB : ∀ (d : Nat), nn + 3 ≤ d → ∀  (m : MM) (r : Int32) (z : MM), s_X9_takesB m = some (r, z) → JC g m_X9_takesB d 0 0 [.ref 80] (ST x m) (EQ (some (.int r)) (ST x z))) (hs_s_X9_takesA : ∀ (d : Nat), nn + 3 ≤ d → ∀  (m : MM) (r : Int32) (z : MM), s_X9_takesA m = some (r, z) → JC g m_X9_takesA d 0 0 [.ref 80] (ST x m) (EQ (some (.int r)) (ST x z))) (hs_s_X9_takesE : ∀ (d : Nat), nn + 3 ≤ d → ∀  (m : MM) (r : Int32) (z : MM), s_X9_takesE m = some (r, z) → JC g m_X9_takesE d 0 0 [.ref 80] (ST x m) (EQ (some (.int r)) (ST x z))) : ∀ (n : Nat) (v1 : Int32) (m : MM) (r : Int32) (z : MM), f_X9_takesA_5 s_X9_takesO s_X9_takesP s_X9_takesS s_X9_takesB s_X9_takesA s_X9_takesE n v1 m = some (r, z) → J g m_X9_takesA d 0 0 5 [(0, .ref 80), (1, .int v1)] [] (ST x m) 0 0 (EQ (some (.int r)) (ST x z)) := by
  intro n
  induction n with
  | zero => intro v1 m r z  hF; exact absurd hF (fun q => by cases q)
  | succ n ih =>
    intro v1 m r z  hF
    exact SB_X9_takesA_5 hd hs_s_X9_takesO hs_s_X9_takesP hs_s_X9_takesS hs_s_X9_takesB hs_s_X9_takesA hs_s_X9_takesE (fun v1 m r z  hF => ih v1 m r z  hF) hF
def R_X9_takesA (s_X9_takesO : MM → Option (Int32 × MM)) (s_X9_takesP : MM → Option (Int32 × MM)) (s_X9_takesS : MM → Option (Int32 × MM)) (s_X9_takesB : MM → Option (Int32 × MM)) (s_X9_takesA : MM → Option (Int32 × MM)) (s_X9_takesE : MM → Option (Int32 × MM)) (m : MM) : Option (Int32 × MM) :=
  ob2 (s_X9_takesB m) (fun r1 m2 =>
  f_X9_takesA_5 s_X9_takesO s_X9_takesP s_X9_takesS s_X9_takesB s_X9_takesA s_X9_takesE LF r1 m2)
theorem SR_X9_takesA {g : GC} {nn d : Nat} {s_X9_takesO : MM → Option (Int32 × MM)} {s_X9_takesP : MM → Option (Int32 × MM)} {s_X9_takesS : MM → Option (Int32 × MM)} {s_X9_takesB : MM → Option (Int32 × MM)} {s_X9_takesA : MM → Option (Int32 × MM)} {s_X9_takesE : MM → Option (Int32 × MM)}  {x : MX} {m : MM} {r : Int32} {z : MM} (hd : nn + 4 ≤ d) (hs_s_X9_takesO : ∀ (d : Nat), nn + 3 ≤ d → ∀  (m : MM) (r : Int32) (z : MM), s_X9_takesO m = some (r, z) → JC g m_X9_takesO d 0 0 [.ref 80] (ST x m) (EQ (some (.int r)) (ST x z))) (hs_s_X9_takesP : ∀ (d : Nat), nn + 3 ≤ d → ∀  (m : MM) (r : Int32) (z : MM), s_X9_takesP m = some (r, z) → JC g m_X9_takesP d 0 0 [.ref 80] (ST x m) (EQ (some (.int r)) (ST x z))) (hs_s_X9_takesS : ∀ (d : Nat), nn + 3 ≤ d → ∀  (m : MM) (r : Int32) (z : MM), s_X9_takesS m = some (r, z) → JC g m_X9_takesS d 0 0 [.ref 80] (ST x m) (EQ (some (.int r)) (ST x z))) (hs_s_X9_takesB : ∀ (d : Nat), nn + 3 ≤ d → ∀  (m : MM) (r : Int32) (z : MM), s_X9_takesB m = some (r, z) → JC g m_X9_takesB d 0 0 [.ref 80] (ST x m) (EQ (some (.int r)) (ST x z))) (hs_s_X9_takesA : ∀ (d : Nat), nn + 3 ≤ d → ∀  (m : MM) (r : Int32) (z : MM), s_X9_takesA m = some (r, z) → JC g m_X9_takesA d 0 0 [.ref 80] (ST x m) (EQ (some (.int r)) (ST x z))) (hs_s_X9_takesE : ∀ (d : Nat), nn + 3 ≤ d → ∀  (m : MM) (r : Int32) (z : MM), s_X9_takesE m = some (r, z) → JC g m_X9_takesE d 0 0 [.ref 80] (ST x m) (EQ (some (.int r)) (ST x z))) 
  (hF : R_X9_takesA s_X9_takesO s_X9_takesP s_X9_takesS s_X9_takesB s_X9_takesA s_X9_takesE m = some (r, z)) : JC g m_X9_takesA d 0 0 [.ref 80] (ST x m) (EQ (some (.int r)) (ST x z)) := by
  refine JC.of (by decide +kernel) (Nat.le_of_ble_eq_true rfl) ?_
  change J g m_X9_takesA d 0 0 0 [(0, .ref 80)] [] (ST x m) 0 0 (EQ (some (.int r)) (ST x z))
  unfold R_X9_takesA at hF
  refine J_aload_n (j := 0) dX9_takesA_0 rfl rfl ?_
  obtain ⟨r1, m2, h3, hF⟩ := ob2_some hF
  refine JM_callVi (As := []) (S := []) lkV_WithOneHandModel_244_X9_takesB rfl (by decide) dX9_takesA_1 c_80 (hs_s_X9_takesB (d - 1) (by omega) _ _ _ h3) (by omega) rfl rfl (Nat.le_of_ble_eq_true rfl) rfl ?_
  refine J_istore_n (L' := [(1, .int r1), (0, .ref 80)]) dX9_takesA_4 rfl (by decide) rfl ?_
  refine J_sub [1, 0] rfl ?_
  exact Sf_X9_takesA_5 hd hs_s_X9_takesO hs_s_X9_takesP hs_s_X9_takesS hs_s_X9_takesB hs_s_X9_takesA hs_s_X9_takesE _ _ _ _ _ hF
def B_X9_takesE_33 (s_X9_takesO : MM → Option (Int32 × MM)) (s_X9_takesP : MM → Option (Int32 × MM)) (s_X9_takesS : MM → Option (Int32 × MM)) (s_X9_takesB : MM → Option (Int32 × MM)) (s_X9_takesA : MM → Option (Int32 × MM)) (s_X9_takesE : MM → Option (Int32 × MM)) (K5 : Int32 → MM → Option (Int32 × MM)) (t0 : Int32) (m : MM) : Option (Int32 × MM) :=
  K5 (f_X9_one t0) m
theorem SB_X9_takesE_33 {g : GC} {nn d : Nat} {s_X9_takesO : MM → Option (Int32 × MM)} {s_X9_takesP : MM → Option (Int32 × MM)} {s_X9_takesS : MM → Option (Int32 × MM)} {s_X9_takesB : MM → Option (Int32 × MM)} {s_X9_takesA : MM → Option (Int32 × MM)} {s_X9_takesE : MM → Option (Int32 × MM)} {K5 : Int32 → MM → Option (Int32 × MM)} {t0 : Int32} {x : MX} {m : MM} {r : Int32} {z : MM} (hd : nn + 4 ≤ d) (hs_s_X9_takesO : ∀ (d : Nat), nn + 3 ≤ d → ∀  (m : MM) (r : Int32) (z : MM), s_X9_takesO m = some (r, z) → JC g m_X9_takesO d 0 0 [.ref 80] (ST x m) (EQ (some (.int r)) (ST x z))) (hs_s_X9_takesP : ∀ (d : Nat), nn + 3 ≤ d → ∀  (m : MM) (r : Int32) (z : MM), s_X9_takesP m = some (r, z) → JC g m_X9_takesP d 0 0 [.ref 80] (ST x m) (EQ (some (.int r)) (ST x z))) (hs_s_X9_takesS : ∀ (d : Nat), nn + 3 ≤ d → ∀  (m : MM) (r : Int32) (z : MM), s_X9_takesS m = some (r, z) → JC g m_X9_takesS d 0 0 [.ref 80] (ST x m) (EQ (some (.int r)) (ST x z))) (hs_s_X9_takesB : ∀ (d : Nat), nn + 3 ≤ d → ∀  (m : MM) (r : Int32) (z : MM), s_X9_takesB m = some (r, z) → JC g m_X9_takesB d 0 0 [.ref 80] (ST x m) (EQ (some (.int r)) (ST x z))) (hs_s_X9_takesA : ∀ (d : Nat), nn + 3 ≤ d → ∀  (m : MM) (r : Int32) (z : MM), s_X9_takesA m = some (r, z) → JC g m_X9_takesA d 0 0 [.ref 80] (ST x m) (EQ (some (.int r)) (ST x z))) (hs_s_X9_takesE : ∀ (d : Nat), nn + 3 ≤ d → ∀  (m : MM) (r : Int32) (z : MM), s_X9_takesE m = some (r, z) → JC g m_X9_takesE d 0 0 [.ref 80] (ST x m) (EQ (some (.int r)) (ST x z))) (hK5 : ∀ (v1 : Int32) (m : MM) (r : Int32) (z : MM), K5 v1 m = some (r, z) → J g m_X9_takesE d 0 0 5 [(0, .ref 80), (1, .int v1)] [] (ST x m) 0 0 (EQ (some (.int r)) (ST x z)))
  (hF : B_X9_takesE_33 s_X9_takesO s_X9_takesP s_X9_takesS s_X9_takesB s_X9_takesA s_X9_takesE K5 t0 m = some (r, z)) : J g m_X9_takesE d 0 0 33 [(0, .ref 80)] [.int t0, .ref 80] (ST x m) 0 0 (EQ (some (.int r)) (ST x z)) := by
  unfold B_X9_takesE_33 at hF
  refine JM_callVi (As := [.int t0]) (S := []) lkV_WithOneHandModel_228_X9_one rfl (by decide) dX9_takesE_33 c_80 (S_X9_one (by omega) rfl) (by omega) rfl rfl (Nat.le_of_ble_eq_true rfl) rfl ?_
  refine J_istore_n (L' := [(1, .int (f_X9_one t0)), (0, .ref 80)]) dX9_takesE_36 rfl (by decide) rfl ?_
  refine J_goto (tgt := 5) dX9_takesE_37 (by decide) ?_
  refine J_sub [1, 0] rfl ?_
  exact hK5 _ _ _ _  hF
def B_X9_takesE_28 (s_X9_takesO : MM → Option (Int32 × MM)) (s_X9_takesP : MM → Option (Int32 × MM)) (s_X9_takesS : MM → Option (Int32 × MM)) (s_X9_takesB : MM → Option (Int32 × MM)) (s_X9_takesA : MM → Option (Int32 × MM)) (s_X9_takesE : MM → Option (Int32 × MM)) (K5 : Int32 → MM → Option (Int32 × MM)) (m : MM) : Option (Int32 × MM) :=
  B_X9_takesE_33 s_X9_takesO s_X9_takesP s_X9_takesS s_X9_takesB s_X9_takesA s_X9_takesE K5 1 m
theorem SB_X9_takesE_28 {g : GC} {nn d : Nat} {s_X9_takesO : MM → Option (Int32 × MM)} {s_X9_takesP : MM → Option (Int32 × MM)} {s_X9_takesS : MM → Option (Int32 × MM)} {s_X9_takesB : MM → Option (Int32 × MM)} {s_X9_takesA : MM → Option (Int32 × MM)} {s_X9_takesE : MM → Option (Int32 × MM)} {K5 : Int32 → MM → Option (Int32 × MM)} {x : MX} {m : MM} {r : Int32} {z : MM} (hd : nn + 4 ≤ d) (hs_s_X9_takesO : ∀ (d : Nat), nn + 3 ≤ d → ∀  (m : MM) (r : Int32) (z : MM), s_X9_takesO m = some (r, z) → JC g m_X9_takesO d 0 0 [.ref 80] (ST x m) (EQ (some (.int r)) (ST x z))) (hs_s_X9_takesP : ∀ (d : Nat), nn + 3 ≤ d → ∀  (m : MM) (r : Int32) (z : MM), s_X9_takesP m = some (r, z) → JC g m_X9_takesP d 0 0 [.ref 80] (ST x m) (EQ (some (.int r)) (ST x z))) (hs_s_X9_takesS : ∀ (d : Nat), nn + 3 ≤ d → ∀  (m : MM) (r : Int32) (z : MM), s_X9_takesS m = some (r, z) → JC g m_X9_takesS d 0 0 [.ref 80] (ST x m) (EQ (some (.int r)) (ST x z))) (hs_s_X9_takesB : ∀ (d : Nat), nn + 3 ≤ d → ∀  (m : MM) (r : Int32) (z : MM), s_X9_takesB m = some (r, z) → JC g m_X9_takesB d 0 0 [.ref 80] (ST x m) (EQ (some (.int r)) (ST x z))) (hs_s_X9_takesA : ∀ (d : Nat), nn + 3 ≤ d → ∀  (m : MM) (r : Int32) (z : MM), s_X9_takesA m = some (r, z) → JC g m_X9_takesA d 0 0 [.ref 80] (ST x m) (EQ (some (.int r)) (ST x z))) (hs_s_X9_takesE : ∀ (d : Nat), nn + 3 ≤ d → ∀  (m : MM) (r : Int32) (z : MM), s_X9_takesE m = some (r, z) → JC g m_X9_takesE d 0 0 [.ref 80] (ST x m) (EQ (some (.int r)) (ST x z))) (hK5 : ∀ (v1 : Int32) (m : MM) (r : Int32) (z : MM), K5 v1 m = some (r, z) → J g m_X9_takesE d 0 0 5 [(0, .ref 80), (1, .int v1)] [] (ST x m) 0 0 (EQ (some (.int r)) (ST x z)))
  (hF : B_X9_takesE_28 s_X9_takesO s_X9_takesP s_X9_takesS s_X9_takesB s_X9_takesA s_X9_takesE K5 m = some (r, z)) : J g m_X9_takesE d 0 0 28 [(0, .ref 80)] [.ref 80] (ST x m) 0 0 (EQ (some (.int r)) (ST x z)) := by
  unfold B_X9_takesE_28 at hF
  refine J_iconst (v := 1) dX9_takesE_28 (by decide) ?_
  refine J_goto (tgt := 33) dX9_takesE_29 (by decide) ?_
  exact SB_X9_takesE_33 hd hs_s_X9_takesO hs_s_X9_takesP hs_s_X9_takesS hs_s_X9_takesB hs_s_X9_takesA hs_s_X9_takesE hK5 hF
def B_X9_takesE_5 (s_X9_takesO : MM → Option (Int32 × MM)) (s_X9_takesP : MM → Option (Int32 × MM)) (s_X9_takesS : MM → Option (Int32 × MM)) (s_X9_takesB : MM → Option (Int32 × MM)) (s_X9_takesA : MM → Option (Int32 × MM)) (s_X9_takesE : MM → Option (Int32 × MM)) (K5 : Int32 → MM → Option (Int32 × MM)) (v1 : Int32) (m : MM) : Option (Int32 × MM) :=
  ob2 (f_X9_isSeen 124 m) (fun r4 m5 =>
  if r4 = true then
  ob2 (s_X9_takesA m5) (fun r8 m9 =>
  if v1 = 0 then
  if r8 = 0 then
  B_X9_takesE_33 s_X9_takesO s_X9_takesP s_X9_takesS s_X9_takesB s_X9_takesA s_X9_takesE K5 0 m9
  else
  B_X9_takesE_28 s_X9_takesO s_X9_takesP s_X9_takesS s_X9_takesB s_X9_takesA s_X9_takesE K5 m9
  else
  B_X9_takesE_28 s_X9_takesO s_X9_takesP s_X9_takesS s_X9_takesB s_X9_takesA s_X9_takesE K5 m9)
  else
  some (v1, m5))
theorem SB_X9_takesE_5 {g : GC} {nn d : Nat} {s_X9_takesO : MM → Option (Int32 × MM)} {s_X9_takesP : MM → Option (Int32 × MM)} {s_X9_takesS : MM → Option (Int32 × MM)} {s_X9_takesB : MM → Option (Int32 × MM)} {s_X9_takesA : MM → Option (Int32 × MM)} {s_X9_takesE : MM → Option (Int32 × MM)} {K5 : Int32 → MM → Option (Int32 × MM)} {v1 : Int32} {x : MX} {m : MM} {r : Int32} {z : MM} (hd : nn + 4 ≤ d) (hs_s_X9_takesO : ∀ (d : Nat), nn + 3 ≤ d → ∀  (m : MM) (r : Int32) (z : MM), s_X9_takesO m = some (r, z) → JC g m_X9_takesO d 0 0 [.ref 80] (ST x m) (EQ (some (.int r)) (ST x z))) (hs_s_X9_takesP : ∀ (d : Nat), nn + 3 ≤ d → ∀  (m : MM) (r : Int32) (z : MM), s_X9_takesP m = some (r, z) → JC g m_X9_takesP d 0 0 [.ref 80] (ST x m) (EQ (some (.int r)) (ST x z))) (hs_s_X9_takesS : ∀ (d : Nat), nn + 3 ≤ d → ∀  (m : MM) (r : Int32) (z : MM), s_X9_takesS m = some (r, z) → JC g m_X9_takesS d 0 0 [.ref 80] (ST x m) (EQ (some (.int r)) (ST x z))) (hs_s_X9_takesB : ∀ (d : Nat), nn + 3 ≤ d → ∀  (m : MM) (r : Int32) (z : MM), s_X9_takesB m = some (r, z) → JC g m_X9_takesB d 0 0 [.ref 80] (ST x m) (EQ (some (.int r)) (ST x z))) (hs_s_X9_takesA : ∀ (d : Nat), nn + 3 ≤ d → ∀  (m : MM) (r : Int32) (z : MM), s_X9_takesA m = some (r, z) → JC g m_X9_takesA d 0 0 [.ref 80] (ST x m) (EQ (some (.int r)) (ST x z))) (hs_s_X9_takesE : ∀ (d : Nat), nn + 3 ≤ d → ∀  (m : MM) (r : Int32) (z : MM), s_X9_takesE m = some (r, z) → JC g m_X9_takesE d 0 0 [.ref 80] (ST x m) (EQ (some (.int r)) (ST x z))) (hK5 : ∀ (v1 : Int32) (m : MM) (r : Int32) (z : MM), K5 v1 m = some (r, z) → J g m_X9_takesE d 0 0 5 [(0, .ref 80), (1, .int v1)] [] (ST x m) 0 0 (EQ (some (.int r)) (ST x z)))
  (hF : B_X9_takesE_5 s_X9_takesO s_X9_takesP s_X9_takesS s_X9_takesB s_X9_takesA s_X9_takesE K5 v1 m = some (r, z)) : J g m_X9_takesE d 0 0 5 [(0, .ref 80), (1, .int v1)] [] (ST x m) 0 0 (EQ (some (.int r)) (ST x z)) := by
  unfold B_X9_takesE_5 at hF
  refine J_aload_n (j := 0) dX9_takesE_5 rfl rfl ?_
  refine J_bipush (v := 124) dX9_takesE_6 (by decide) ?_
  obtain ⟨r4, m5, h6, hF⟩ := ob2_some hF
  refine JM_callVi (As := [.int 124]) (S := []) lkV_WithOneHandModel_235_X9_isSeen rfl (by decide) dX9_takesE_8 c_80 (S_X9_isSeen (by omega) h6) (by omega) rfl rfl (Nat.le_of_ble_eq_true rfl) rfl ?_
  refine J_ifb_eq (tgt := 40) dX9_takesE_11 (by decide) (fun q7 => ?_) (fun q7 => ?_)
  · rw [if_neg q7] at hF
    refine J_iload_n (j := 1) dX9_takesE_40 rfl rfl ?_
    obtain ⟨e_r, e_z⟩ := someP hF
    subst e_r
    subst e_z
    exact J_ireturn rfl rfl dX9_takesE_41 ⟨rfl, rfl⟩
  · rw [if_pos q7] at hF
    refine J_aload_n (j := 0) dX9_takesE_14 rfl rfl ?_
    obtain ⟨r8, m9, h10, hF⟩ := ob2_some hF
    refine JM_callVi (As := []) (S := []) lkV_WithOneHandModel_247_X9_takesA rfl (by decide) dX9_takesE_15 c_80 (hs_s_X9_takesA (d - 1) (by omega) _ _ _ h10) (by omega) rfl rfl (Nat.le_of_ble_eq_true rfl) rfl ?_
    refine J_istore_n (L' := [(2, .int r8), (0, .ref 80), (1, .int v1)]) dX9_takesE_18 rfl (by decide) rfl ?_
    refine J_aload_n (j := 1) dX9_takesE_19 rfl rfl ?_
    refine J_iload_n (j := 2) dX9_takesE_20 rfl rfl ?_
    refine J_if_ne (tgt := 28) dX9_takesE_21 (by decide) (fun q11 => ?_) (fun q11 => ?_)
    · rw [if_neg q11] at hF
      refine J_sub [1] rfl ?_
      exact SB_X9_takesE_28 hd hs_s_X9_takesO hs_s_X9_takesP hs_s_X9_takesS hs_s_X9_takesB hs_s_X9_takesA hs_s_X9_takesE hK5 hF
    · rw [if_pos q11] at hF
      refine J_iload_n (j := 0) dX9_takesE_24 rfl rfl ?_
      refine J_if_eq (tgt := 32) dX9_takesE_25 (by decide) (fun q12 => ?_) (fun q12 => ?_)
      · rw [if_pos q12] at hF
        refine J_iconst (v := 0) dX9_takesE_32 (by decide) ?_
        refine J_sub [1] rfl ?_
        exact SB_X9_takesE_33 hd hs_s_X9_takesO hs_s_X9_takesP hs_s_X9_takesS hs_s_X9_takesB hs_s_X9_takesA hs_s_X9_takesE hK5 hF
      · rw [if_neg q12] at hF
        refine J_sub [1] rfl ?_
        exact SB_X9_takesE_28 hd hs_s_X9_takesO hs_s_X9_takesP hs_s_X9_takesS hs_s_X9_takesB hs_s_X9_takesA hs_s_X9_takesE hK5 hF
def f_X9_takesE_5 (s_X9_takesO : MM → Option (Int32 × MM)) (s_X9_takesP : MM → Option (Int32 × MM)) (s_X9_takesS : MM → Option (Int32 × MM)) (s_X9_takesB : MM → Option (Int32 × MM)) (s_X9_takesA : MM → Option (Int32 × MM)) (s_X9_takesE : MM → Option (Int32 × MM)) : Nat → Int32 → MM → Option (Int32 × MM)
  | 0 => fun _ _ => none
  | n + 1 => fun v1 m => B_X9_takesE_5 s_X9_takesO s_X9_takesP s_X9_takesS s_X9_takesB s_X9_takesA s_X9_takesE (f_X9_takesE_5 s_X9_takesO s_X9_takesP s_X9_takesS s_X9_takesB s_X9_takesA s_X9_takesE n) v1 m
theorem Sf_X9_takesE_5 {g : GC} {nn d : Nat} {x : MX} {s_X9_takesO : MM → Option (Int32 × MM)} {s_X9_takesP : MM → Option (Int32 × MM)} {s_X9_takesS : MM → Option (Int32 × MM)} {s_X9_takesB : MM → Option (Int32 × MM)} {s_X9_takesA : MM → Option (Int32 × MM)} {s_X9_takesE : MM → Option (Int32 × MM)} (hd : nn + 4 ≤ d) (hs_s_X9_takesO : ∀ (d : Nat), nn + 3 ≤ d → ∀  (m : MM) (r : Int32) (z : MM), s_X9_takesO m = some (r, z) → JC g m_X9_takesO d 0 0 [.ref 80] (ST x m) (EQ (some (.int r)) (ST x z))) (hs_s_X9_takesP : ∀ (d : Nat), nn + 3 ≤ d → ∀  (m : MM) (r : Int32) (z : MM), s_X9_takesP m = some (r, z) → JC g m_X9_takesP d 0 0 [.ref 80] (ST x m) (EQ (some (.int r)) (ST x z))) (hs_s_X9_takesS : ∀ (d : Nat), nn + 3 ≤ d → ∀  (m : MM) (r : Int32) (z : MM), s_X9_takesS m = some (r, z) → JC g m_X9_takesS d 0 0 [.ref 80] (ST x m) (EQ (some (.int r)) (ST x z))) (hs_s_X9_takesB : ∀ (d : Nat), nn + 3 ≤ d → ∀  (m : MM) (r : Int32) (z : MM), s_X9_takesB m = some (r, z) → JC g m_X9_takesB d 0 0 [.ref 80] (ST x m) (EQ (some (.int r)) (ST x z))) (hs_s_X9_takesA : ∀ (d : Nat), nn + 3 ≤ d → ∀  (m : MM) (r : Int32) (z : MM), s_X9_takesA m = some (r, z) → JC g m_X9_takesA d 0 0 [.ref 80] (ST x m) (EQ (some (.int r)) (ST x z))) (hs_s_X9_takesE : ∀ (d : Nat), nn + 3 ≤ d → ∀  (m : MM) (r : Int32) (z : MM), s_X9_takesE m = some (r, z) → JC g m_X9_takesE d 0 0 [.ref 80] (ST x m) (EQ (some (.int r)) (ST x z))) : ∀ (n : Nat) (v1 : Int32) (m : MM) (r : Int32) (z : MM), f_X9_takesE_5 s_X9_takesO s_X9_takesP s_X9_takesS s_X9_takesB s_X9_takesA s_X9_takesE n v1 m = some (r, z) → J g m_X9_takesE d 0 0 5 [(0, .ref 80), (1, .int v1)] [] (ST x m) 0 0 (EQ (some (.int r)) (ST x z)) := by
  intro n
  induction n with
  | zero => intro v1 m r z  hF; exact absurd hF (fun q => by cases q)
  | succ n ih =>
    intro v1 m r z  hF
    exact SB_X9_takesE_5 hd hs_s_X9_takesO hs_s_X9_takesP hs_s_X9_takesS hs_s_X9_takesB hs_s_X9_takesA hs_s_X9_takesE (fun v1 m r z  hF => ih v1 m r z  hF) hF
def R_X9_takesE (s_X9_takesO : MM → Option (Int32 × MM)) (s_X9_takesP : MM → Option (Int32 × MM)) (s_X9_takesS : MM → Option (Int32 × MM)) (s_X9_takesB : MM → Option (Int32 × MM)) (s_X9_takesA : MM → Option (Int32 × MM)) (s_X9_takesE : MM → Option (Int32 × MM)) (m : MM) : Option (Int32 × MM) :=
  ob2 (s_X9_takesA m) (fun r1 m2 =>
  f_X9_takesE_5 s_X9_takesO s_X9_takesP s_X9_takesS s_X9_takesB s_X9_takesA s_X9_takesE LF r1 m2)
theorem SR_X9_takesE {g : GC} {nn d : Nat} {s_X9_takesO : MM → Option (Int32 × MM)} {s_X9_takesP : MM → Option (Int32 × MM)} {s_X9_takesS : MM → Option (Int32 × MM)} {s_X9_takesB : MM → Option (Int32 × MM)} {s_X9_takesA : MM → Option (Int32 × MM)} {s_X9_takesE : MM → Option (Int32 × MM)}  {x : MX} {m : MM} {r : Int32} {z : MM} (hd : nn + 4 ≤ d) (hs_s_X9_takesO : ∀ (d : Nat), nn + 3 ≤ d → ∀  (m : MM) (r : Int32) (z : MM), s_X9_takesO m = some (r, z) → JC g m_X9_takesO d 0 0 [.ref 80] (ST x m) (EQ (some (.int r)) (ST x z))) (hs_s_X9_takesP : ∀ (d : Nat), nn + 3 ≤ d → ∀  (m : MM) (r : Int32) (z : MM), s_X9_takesP m = some (r, z) → JC g m_X9_takesP d 0 0 [.ref 80] (ST x m) (EQ (some (.int r)) (ST x z))) (hs_s_X9_takesS : ∀ (d : Nat), nn + 3 ≤ d → ∀  (m : MM) (r : Int32) (z : MM), s_X9_takesS m = some (r, z) → JC g m_X9_takesS d 0 0 [.ref 80] (ST x m) (EQ (some (.int r)) (ST x z))) (hs_s_X9_takesB : ∀ (d : Nat), nn + 3 ≤ d → ∀  (m : MM) (r : Int32) (z : MM), s_X9_takesB m = some (r, z) → JC g m_X9_takesB d 0 0 [.ref 80] (ST x m) (EQ (some (.int r)) (ST x z))) (hs_s_X9_takesA : ∀ (d : Nat), nn + 3 ≤ d → ∀  (m : MM) (r : Int32) (z : MM), s_X9_takesA m = some (r, z) → JC g m_X9_takesA d 0 0 [.ref 80] (ST x m) (EQ (some (.int r)) (ST x z))) (hs_s_X9_takesE : ∀ (d : Nat), nn + 3 ≤ d → ∀  (m : MM) (r : Int32) (z : MM), s_X9_takesE m = some (r, z) → JC g m_X9_takesE d 0 0 [.ref 80] (ST x m) (EQ (some (.int r)) (ST x z))) 
  (hF : R_X9_takesE s_X9_takesO s_X9_takesP s_X9_takesS s_X9_takesB s_X9_takesA s_X9_takesE m = some (r, z)) : JC g m_X9_takesE d 0 0 [.ref 80] (ST x m) (EQ (some (.int r)) (ST x z)) := by
  refine JC.of (by decide +kernel) (Nat.le_of_ble_eq_true rfl) ?_
  change J g m_X9_takesE d 0 0 0 [(0, .ref 80)] [] (ST x m) 0 0 (EQ (some (.int r)) (ST x z))
  unfold R_X9_takesE at hF
  refine J_aload_n (j := 0) dX9_takesE_0 rfl rfl ?_
  obtain ⟨r1, m2, h3, hF⟩ := ob2_some hF
  refine JM_callVi (As := []) (S := []) lkV_WithOneHandModel_247_X9_takesA rfl (by decide) dX9_takesE_1 c_80 (hs_s_X9_takesA (d - 1) (by omega) _ _ _ h3) (by omega) rfl rfl (Nat.le_of_ble_eq_true rfl) rfl ?_
  refine J_istore_n (L' := [(1, .int r1), (0, .ref 80)]) dX9_takesE_4 rfl (by decide) rfl ?_
  refine J_sub [1, 0] rfl ?_
  exact Sf_X9_takesE_5 hd hs_s_X9_takesO hs_s_X9_takesP hs_s_X9_takesS hs_s_X9_takesB hs_s_X9_takesA hs_s_X9_takesE _ _ _ _ _ hF
def G_X9_takesO : Nat → (MM → Option (Int32 × MM)) × (MM → Option (Int32 × MM)) × (MM → Option (Int32 × MM)) × (MM → Option (Int32 × MM)) × (MM → Option (Int32 × MM)) × (MM → Option (Int32 × MM))
  | 0 => (fun _ => none, fun _ => none, fun _ => none, fun _ => none, fun _ => none, fun _ => none)
  | n + 1 => (R_X9_takesO (G_X9_takesO n).1 (G_X9_takesO n).2.1 (G_X9_takesO n).2.2.1 (G_X9_takesO n).2.2.2.1 (G_X9_takesO n).2.2.2.2.1 (G_X9_takesO n).2.2.2.2.2, R_X9_takesP (G_X9_takesO n).1 (G_X9_takesO n).2.1 (G_X9_takesO n).2.2.1 (G_X9_takesO n).2.2.2.1 (G_X9_takesO n).2.2.2.2.1 (G_X9_takesO n).2.2.2.2.2, R_X9_takesS (G_X9_takesO n).1 (G_X9_takesO n).2.1 (G_X9_takesO n).2.2.1 (G_X9_takesO n).2.2.2.1 (G_X9_takesO n).2.2.2.2.1 (G_X9_takesO n).2.2.2.2.2, R_X9_takesB (G_X9_takesO n).1 (G_X9_takesO n).2.1 (G_X9_takesO n).2.2.1 (G_X9_takesO n).2.2.2.1 (G_X9_takesO n).2.2.2.2.1 (G_X9_takesO n).2.2.2.2.2, R_X9_takesA (G_X9_takesO n).1 (G_X9_takesO n).2.1 (G_X9_takesO n).2.2.1 (G_X9_takesO n).2.2.2.1 (G_X9_takesO n).2.2.2.2.1 (G_X9_takesO n).2.2.2.2.2, R_X9_takesE (G_X9_takesO n).1 (G_X9_takesO n).2.1 (G_X9_takesO n).2.2.1 (G_X9_takesO n).2.2.2.1 (G_X9_takesO n).2.2.2.2.1 (G_X9_takesO n).2.2.2.2.2)
theorem SG_X9_takesO {g : GC} {x : MX} : ∀ n : Nat, (∀ (d : Nat), n + 3 ≤ d → ∀  (m : MM) (r : Int32) (z : MM), (G_X9_takesO n).1 m = some (r, z) → JC g m_X9_takesO d 0 0 [.ref 80] (ST x m) (EQ (some (.int r)) (ST x z))) ∧ (∀ (d : Nat), n + 3 ≤ d → ∀  (m : MM) (r : Int32) (z : MM), (G_X9_takesO n).2.1 m = some (r, z) → JC g m_X9_takesP d 0 0 [.ref 80] (ST x m) (EQ (some (.int r)) (ST x z))) ∧ (∀ (d : Nat), n + 3 ≤ d → ∀  (m : MM) (r : Int32) (z : MM), (G_X9_takesO n).2.2.1 m = some (r, z) → JC g m_X9_takesS d 0 0 [.ref 80] (ST x m) (EQ (some (.int r)) (ST x z))) ∧ (∀ (d : Nat), n + 3 ≤ d → ∀  (m : MM) (r : Int32) (z : MM), (G_X9_takesO n).2.2.2.1 m = some (r, z) → JC g m_X9_takesB d 0 0 [.ref 80] (ST x m) (EQ (some (.int r)) (ST x z))) ∧ (∀ (d : Nat), n + 3 ≤ d → ∀  (m : MM) (r : Int32) (z : MM), (G_X9_takesO n).2.2.2.2.1 m = some (r, z) → JC g m_X9_takesA d 0 0 [.ref 80] (ST x m) (EQ (some (.int r)) (ST x z))) ∧ (∀ (d : Nat), n + 3 ≤ d → ∀  (m : MM) (r : Int32) (z : MM), (G_X9_takesO n).2.2.2.2.2 m = some (r, z) → JC g m_X9_takesE d 0 0 [.ref 80] (ST x m) (EQ (some (.int r)) (ST x z))) := by
  intro n
  induction n with
  | zero =>
    exact ⟨fun d hd _ _ _ hF => absurd hF (fun q => by cases q), fun d hd _ _ _ hF => absurd hF (fun q => by cases q), fun d hd _ _ _ hF => absurd hF (fun q => by cases q), fun d hd _ _ _ hF => absurd hF (fun q => by cases q), fun d hd _ _ _ hF => absurd hF (fun q => by cases q), fun d hd _ _ _ hF => absurd hF (fun q => by cases q)⟩
  | succ n ih =>
    exact ⟨fun d hd _ _ _  hF => SR_X9_takesO (nn := n) (by omega) ih.1 ih.2.1 ih.2.2.1 ih.2.2.2.1 ih.2.2.2.2.1 ih.2.2.2.2.2  hF, fun d hd _ _ _  hF => SR_X9_takesP (nn := n) (by omega) ih.1 ih.2.1 ih.2.2.1 ih.2.2.2.1 ih.2.2.2.2.1 ih.2.2.2.2.2  hF, fun d hd _ _ _  hF => SR_X9_takesS (nn := n) (by omega) ih.1 ih.2.1 ih.2.2.1 ih.2.2.2.1 ih.2.2.2.2.1 ih.2.2.2.2.2  hF, fun d hd _ _ _  hF => SR_X9_takesB (nn := n) (by omega) ih.1 ih.2.1 ih.2.2.1 ih.2.2.2.1 ih.2.2.2.2.1 ih.2.2.2.2.2  hF, fun d hd _ _ _  hF => SR_X9_takesA (nn := n) (by omega) ih.1 ih.2.1 ih.2.2.1 ih.2.2.2.1 ih.2.2.2.2.1 ih.2.2.2.2.2  hF, fun d hd _ _ _  hF => SR_X9_takesE (nn := n) (by omega) ih.1 ih.2.1 ih.2.2.1 ih.2.2.2.1 ih.2.2.2.2.1 ih.2.2.2.2.2  hF⟩
def f_X9_takesO (m : MM) : Option (Int32 × MM) := (G_X9_takesO RF).1 m
theorem S_X9_takesO {g : GC} {d : Nat}  {x : MX} {m : MM} {r : Int32} {z : MM} (hd : 103 ≤ d) 
  (hF : f_X9_takesO m = some (r, z)) : JC g m_X9_takesO d 0 0 [.ref 80] (ST x m) (EQ (some (.int r)) (ST x z)) := (SG_X9_takesO RF).1 d (by unfold RF; omega) _ _ _  hF
def f_X9_takesP (m : MM) : Option (Int32 × MM) := (G_X9_takesO RF).2.1 m
theorem S_X9_takesP {g : GC} {d : Nat}  {x : MX} {m : MM} {r : Int32} {z : MM} (hd : 103 ≤ d) 
  (hF : f_X9_takesP m = some (r, z)) : JC g m_X9_takesP d 0 0 [.ref 80] (ST x m) (EQ (some (.int r)) (ST x z)) := (SG_X9_takesO RF).2.1 d (by unfold RF; omega) _ _ _  hF
def f_X9_takesS (m : MM) : Option (Int32 × MM) := (G_X9_takesO RF).2.2.1 m
theorem S_X9_takesS {g : GC} {d : Nat}  {x : MX} {m : MM} {r : Int32} {z : MM} (hd : 103 ≤ d) 
  (hF : f_X9_takesS m = some (r, z)) : JC g m_X9_takesS d 0 0 [.ref 80] (ST x m) (EQ (some (.int r)) (ST x z)) := (SG_X9_takesO RF).2.2.1 d (by unfold RF; omega) _ _ _  hF
def f_X9_takesB (m : MM) : Option (Int32 × MM) := (G_X9_takesO RF).2.2.2.1 m
theorem S_X9_takesB {g : GC} {d : Nat}  {x : MX} {m : MM} {r : Int32} {z : MM} (hd : 103 ≤ d) 
  (hF : f_X9_takesB m = some (r, z)) : JC g m_X9_takesB d 0 0 [.ref 80] (ST x m) (EQ (some (.int r)) (ST x z)) := (SG_X9_takesO RF).2.2.2.1 d (by unfold RF; omega) _ _ _  hF
def f_X9_takesA (m : MM) : Option (Int32 × MM) := (G_X9_takesO RF).2.2.2.2.1 m
theorem S_X9_takesA {g : GC} {d : Nat}  {x : MX} {m : MM} {r : Int32} {z : MM} (hd : 103 ≤ d) 
  (hF : f_X9_takesA m = some (r, z)) : JC g m_X9_takesA d 0 0 [.ref 80] (ST x m) (EQ (some (.int r)) (ST x z)) := (SG_X9_takesO RF).2.2.2.2.1 d (by unfold RF; omega) _ _ _  hF
def f_X9_takesE (m : MM) : Option (Int32 × MM) := (G_X9_takesO RF).2.2.2.2.2 m
theorem S_X9_takesE {g : GC} {d : Nat}  {x : MX} {m : MM} {r : Int32} {z : MM} (hd : 103 ≤ d) 
  (hF : f_X9_takesE m = some (r, z)) : JC g m_X9_takesE d 0 0 [.ref 80] (ST x m) (EQ (some (.int r)) (ST x z)) := (SG_X9_takesO RF).2.2.2.2.2 d (by unfold RF; omega) _ _ _  hF
