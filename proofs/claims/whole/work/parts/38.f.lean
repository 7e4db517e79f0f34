def f_X8_keep (a1 : Int32) (a2 : Int32) (x : MX) : Option (Int32 × MX) :=
  if (f_X8_isShelf a1) = true then
  if a2 < (-1) then
  some ((-1), x)
  else
  if a2 < (xi x 51 2) then
  if 0 ≤ a2 then
  if inb a1 6 = true then
  ob (f_X6_holdHole (68 + 2 * ix a1) a2 x) (fun x6 =>
  some (1, x6))
  else none
  else
  if inb a1 6 = true then
  ob (f_X6_holdNothing (68 + 2 * ix a1) x) (fun x9 =>
  some (1, x9))
  else none
  else
  some ((-1), x)
  else
  some ((-1), x)
theorem S_X8_keep {g : GC} {d : Nat} {a1 : Int32} {a2 : Int32} {x : MX} {m : MM} {r : Int32} {z : MX} (hd : 2 ≤ d) 
  (hF : f_X8_keep a1 a2 x = some (r, z)) : JC g m_X8_keep d 0 0 [.ref 5, .int a1, .int a2] (ST x m) (EQ (some (.int r)) (ST z m)) := by
  refine JC.of (by decide +kernel) (Nat.le_of_ble_eq_true rfl) ?_
  change J g m_X8_keep d 0 0 0 [(0, .ref 5), (1, .int a1), (2, .int a2)] [] (ST x m) 0 0 (EQ (some (.int r)) (ST z m))
  unfold f_X8_keep at hF
  refine J_iload_n (j := 1) dX8_keep_0 rfl rfl ?_
  refine J_callSi (As := [.int a1]) (S := []) lkS_WithOneHand_91_X8_isShelf dX8_keep_1 (S_X8_isShelf (by omega) rfl) (by omega) rfl rfl (Nat.le_of_ble_eq_true rfl) rfl ?_
  refine J_ifb_eq (tgt := 23) dX8_keep_4 (by decide) (fun q1 => ?_) (fun q1 => ?_)
  · rw [if_neg q1] at hF
    refine J_iconst (v := (-1)) dX8_keep_23 (by decide) ?_
    obtain ⟨e_r, e_z⟩ := someP hF
    subst e_r
    subst e_z
    exact J_ireturn rfl rfl dX8_keep_24 ⟨rfl, rfl⟩
  · rw [if_pos q1] at hF
    refine J_iload_n (j := 2) dX8_keep_7 rfl rfl ?_
    refine J_iconst (v := (-1)) dX8_keep_8 (by decide) ?_
    refine J_icmp_lt (tgt := 23) dX8_keep_9 (by decide) (fun q2 => ?_) (fun q2 => ?_)
    · rw [if_pos q2] at hF
      refine J_iconst (v := (-1)) dX8_keep_23 (by decide) ?_
      obtain ⟨e_r, e_z⟩ := someP hF
      subst e_r
      subst e_z
      exact J_ireturn rfl rfl dX8_keep_24 ⟨rfl, rfl⟩
    · rw [if_neg q2] at hF
      refine J_iload_n (j := 2) dX8_keep_12 rfl rfl ?_
      refine J_aload_n (j := 0) dX8_keep_13 rfl rfl ?_
      refine JX_getR (r := 51) fl_WithOneHand_52_7 dX8_keep_14 c_5 rfl rfl ?_
      refine JX_getI fl_WithOneHand_286_2 dX8_keep_17 c_51 rfl ?_
      refine J_icmp_lt (tgt := 25) dX8_keep_20 (by decide) (fun q3 => ?_) (fun q3 => ?_)
      · rw [if_pos q3] at hF
        refine J_iload_n (j := 2) dX8_keep_25 rfl rfl ?_
        refine J_if_ge (tgt := 41) dX8_keep_26 (by decide) (fun q4 => ?_) (fun q4 => ?_)
        · rw [if_pos q4] at hF
          refine J_aload_n (j := 0) dX8_keep_41 rfl rfl ?_
          refine JX_getR (r := 54) fl_WithOneHand_58_7 dX8_keep_42 c_5 rfl rfl ?_
          refine J_iload_n (j := 1) dX8_keep_45 rfl rfl ?_
          obtain ⟨b5, hF⟩ := chk hF
          refine JX_aald (j := ix a1) (r := 68 + 2 * ix a1) (by decide) dX8_keep_46 c_54 (inb_vp b5) rfl (rw_54 _ (inb_lt b5)) ?_
          refine J_iload_n (j := 2) dX8_keep_47 rfl rfl ?_
          obtain ⟨x6, h7, hF⟩ := ob_some hF
          refine JX_callVv (As := [.int a2]) (S := []) lkV_WithOneHand_304_X6_holdHole rfl (by decide) dX8_keep_48 (c_sh (sh_of (inb_lt b5))) (S_X6_holdHole (by omega) (sh_of (inb_lt b5)) h7) (by omega) rfl rfl (Nat.le_of_ble_eq_true rfl) rfl ?_
          refine J_iconst (v := 1) dX8_keep_51 (by decide) ?_
          obtain ⟨e_r, e_z⟩ := someP hF
          subst e_r
          subst e_z
          exact J_ireturn rfl rfl dX8_keep_52 ⟨rfl, rfl⟩
        · rw [if_neg q4] at hF
          refine J_aload_n (j := 0) dX8_keep_29 rfl rfl ?_
          refine JX_getR (r := 54) fl_WithOneHand_58_7 dX8_keep_30 c_5 rfl rfl ?_
          refine J_iload_n (j := 1) dX8_keep_33 rfl rfl ?_
          obtain ⟨b8, hF⟩ := chk hF
          refine JX_aald (j := ix a1) (r := 68 + 2 * ix a1) (by decide) dX8_keep_34 c_54 (inb_vp b8) rfl (rw_54 _ (inb_lt b8)) ?_
          obtain ⟨x9, h10, hF⟩ := ob_some hF
          refine JX_callVv (As := []) (S := []) lkV_WithOneHand_301_X6_holdNothing rfl (by decide) dX8_keep_35 (c_sh (sh_of (inb_lt b8))) (S_X6_holdNothing (by omega) (sh_of (inb_lt b8)) h10) (by omega) rfl rfl (Nat.le_of_ble_eq_true rfl) rfl ?_
          refine J_goto (tgt := 51) dX8_keep_38 (by decide) ?_
          refine J_iconst (v := 1) dX8_keep_51 (by decide) ?_
          obtain ⟨e_r, e_z⟩ := someP hF
          subst e_r
          subst e_z
          exact J_ireturn rfl rfl dX8_keep_52 ⟨rfl, rfl⟩
      · rw [if_neg q3] at hF
        refine J_iconst (v := (-1)) dX8_keep_23 (by decide) ?_
        obtain ⟨e_r, e_z⟩ := someP hF
        subst e_r
        subst e_z
        exact J_ireturn rfl rfl dX8_keep_24 ⟨rfl, rfl⟩
def B_X9_keep_39 (v1 : Int32) (v2 : Int32) (t0 : Int32) (t1 : Int32) (m : MM) : Option (Int32 × MM) :=
  if inb t1 6 = true then
  letx (ms m 105 (ix t1) t0) (fun m5 =>
  if inb v1 6 = true then
  letx (ms m5 108 (ix v1) v2) (fun m7 =>
  some (1, m7))
  else none)
  else none
theorem SB_X9_keep_39 {g : GC} {d : Nat} {v1 : Int32} {v2 : Int32} {t0 : Int32} {t1 : Int32} {x : MX} {m : MM} {r : Int32} {z : MM} (hd : 2 ≤ d) 
  (hF : B_X9_keep_39 v1 v2 t0 t1 m = some (r, z)) : J g m_X9_keep d 0 0 39 [(0, .ref 80), (1, .int v1), (2, .int v2)] [.int t0, .int t1, .ref 105] (ST x m) 0 0 (EQ (some (.int r)) (ST x z)) := by
  unfold B_X9_keep_39 at hF
  obtain ⟨b4, hF⟩ := chk hF
  obtain ⟨m5, e_m5, hF⟩ := letx_eq hF
  refine JM_iast (j := ix t1) dX9_keep_39 c_105 (inb_vp b4) rfl ?_
  rw [← e_m5]
  refine J_aload_n (j := 0) dX9_keep_40 rfl rfl ?_
  refine JM_getR (r := 108) fl_WithOneHandModel_98_8 dX9_keep_41 c_80 rfl rfl ?_
  refine J_iload_n (j := 1) dX9_keep_44 rfl rfl ?_
  refine J_iload_n (j := 2) dX9_keep_45 rfl rfl ?_
  obtain ⟨b6, hF⟩ := chk hF
  obtain ⟨m7, e_m7, hF⟩ := letx_eq hF
  refine JM_iast (j := ix v1) dX9_keep_46 c_108 (inb_vp b6) rfl ?_
  rw [← e_m7]
  refine J_iconst (v := 1) dX9_keep_47 (by decide) ?_
  obtain ⟨e_r, e_z⟩ := someP hF
  subst e_r
  subst e_z
  exact J_ireturn rfl rfl dX9_keep_48 ⟨rfl, rfl⟩
def f_X9_keep (a1 : Int32) (a2 : Int32) (m : MM) : Option (Int32 × MM) :=
  if (f_X9_isShelf a1) = true then
  if (f_X9_isIn a2 (-1) ((mi m 80 8) - 1)) = true then
  if 0 ≤ a2 then
  B_X9_keep_39 a1 a2 1 a1 m
  else
  B_X9_keep_39 a1 a2 0 a1 m
  else
  some ((-1), m)
  else
  some ((-1), m)
theorem S_X9_keep {g : GC} {d : Nat} {a1 : Int32} {a2 : Int32} {x : MX} {m : MM} {r : Int32} {z : MM} (hd : 2 ≤ d) 
  (hF : f_X9_keep a1 a2 m = some (r, z)) : JC g m_X9_keep d 0 0 [.ref 80, .int a1, .int a2] (ST x m) (EQ (some (.int r)) (ST x z)) := by
  refine JC.of (by decide +kernel) (Nat.le_of_ble_eq_true rfl) ?_
  change J g m_X9_keep d 0 0 0 [(0, .ref 80), (1, .int a1), (2, .int a2)] [] (ST x m) 0 0 (EQ (some (.int r)) (ST x z))
  unfold f_X9_keep at hF
  refine J_aload_n (j := 0) dX9_keep_0 rfl rfl ?_
  refine J_iload_n (j := 1) dX9_keep_1 rfl rfl ?_
  refine JM_callVi (As := [.int a1]) (S := []) lkV_WithOneHandModel_122_X9_isShelf rfl (by decide) dX9_keep_2 c_80 (S_X9_isShelf (by omega) rfl) (by omega) rfl rfl (Nat.le_of_ble_eq_true rfl) rfl ?_
  refine J_ifb_eq (tgt := 23) dX9_keep_5 (by decide) (fun q1 => ?_) (fun q1 => ?_)
  · rw [if_neg q1] at hF
    refine J_iconst (v := (-1)) dX9_keep_23 (by decide) ?_
    obtain ⟨e_r, e_z⟩ := someP hF
    subst e_r
    subst e_z
    exact J_ireturn rfl rfl dX9_keep_24 ⟨rfl, rfl⟩
  · rw [if_pos q1] at hF
    refine J_aload_n (j := 0) dX9_keep_8 rfl rfl ?_
    refine J_iload_n (j := 2) dX9_keep_9 rfl rfl ?_
    refine J_iconst (v := (-1)) dX9_keep_10 (by decide) ?_
    refine J_aload_n (j := 0) dX9_keep_11 rfl rfl ?_
    refine JM_getI fl_WithOneHandModel_343_8 dX9_keep_12 c_80 rfl ?_
    refine J_iconst (v := 1) dX9_keep_15 (by decide) ?_
    refine J_isub dX9_keep_16 ?_
    refine JM_callVi (As := [.int a2, .int (-1), .int ((mi m 80 8) - 1)]) (S := []) lkV_WithOneHandModel_114_X9_isIn rfl (by decide) dX9_keep_17 c_80 (S_X9_isIn (by omega) rfl) (by omega) rfl rfl (Nat.le_of_ble_eq_true rfl) rfl ?_
    refine J_ifb_ne (tgt := 25) dX9_keep_20 (by decide) (fun q2 => ?_) (fun q2 => ?_)
    · rw [if_pos q2] at hF
      refine J_aload_n (j := 0) dX9_keep_25 rfl rfl ?_
      refine JM_getR (r := 105) fl_WithOneHandModel_89_8 dX9_keep_26 c_80 rfl rfl ?_
      refine J_iload_n (j := 1) dX9_keep_29 rfl rfl ?_
      refine J_iload_n (j := 2) dX9_keep_30 rfl rfl ?_
      refine J_if_ge (tgt := 38) dX9_keep_31 (by decide) (fun q3 => ?_) (fun q3 => ?_)
      · rw [if_pos q3] at hF
        refine J_iconst (v := 1) dX9_keep_38 (by decide) ?_
        exact SB_X9_keep_39 hd hF
      · rw [if_neg q3] at hF
        refine J_iconst (v := 0) dX9_keep_34 (by decide) ?_
        refine J_goto (tgt := 39) dX9_keep_35 (by decide) ?_
        exact SB_X9_keep_39 hd hF
    · rw [if_neg q2] at hF
      refine J_iconst (v := (-1)) dX9_keep_23 (by decide) ?_
      obtain ⟨e_r, e_z⟩ := someP hF
      subst e_r
      subst e_z
      exact J_ireturn rfl rfl dX9_keep_24 ⟨rfl, rfl⟩
def f_X6_holdRow (h0 : Nat) (a1 : Int32) (a2 : Int32) (x : MX) : Option MX :=
  letx (xs x h0 1 a1) (fun x1 =>
  letx (xs x1 h0 2 (imax 0 (imin 60 a2))) (fun x2 =>
  letx (xfl x2 (h0 + 1) 60 0) (fun x3 =>
  some x3)))
theorem S_X6_holdRow {g : GC} {d : Nat} {h0 : Nat} {a1 : Int32} {a2 : Int32} {x : MX} {m : MM} {z : MX} (hd : 2 ≤ d) (e_h0 : isSh h0)
  (hF : f_X6_holdRow h0 a1 a2 x = some z) : JC g m_X6_holdRow d 0 0 [.ref h0, .int a1, .int a2] (ST x m) (EQ (none) (ST z m)) := by
  refine JC.of (by decide +kernel) (Nat.le_of_ble_eq_true rfl) ?_
  change J g m_X6_holdRow d 0 0 0 [(0, .ref h0), (1, .int a1), (2, .int a2)] [] (ST x m) 0 0 (EQ (none) (ST z m))
  unfold f_X6_holdRow at hF
  refine J_aload_n (j := 0) dX6_holdRow_0 rfl rfl ?_
  refine J_iload_n (j := 1) dX6_holdRow_1 rfl rfl ?_
  obtain ⟨x1, e_x1, hF⟩ := letx_eq hF
  refine JX_putI fl_Shelf_15_5 dX6_holdRow_2 (c_sh e_h0) rfl rfl rfl ?_
  rw [← e_x1]
  refine J_aload_n (j := 0) dX6_holdRow_5 rfl rfl ?_
  refine J_iconst (v := 0) dX6_holdRow_6 (by decide) ?_
  refine J_bipush (v := 60) dX6_holdRow_7 (by decide) ?_
  refine J_iload_n (j := 2) dX6_holdRow_9 rfl rfl ?_
  refine J_mmin (S := [.int 0, .ref h0]) (tb 851 (by decide +kernel)) dX6_holdRow_10 (Nat.le_of_ble_eq_true rfl) ?_
  refine J_mmax (S := [.ref h0]) (tb 852 (by decide +kernel)) dX6_holdRow_13 (Nat.le_of_ble_eq_true rfl) ?_
  obtain ⟨x2, e_x2, hF⟩ := letx_eq hF
  refine JX_putI fl_Shelf_33_5 dX6_holdRow_16 (c_sh e_h0) rfl rfl rfl ?_
  rw [← e_x2]
  refine J_aload_n (j := 0) dX6_holdRow_19 rfl rfl ?_
  refine JX_getR (r := (h0 + 1)) fl_Shelf_9_5 dX6_holdRow_20 (c_sh e_h0) rfl rfl ?_
  refine J_lconst (v := 0) dX6_holdRow_23 (by decide) ?_
  obtain ⟨x3, e_x3, hF⟩ := letx_eq hF
  refine J_callSv lkS_Shelf_48_J7_fill_d0a16 dX6_holdRow_24 (S_fillL (by omega) (c_she e_h0)) (by omega) rfl rfl (Nat.le_of_ble_eq_true rfl) rfl ?_
  rw [← e_x3]
  have e_r := Option.some.inj hF
  subst e_r
  exact J_return rfl dX6_holdRow_27 ⟨rfl, rfl⟩
def f_X8_row (a1 : Int32) (a2 : Int32) (a3 : Int32) (x : MX) : Option (Int32 × MX) :=
  if (f_X8_isShelf a1) = true then
  if (f_X6_isSort a2) = true then
  if a3 ≤ 60 then
  if 0 ≤ a3 then
  if inb a1 6 = true then
  ob (f_X6_holdRow (68 + 2 * ix a1) a2 a3 x) (fun x6 =>
  some (1, x6))
  else none
  else
  some ((-14), x)
  else
  some ((-1), x)
  else
  some ((-1), x)
  else
  some ((-1), x)
theorem S_X8_row {g : GC} {d : Nat} {a1 : Int32} {a2 : Int32} {a3 : Int32} {x : MX} {m : MM} {r : Int32} {z : MX} (hd : 3 ≤ d) 
  (hF : f_X8_row a1 a2 a3 x = some (r, z)) : JC g m_X8_row d 0 0 [.ref 5, .int a1, .int a2, .int a3] (ST x m) (EQ (some (.int r)) (ST z m)) := by
  refine JC.of (by decide +kernel) (Nat.le_of_ble_eq_true rfl) ?_
  change J g m_X8_row d 0 0 0 [(0, .ref 5), (1, .int a1), (2, .int a2), (3, .int a3)] [] (ST x m) 0 0 (EQ (some (.int r)) (ST z m))
  unfold f_X8_row at hF
  refine J_iload_n (j := 1) dX8_row_0 rfl rfl ?_
  refine J_callSi (As := [.int a1]) (S := []) lkS_WithOneHand_91_X8_isShelf dX8_row_1 (S_X8_isShelf (by omega) rfl) (by omega) rfl rfl (Nat.le_of_ble_eq_true rfl) rfl ?_
  refine J_ifb_eq (tgt := 20) dX8_row_4 (by decide) (fun q1 => ?_) (fun q1 => ?_)
  · rw [if_neg q1] at hF
    refine J_iconst (v := (-1)) dX8_row_20 (by decide) ?_
    obtain ⟨e_r, e_z⟩ := someP hF
    subst e_r
    subst e_z
    exact J_ireturn rfl rfl dX8_row_21 ⟨rfl, rfl⟩
  · rw [if_pos q1] at hF
    refine J_iload_n (j := 2) dX8_row_7 rfl rfl ?_
    refine J_callSi (As := [.int a2]) (S := []) lkS_WithOneHand_308_X6_isSort dX8_row_8 (S_X6_isSort (by omega) rfl) (by omega) rfl rfl (Nat.le_of_ble_eq_true rfl) rfl ?_
    refine J_ifb_eq (tgt := 20) dX8_row_11 (by decide) (fun q2 => ?_) (fun q2 => ?_)
    · rw [if_neg q2] at hF
      refine J_iconst (v := (-1)) dX8_row_20 (by decide) ?_
      obtain ⟨e_r, e_z⟩ := someP hF
      subst e_r
      subst e_z
      exact J_ireturn rfl rfl dX8_row_21 ⟨rfl, rfl⟩
    · rw [if_pos q2] at hF
      refine J_iload_n (j := 3) dX8_row_14 rfl rfl ?_
      refine J_bipush (v := 60) dX8_row_15 (by decide) ?_
      refine J_icmp_le (tgt := 22) dX8_row_17 (by decide) (fun q3 => ?_) (fun q3 => ?_)
      · rw [if_pos q3] at hF
        refine J_iload_n (j := 3) dX8_row_22 rfl rfl ?_
        refine J_if_ge (tgt := 29) dX8_row_23 (by decide) (fun q4 => ?_) (fun q4 => ?_)
        · rw [if_pos q4] at hF
          refine J_aload_n (j := 0) dX8_row_29 rfl rfl ?_
          refine JX_getR (r := 54) fl_WithOneHand_58_7 dX8_row_30 c_5 rfl rfl ?_
          refine J_iload_n (j := 1) dX8_row_33 rfl rfl ?_
          obtain ⟨b5, hF⟩ := chk hF
          refine JX_aald (j := ix a1) (r := 68 + 2 * ix a1) (by decide) dX8_row_34 c_54 (inb_vp b5) rfl (rw_54 _ (inb_lt b5)) ?_
          refine J_iload_n (j := 2) dX8_row_35 rfl rfl ?_
          refine J_iload_n (j := 3) dX8_row_36 rfl rfl ?_
          obtain ⟨x6, h7, hF⟩ := ob_some hF
          refine JX_callVv (As := [.int a2, .int a3]) (S := []) lkV_WithOneHand_311_X6_holdRow rfl (by decide) dX8_row_37 (c_sh (sh_of (inb_lt b5))) (S_X6_holdRow (by omega) (sh_of (inb_lt b5)) h7) (by omega) rfl rfl (Nat.le_of_ble_eq_true rfl) rfl ?_
          refine J_iconst (v := 1) dX8_row_40 (by decide) ?_
          obtain ⟨e_r, e_z⟩ := someP hF
          subst e_r
          subst e_z
          exact J_ireturn rfl rfl dX8_row_41 ⟨rfl, rfl⟩
        · rw [if_neg q4] at hF
          refine J_bipush (v := (-14)) dX8_row_26 (by decide) ?_
          obtain ⟨e_r, e_z⟩ := someP hF
          subst e_r
          subst e_z
          exact J_ireturn rfl rfl dX8_row_28 ⟨rfl, rfl⟩
      · rw [if_neg q3] at hF
        refine J_iconst (v := (-1)) dX8_row_20 (by decide) ?_
        obtain ⟨e_r, e_z⟩ := someP hF
        subst e_r
        subst e_z
        exact J_ireturn rfl rfl dX8_row_21 ⟨rfl, rfl⟩
def B_X9_row_57 (K57 : Int32 → Int32 → MM → Option (Int32 × MM)) (v1 : Int32) (v4 : Int32) (m : MM) : Option (Int32 × MM) :=
  if 60 ≤ v4 then
  some (1, m)
  else
  if inb ((60 * v1) + v4) 360 = true then
  letx (msl m 109 (ix ((60 * v1) + v4)) 0) (fun m11 =>
  K57 v1 (v4 + 1) m11)
  else none
theorem SB_X9_row_57 {g : GC} {d : Nat} {K57 : Int32 → Int32 → MM → Option (Int32 × MM)} {v1 : Int32} {v4 : Int32} {x : MX} {m : MM} {r : Int32} {z : MM} (hd : 2 ≤ d) (hK57 : ∀ (v1 : Int32) (v4 : Int32) (m : MM) (r : Int32) (z : MM), K57 v1 v4 m = some (r, z) → J g m_X9_row d 0 0 57 [(0, .ref 80), (1, .int v1), (4, .int v4)] [] (ST x m) 0 0 (EQ (some (.int r)) (ST x z)))
  (hF : B_X9_row_57 K57 v1 v4 m = some (r, z)) : J g m_X9_row d 0 0 57 [(0, .ref 80), (1, .int v1), (4, .int v4)] [] (ST x m) 0 0 (EQ (some (.int r)) (ST x z)) := by
  unfold B_X9_row_57 at hF
  refine J_iload (j := 2) dX9_row_57 rfl ?_
  refine J_bipush (v := 60) dX9_row_59 (by decide) ?_
  refine J_icmp_ge (tgt := 83) dX9_row_61 (by decide) (fun q9 => ?_) (fun q9 => ?_)
  · rw [if_pos q9] at hF
    refine J_iconst (v := 1) dX9_row_83 (by decide) ?_
    obtain ⟨e_r, e_z⟩ := someP hF
    subst e_r
    subst e_z
    exact J_ireturn rfl rfl dX9_row_84 ⟨rfl, rfl⟩
  · rw [if_neg q9] at hF
    refine J_aload_n (j := 0) dX9_row_64 rfl rfl ?_
    refine JM_getR (r := 109) fl_WithOneHandModel_101_8 dX9_row_65 c_80 rfl rfl ?_
    refine J_bipush (v := 60) dX9_row_68 (by decide) ?_
    refine J_iload_n (j := 1) dX9_row_70 rfl rfl ?_
    refine J_imul dX9_row_71 ?_
    refine J_iload (j := 2) dX9_row_72 rfl ?_
    refine J_iadd dX9_row_74 ?_
    refine J_lconst (v := 0) dX9_row_75 (by decide) ?_
    obtain ⟨b10, hF⟩ := chk hF
    obtain ⟨m11, e_m11, hF⟩ := letx_eq hF
    refine JM_last (j := ix ((60 * v1) + v4)) dX9_row_76 c_109 (inb_vp b10) rfl ?_
    rw [← e_m11]
    refine J_iinc (j := 2) (v := v4 + 1) (L' := [(4, .int (v4 + 1)), (0, .ref 80), (1, .int v1)]) dX9_row_77 rfl rfl (by decide) rfl ?_
    refine J_goto (tgt := 57) dX9_row_80 (by decide) ?_
    refine J_sub [1, 2, 0] rfl ?_
    exact hK57 _ _ _ _ _  hF
def f_X9_row_57  : Nat → Int32 → Int32 → MM → Option (Int32 × MM)
  | 0 => fun _ _ _ => none
  | n + 1 => fun v1 v4 m => B_X9_row_57 (f_X9_row_57  n) v1 v4 m
theorem Sf_X9_row_57 {g : GC} {d : Nat} {x : MX} (hd : 2 ≤ d)  : ∀ (n : Nat) (v1 : Int32) (v4 : Int32) (m : MM) (r : Int32) (z : MM), f_X9_row_57  n v1 v4 m = some (r, z) → J g m_X9_row d 0 0 57 [(0, .ref 80), (1, .int v1), (4, .int v4)] [] (ST x m) 0 0 (EQ (some (.int r)) (ST x z)) := by
  intro n
  induction n with
  | zero => intro v1 v4 m r z  hF; exact absurd hF (fun q => by cases q)
  | succ n ih =>
    intro v1 v4 m r z  hF
    exact SB_X9_row_57 hd (fun v1 v4 m r z  hF => ih v1 v4 m r z  hF) hF
def f_X9_row (a1 : Int32) (a2 : Int32) (a3 : Int32) (m : MM) : Option (Int32 × MM) :=
  if (f_X9_isShelf a1) = true then
  if (f_X9_isIn a2 0 4) = true then
  if a3 ≤ 60 then
  if 0 ≤ a3 then
  if inb a1 6 = true then
  letx (ms m 105 (ix a1) 2) (fun m6 =>
  letx (ms m6 106 (ix a1) a2) (fun m7 =>
  letx (ms m7 107 (ix a1) a3) (fun m8 =>
  f_X9_row_57 LF a1 0 m8)))
  else none
  else
  some ((-14), m)
  else
  some ((-1), m)
  else
  some ((-1), m)
  else
  some ((-1), m)
theorem S_X9_row {g : GC} {d : Nat} {a1 : Int32} {a2 : Int32} {a3 : Int32} {x : MX} {m : MM} {r : Int32} {z : MM} (hd : 2 ≤ d) 
  (hF : f_X9_row a1 a2 a3 m = some (r, z)) : JC g m_X9_row d 0 0 [.ref 80, .int a1, .int a2, .int a3] (ST x m) (EQ (some (.int r)) (ST x z)) := by
  refine JC.of (by decide +kernel) (Nat.le_of_ble_eq_true rfl) ?_
  change J g m_X9_row d 0 0 0 [(0, .ref 80), (1, .int a1), (2, .int a2), (3, .int a3)] [] (ST x m) 0 0 (EQ (some (.int r)) (ST x z))
  unfold f_X9_row at hF
  refine J_aload_n (j := 0) dX9_row_0 rfl rfl ?_
  refine J_iload_n (j := 1) dX9_row_1 rfl rfl ?_
  refine JM_callVi (As := [.int a1]) (S := []) lkV_WithOneHandModel_122_X9_isShelf rfl (by decide) dX9_row_2 c_80 (S_X9_isShelf (by omega) rfl) (by omega) rfl rfl (Nat.le_of_ble_eq_true rfl) rfl ?_
  refine J_ifb_eq (tgt := 24) dX9_row_5 (by decide) (fun q1 => ?_) (fun q1 => ?_)
  · rw [if_neg q1] at hF
    refine J_iconst (v := (-1)) dX9_row_24 (by decide) ?_
    obtain ⟨e_r, e_z⟩ := someP hF
    subst e_r
    subst e_z
    exact J_ireturn rfl rfl dX9_row_25 ⟨rfl, rfl⟩
  · rw [if_pos q1] at hF
    refine J_aload_n (j := 0) dX9_row_8 rfl rfl ?_
    refine J_iload_n (j := 2) dX9_row_9 rfl rfl ?_
    refine J_iconst (v := 0) dX9_row_10 (by decide) ?_
    refine J_iconst (v := 4) dX9_row_11 (by decide) ?_
    refine JM_callVi (As := [.int a2, .int 0, .int 4]) (S := []) lkV_WithOneHandModel_114_X9_isIn rfl (by decide) dX9_row_12 c_80 (S_X9_isIn (by omega) rfl) (by omega) rfl rfl (Nat.le_of_ble_eq_true rfl) rfl ?_
    refine J_ifb_eq (tgt := 24) dX9_row_15 (by decide) (fun q2 => ?_) (fun q2 => ?_)
    · rw [if_neg q2] at hF
      refine J_iconst (v := (-1)) dX9_row_24 (by decide) ?_
      obtain ⟨e_r, e_z⟩ := someP hF
      subst e_r
      subst e_z
      exact J_ireturn rfl rfl dX9_row_25 ⟨rfl, rfl⟩
    · rw [if_pos q2] at hF
      refine J_iload_n (j := 3) dX9_row_18 rfl rfl ?_
      refine J_bipush (v := 60) dX9_row_19 (by decide) ?_
      refine J_icmp_le (tgt := 26) dX9_row_21 (by decide) (fun q3 => ?_) (fun q3 => ?_)
      · rw [if_pos q3] at hF
        refine J_iload_n (j := 3) dX9_row_26 rfl rfl ?_
        refine J_if_ge (tgt := 33) dX9_row_27 (by decide) (fun q4 => ?_) (fun q4 => ?_)
        · rw [if_pos q4] at hF
          refine J_aload_n (j := 0) dX9_row_33 rfl rfl ?_
          refine JM_getR (r := 105) fl_WithOneHandModel_89_8 dX9_row_34 c_80 rfl rfl ?_
          refine J_iload_n (j := 1) dX9_row_37 rfl rfl ?_
          refine J_iconst (v := 2) dX9_row_38 (by decide) ?_
          obtain ⟨b5, hF⟩ := chk hF
          obtain ⟨m6, e_m6, hF⟩ := letx_eq hF
          refine JM_iast (j := ix a1) dX9_row_39 c_105 (inb_vp b5) rfl ?_
          rw [← e_m6]
          refine J_aload_n (j := 0) dX9_row_40 rfl rfl ?_
          refine JM_getR (r := 106) fl_WithOneHandModel_92_8 dX9_row_41 c_80 rfl rfl ?_
          refine J_iload_n (j := 1) dX9_row_44 rfl rfl ?_
          refine J_iload_n (j := 2) dX9_row_45 rfl rfl ?_
          obtain ⟨m7, e_m7, hF⟩ := letx_eq hF
          refine JM_iast (j := ix a1) dX9_row_46 c_106 (inb_vp b5) rfl ?_
          rw [← e_m7]
          refine J_aload_n (j := 0) dX9_row_47 rfl rfl ?_
          refine JM_getR (r := 107) fl_WithOneHandModel_95_8 dX9_row_48 c_80 rfl rfl ?_
          refine J_iload_n (j := 1) dX9_row_51 rfl rfl ?_
          refine J_iload_n (j := 3) dX9_row_52 rfl rfl ?_
          obtain ⟨m8, e_m8, hF⟩ := letx_eq hF
          refine JM_iast (j := ix a1) dX9_row_53 c_107 (inb_vp b5) rfl ?_
          rw [← e_m8]
          refine J_iconst (v := 0) dX9_row_54 (by decide) ?_
          refine J_istore (L' := [(4, .int 0), (0, .ref 80), (1, .int a1), (2, .int a2), (3, .int a3)]) dX9_row_55 (by decide) rfl ?_
          refine J_sub [1, 2, 0] rfl ?_
          exact Sf_X9_row_57 hd _ _ _ _ _ _ hF
        · rw [if_neg q4] at hF
          refine J_bipush (v := (-14)) dX9_row_30 (by decide) ?_
          obtain ⟨e_r, e_z⟩ := someP hF
          subst e_r
          subst e_z
          exact J_ireturn rfl rfl dX9_row_32 ⟨rfl, rfl⟩
      · rw [if_neg q3] at hF
        refine J_iconst (v := (-1)) dX9_row_24 (by decide) ?_
        obtain ⟨e_r, e_z⟩ := someP hF
        subst e_r
        subst e_z
        exact J_ireturn rfl rfl dX9_row_25 ⟨rfl, rfl⟩
def f_X6_holdsRow (h0 : Nat) (x : MX) : Bool :=
  f_X6_isSort (xi x h0 1)
theorem S_X6_holdsRow {g : GC} {d : Nat} {h0 : Nat} {x : MX} {m : MM} {r : Bool} (hd : 2 ≤ d) (e_h0 : isSh h0)
  (hF : f_X6_holdsRow h0 x = r) : JC g m_X6_holdsRow d 0 0 [.ref h0] (ST x m) (EQ (some (.int (b2i r))) (ST x m)) := by
  refine JC.of (by decide +kernel) (Nat.le_of_ble_eq_true rfl) ?_
  change J g m_X6_holdsRow d 0 0 0 [(0, .ref h0)] [] (ST x m) 0 0 (EQ (some (.int (b2i r))) (ST x m))
  unfold f_X6_holdsRow at hF
  refine J_aload_n (j := 0) dX6_holdsRow_0 rfl rfl ?_
  refine JX_getI fl_Shelf_15_5 dX6_holdsRow_1 (c_sh e_h0) rfl ?_
  refine J_callSi (As := [.int (xi x h0 1)]) (S := []) lkS_Shelf_19_X6_isSort dX6_holdsRow_4 (S_X6_isSort (by omega) rfl) (by omega) rfl rfl (Nat.le_of_ble_eq_true rfl) rfl ?_
  subst hF
  exact J_ireturn rfl (nar_b2i _) dX6_holdsRow_7 ⟨rfl, rfl⟩
def f_X6_refusalAsRow (h0 : Nat) (x : MX) : Int32 :=
  if (f_X6_holdsNothing h0 x) = true then
  (-11)
  else
  if (f_X6_holdsRow h0 x) = true then
  0
  else
  (-12)
theorem S_X6_refusalAsRow {g : GC} {d : Nat} {h0 : Nat} {x : MX} {m : MM} {r : Int32} (hd : 3 ≤ d) (e_h0 : isSh h0)
  (hF : f_X6_refusalAsRow h0 x = r) : JC g m_X6_refusalAsRow d 0 0 [.ref h0] (ST x m) (EQ (some (.int r)) (ST x m)) := by
  refine JC.of (by decide +kernel) (Nat.le_of_ble_eq_true rfl) ?_
  change J g m_X6_refusalAsRow d 0 0 0 [(0, .ref h0)] [] (ST x m) 0 0 (EQ (some (.int r)) (ST x m))
  unfold f_X6_refusalAsRow at hF
  refine J_aload_n (j := 0) dX6_refusalAsRow_0 rfl rfl ?_
  refine JX_callVi (As := []) (S := []) lkV_Shelf_23_X6_holdsNothing rfl (by decide) dX6_refusalAsRow_1 (c_sh e_h0) (S_X6_holdsNothing (by omega) e_h0 rfl) (by omega) rfl rfl (Nat.le_of_ble_eq_true rfl) rfl ?_
  refine J_ifb_eq (tgt := 10) dX6_refusalAsRow_4 (by decide) (fun q1 => ?_) (fun q1 => ?_)
  · rw [if_neg q1] at hF
    refine J_aload_n (j := 0) dX6_refusalAsRow_10 rfl rfl ?_
    refine JX_callVi (As := []) (S := []) lkV_Shelf_27_X6_holdsRow rfl (by decide) dX6_refusalAsRow_11 (c_sh e_h0) (S_X6_holdsRow (by omega) e_h0 rfl) (by omega) rfl rfl (Nat.le_of_ble_eq_true rfl) rfl ?_
    refine J_ifb_eq (tgt := 21) dX6_refusalAsRow_14 (by decide) (fun q2 => ?_) (fun q2 => ?_)
    · rw [if_neg q2] at hF
      refine J_bipush (v := (-12)) dX6_refusalAsRow_21 (by decide) ?_
      subst hF
      exact J_ireturn rfl rfl dX6_refusalAsRow_23 ⟨rfl, rfl⟩
    · rw [if_pos q2] at hF
      refine J_iconst (v := 0) dX6_refusalAsRow_17 (by decide) ?_
      refine J_goto (tgt := 23) dX6_refusalAsRow_18 (by decide) ?_
      subst hF
      exact J_ireturn rfl rfl dX6_refusalAsRow_23 ⟨rfl, rfl⟩
  · rw [if_pos q1] at hF
    refine J_bipush (v := (-11)) dX6_refusalAsRow_7 (by decide) ?_
    subst hF
    exact J_ireturn rfl rfl dX6_refusalAsRow_9 ⟨rfl, rfl⟩
def f_X6_lowestBits (h0 : Nat) (a1 : Int64) (x : MX) : Int64 :=
  if (xi x h0 1) = 0 then
  Int32.toInt64 (Int8.toInt32 (Int32.toInt8 (Int64.toInt32 a1)))
  else
  if (xi x h0 1) = 1 then
  Int32.toInt64 (Int16.toInt32 (Int32.toInt16 (Int64.toInt32 a1)))
  else
  if (xi x h0 1) = 2 then
  Int32.toInt64 (Int64.toInt32 a1)
  else
  if (xi x h0 1) = 4 then
  if (lg_cmp a1 0) = 0 then
  0
  else
  1
  else
  a1
theorem S_X6_lowestBits {g : GC} {d : Nat} {h0 : Nat} {a1 : Int64} {x : MX} {m : MM} {r : Int64} (hd : 1 ≤ d) (e_h0 : isSh h0)
  (hF : f_X6_lowestBits h0 a1 x = r) : JC g m_X6_lowestBits d 0 0 [.ref h0, .long a1] (ST x m) (EQ (some (.long r)) (ST x m)) := by
  refine JC.of (by decide +kernel) (Nat.le_of_ble_eq_true rfl) ?_
  change J g m_X6_lowestBits d 0 0 0 [(0, .ref h0), (1, .long a1)] [] (ST x m) 0 0 (EQ (some (.long r)) (ST x m))
  unfold f_X6_lowestBits at hF
  refine J_aload_n (j := 0) dX6_lowestBits_0 rfl rfl ?_
  refine JX_getI fl_Shelf_15_5 dX6_lowestBits_1 (c_sh e_h0) rfl ?_
  refine J_tsw (n := 4) (td := 66) (cs := [(0, 40), (1, 45), (2, 50), (4, 54)]) dX6_lowestBits_4 (by decide) (by decide) (by decide +kernel) (by decide +kernel) ?_
  refine J_sw (fun q1 => ?_) (fun q1 => ?_)
  · rw [if_pos q1] at hF
    refine J_lload_n (j := 1) dX6_lowestBits_40 rfl rfl ?_
    refine J_l2i dX6_lowestBits_41 ?_
    refine J_i2b dX6_lowestBits_42 ?_
    refine J_i2l dX6_lowestBits_43 ?_
    subst hF
    exact J_lreturn rfl dX6_lowestBits_44 ⟨rfl, rfl⟩
  rw [if_neg q1] at hF
  refine J_sw (fun q2 => ?_) (fun q2 => ?_)
  · rw [if_pos q2] at hF
    refine J_lload_n (j := 1) dX6_lowestBits_45 rfl rfl ?_
    refine J_l2i dX6_lowestBits_46 ?_
    refine J_i2s dX6_lowestBits_47 ?_
    refine J_i2l dX6_lowestBits_48 ?_
    subst hF
    exact J_lreturn rfl dX6_lowestBits_49 ⟨rfl, rfl⟩
  rw [if_neg q2] at hF
  refine J_sw (fun q3 => ?_) (fun q3 => ?_)
  · rw [if_pos q3] at hF
    refine J_lload_n (j := 1) dX6_lowestBits_50 rfl rfl ?_
    refine J_l2i dX6_lowestBits_51 ?_
    refine J_i2l dX6_lowestBits_52 ?_
    subst hF
    exact J_lreturn rfl dX6_lowestBits_53 ⟨rfl, rfl⟩
  rw [if_neg q3] at hF
  refine J_sw (fun q4 => ?_) (fun q4 => ?_)
  · rw [if_pos q4] at hF
    refine J_lload_n (j := 1) dX6_lowestBits_54 rfl rfl ?_
    refine J_lconst (v := 0) dX6_lowestBits_55 (by decide) ?_
    refine J_lcmp dX6_lowestBits_56 ?_
    refine J_if_eq (tgt := 64) dX6_lowestBits_57 (by decide) (fun q5 => ?_) (fun q5 => ?_)
    · rw [if_pos q5] at hF
      refine J_lconst (v := 0) dX6_lowestBits_64 (by decide) ?_
      subst hF
      exact J_lreturn rfl dX6_lowestBits_65 ⟨rfl, rfl⟩
    · rw [if_neg q5] at hF
      refine J_lconst (v := 1) dX6_lowestBits_60 (by decide) ?_
      refine J_goto (tgt := 65) dX6_lowestBits_61 (by decide) ?_
      subst hF
      exact J_lreturn rfl dX6_lowestBits_65 ⟨rfl, rfl⟩
  rw [if_neg q4] at hF
  refine J_swd ?_
  refine J_lload_n (j := 1) dX6_lowestBits_66 rfl rfl ?_
  subst hF
  exact J_lreturn rfl dX6_lowestBits_67 ⟨rfl, rfl⟩
def f_X8_put (a1 : Int32) (a2 : Int32) (a3 : Int64) (x : MX) : Option (Int32 × MX) :=
  if (f_X8_isShelf a1) = true then
  if inb a1 6 = true then
  if (f_X6_refusalAsRow (68 + 2 * ix a1) x) = 0 then
  if (f_X6_hasPlaces (68 + 2 * ix a1) a2 1 x) = true then
  if inb a2 60 = true then
  letx (xsl x (68 + 2 * ix a1 + 1) (ix a2) (f_X6_lowestBits (68 + 2 * ix a1) a3 x)) (fun x6 =>
  some (1, x6))
  else none
  else
  some ((-13), x)
  else
  some (f_X6_refusalAsRow (68 + 2 * ix a1) x, x)
  else none
  else
  some ((-1), x)
theorem S_X8_put {g : GC} {d : Nat} {a1 : Int32} {a2 : Int32} {a3 : Int64} {x : MX} {m : MM} {r : Int32} {z : MX} (hd : 4 ≤ d) 
  (hF : f_X8_put a1 a2 a3 x = some (r, z)) : JC g m_X8_put d 0 0 [.ref 5, .int a1, .int a2, .long a3] (ST x m) (EQ (some (.int r)) (ST z m)) := by
  refine JC.of (by decide +kernel) (Nat.le_of_ble_eq_true rfl) ?_
  change J g m_X8_put d 0 0 0 [(0, .ref 5), (1, .int a1), (2, .int a2), (3, .long a3)] [] (ST x m) 0 0 (EQ (some (.int r)) (ST z m))
  unfold f_X8_put at hF
  refine J_iload_n (j := 1) dX8_put_0 rfl rfl ?_
  refine J_callSi (As := [.int a1]) (S := []) lkS_WithOneHand_91_X8_isShelf dX8_put_1 (S_X8_isShelf (by omega) rfl) (by omega) rfl rfl (Nat.le_of_ble_eq_true rfl) rfl ?_
  refine J_ifb_ne (tgt := 9) dX8_put_4 (by decide) (fun q1 => ?_) (fun q1 => ?_)
  · rw [if_pos q1] at hF
    refine J_aload_n (j := 0) dX8_put_9 rfl rfl ?_
    refine JX_getR (r := 54) fl_WithOneHand_58_7 dX8_put_10 c_5 rfl rfl ?_
    refine J_iload_n (j := 1) dX8_put_13 rfl rfl ?_
    obtain ⟨b2, hF⟩ := chk hF
    refine JX_aald (j := ix a1) (r := 68 + 2 * ix a1) (by decide) dX8_put_14 c_54 (inb_vp b2) rfl (rw_54 _ (inb_lt b2)) ?_
    refine J_astore (L' := [(5, .ref (68 + 2 * ix a1)), (0, .ref 5), (1, .int a1), (2, .int a2), (3, .long a3)]) dX8_put_15 (by decide) rfl ?_
    refine J_aload (j := 0) dX8_put_17 rfl ?_
    refine JX_callVi (As := []) (S := []) lkV_WithOneHand_314_X6_refusalAsRow rfl (by decide) dX8_put_19 (c_sh (sh_of (inb_lt b2))) (S_X6_refusalAsRow (by omega) (sh_of (inb_lt b2)) rfl) (by omega) rfl rfl (Nat.le_of_ble_eq_true rfl) rfl ?_
    refine J_if_eq (tgt := 31) dX8_put_22 (by decide) (fun q3 => ?_) (fun q3 => ?_)
    · rw [if_pos q3] at hF
      refine J_aload (j := 0) dX8_put_31 rfl ?_
      refine J_iload_n (j := 3) dX8_put_33 rfl rfl ?_
      refine J_iconst (v := 1) dX8_put_34 (by decide) ?_
      refine JX_callVi (As := [.int a2, .int 1]) (S := []) lkV_WithOneHand_317_X6_hasPlaces rfl (by decide) dX8_put_35 (c_sh (sh_of (inb_lt b2))) (S_X6_hasPlaces (by omega) (sh_of (inb_lt b2)) rfl) (by omega) rfl rfl (Nat.le_of_ble_eq_true rfl) rfl ?_
      refine J_ifb_ne (tgt := 44) dX8_put_38 (by decide) (fun q4 => ?_) (fun q4 => ?_)
      · rw [if_pos q4] at hF
        refine J_aload (j := 0) dX8_put_44 rfl ?_
        refine JX_getR (r := (68 + 2 * ix a1 + 1)) fl_WithOneHand_320_5 dX8_put_46 (c_sh (sh_of (inb_lt b2))) rfl rfl ?_
        refine J_iload_n (j := 3) dX8_put_49 rfl rfl ?_
        refine J_aload (j := 0) dX8_put_50 rfl ?_
        refine J_lload_n (j := 4) dX8_put_52 rfl rfl ?_
        refine JX_callVl (As := [.long a3]) (S := [.int a2, .ref (68 + 2 * ix a1 + 1)]) lkV_WithOneHand_324_X6_lowestBits rfl (by decide) dX8_put_53 (c_sh (sh_of (inb_lt b2))) (S_X6_lowestBits (by omega) (sh_of (inb_lt b2)) rfl) (by omega) rfl rfl (Nat.le_of_ble_eq_true rfl) rfl ?_
        obtain ⟨b5, hF⟩ := chk hF
        obtain ⟨x6, e_x6, hF⟩ := letx_eq hF
        refine JX_last (j := ix a2) dX8_put_56 (c_she (sh_of (inb_lt b2))) (inb_vp b5) rfl ?_
        rw [← e_x6]
        refine J_iconst (v := 1) dX8_put_57 (by decide) ?_
        obtain ⟨e_r, e_z⟩ := someP hF
        subst e_r
        subst e_z
        exact J_ireturn rfl rfl dX8_put_58 ⟨rfl, rfl⟩
      · rw [if_neg q4] at hF
        refine J_bipush (v := (-13)) dX8_put_41 (by decide) ?_
        obtain ⟨e_r, e_z⟩ := someP hF
        subst e_r
        subst e_z
        exact J_ireturn rfl rfl dX8_put_43 ⟨rfl, rfl⟩
    · rw [if_neg q3] at hF
      refine J_aload (j := 0) dX8_put_25 rfl ?_
      refine JX_callVi (As := []) (S := []) lkV_WithOneHand_314_X6_refusalAsRow rfl (by decide) dX8_put_27 (c_sh (sh_of (inb_lt b2))) (S_X6_refusalAsRow (by omega) (sh_of (inb_lt b2)) rfl) (by omega) rfl rfl (Nat.le_of_ble_eq_true rfl) rfl ?_
      obtain ⟨e_r, e_z⟩ := someP hF
      subst e_r
      subst e_z
      exact J_ireturn rfl rfl dX8_put_30 ⟨rfl, rfl⟩
  · rw [if_neg q1] at hF
    refine J_iconst (v := (-1)) dX8_put_7 (by decide) ?_
    obtain ⟨e_r, e_z⟩ := someP hF
    subst e_r
    subst e_z
    exact J_ireturn rfl rfl dX8_put_8 ⟨rfl, rfl⟩
def f_X9_barsOfRow (a1 : Int32) (m : MM) : Option Int32 :=
  if (f_X9_isShelf a1) = true then
  if inb a1 6 = true then
  if (mi m 105 (ix a1)) = 0 then
  some (-11)
  else
  if (mi m 105 (ix a1)) = 1 then
  some (-12)
  else
  some 0
  else none
  else
  some (-1)
theorem S_X9_barsOfRow {g : GC} {d : Nat} {a1 : Int32} {x : MX} {m : MM} {r : Int32} (hd : 2 ≤ d) 
  (hF : f_X9_barsOfRow a1 m = some r) : JC g m_X9_barsOfRow d 0 0 [.ref 80, .int a1] (ST x m) (EQ (some (.int r)) (ST x m)) := by
  refine JC.of (by decide +kernel) (Nat.le_of_ble_eq_true rfl) ?_
  change J g m_X9_barsOfRow d 0 0 0 [(0, .ref 80), (1, .int a1)] [] (ST x m) 0 0 (EQ (some (.int r)) (ST x m))
  unfold f_X9_barsOfRow at hF
  refine J_aload_n (j := 0) dX9_barsOfRow_0 rfl rfl ?_
  refine J_iload_n (j := 1) dX9_barsOfRow_1 rfl rfl ?_
  refine JM_callVi (As := [.int a1]) (S := []) lkV_WithOneHandModel_122_X9_isShelf rfl (by decide) dX9_barsOfRow_2 c_80 (S_X9_isShelf (by omega) rfl) (by omega) rfl rfl (Nat.le_of_ble_eq_true rfl) rfl ?_
  refine J_ifb_ne (tgt := 12) dX9_barsOfRow_5 (by decide) (fun q1 => ?_) (fun q1 => ?_)
  · rw [if_pos q1] at hF
    refine J_aload_n (j := 0) dX9_barsOfRow_12 rfl rfl ?_
    refine JM_getR (r := 105) fl_WithOneHandModel_89_8 dX9_barsOfRow_13 c_80 rfl rfl ?_
    refine J_iload_n (j := 1) dX9_barsOfRow_16 rfl rfl ?_
    obtain ⟨b2, hF⟩ := chk hF
    refine JM_iald (j := ix a1) dX9_barsOfRow_17 c_105 (inb_vp b2) rfl ?_
    refine J_if_ne (tgt := 26) dX9_barsOfRow_18 (by decide) (fun q3 => ?_) (fun q3 => ?_)
    · rw [if_neg q3] at hF
      refine J_aload_n (j := 0) dX9_barsOfRow_26 rfl rfl ?_
      refine JM_getR (r := 105) fl_WithOneHandModel_89_8 dX9_barsOfRow_27 c_80 rfl rfl ?_
      refine J_iload_n (j := 1) dX9_barsOfRow_30 rfl rfl ?_
      refine JM_iald (j := ix a1) dX9_barsOfRow_31 c_105 (inb_vp b2) rfl ?_
      refine J_iconst (v := 1) dX9_barsOfRow_32 (by decide) ?_
      refine J_icmp_ne (tgt := 41) dX9_barsOfRow_33 (by decide) (fun q4 => ?_) (fun q4 => ?_)
      · rw [if_neg q4] at hF
        refine J_iconst (v := 0) dX9_barsOfRow_41 (by decide) ?_
        have e_r := Option.some.inj hF
        subst e_r
        exact J_ireturn rfl rfl dX9_barsOfRow_42 ⟨rfl, rfl⟩
      · rw [if_pos q4] at hF
        refine J_bipush (v := (-12)) dX9_barsOfRow_36 (by decide) ?_
        refine J_goto (tgt := 42) dX9_barsOfRow_38 (by decide) ?_
        have e_r := Option.some.inj hF
        subst e_r
        exact J_ireturn rfl rfl dX9_barsOfRow_42 ⟨rfl, rfl⟩
    · rw [if_pos q3] at hF
      refine J_bipush (v := (-11)) dX9_barsOfRow_21 (by decide) ?_
      refine J_goto (tgt := 42) dX9_barsOfRow_23 (by decide) ?_
      have e_r := Option.some.inj hF
      subst e_r
      exact J_ireturn rfl rfl dX9_barsOfRow_42 ⟨rfl, rfl⟩
  · rw [if_neg q1] at hF
    refine J_iconst (v := (-1)) dX9_barsOfRow_8 (by decide) ?_
    refine J_goto (tgt := 42) dX9_barsOfRow_9 (by decide) ?_
    have e_r := Option.some.inj hF
    subst e_r
    exact J_ireturn rfl rfl dX9_barsOfRow_42 ⟨rfl, rfl⟩
def f_X9_isElement (a1 : Int32) (a2 : Int32) (m : MM) : Option Bool :=
  if a2 < 0 then
  some false
  else
  if inb a1 6 = true then
  if (mi m 107 (ix a1)) ≤ a2 then
  some false
  else
  some true
  else none
theorem S_X9_isElement {g : GC} {d : Nat} {a1 : Int32} {a2 : Int32} {x : MX} {m : MM} {r : Bool} (hd : 1 ≤ d) 
  (hF : f_X9_isElement a1 a2 m = some r) : JC g m_X9_isElement d 0 0 [.ref 80, .int a1, .int a2] (ST x m) (EQ (some (.int (b2i r))) (ST x m)) := by
  refine JC.of (by decide +kernel) (Nat.le_of_ble_eq_true rfl) ?_
  change J g m_X9_isElement d 0 0 0 [(0, .ref 80), (1, .int a1), (2, .int a2)] [] (ST x m) 0 0 (EQ (some (.int (b2i r))) (ST x m))
  unfold f_X9_isElement at hF
  refine J_iload_n (j := 2) dX9_isElement_0 rfl rfl ?_
  refine J_if_lt (tgt := 18) dX9_isElement_1 (by decide) (fun q1 => ?_) (fun q1 => ?_)
  · rw [if_pos q1] at hF
    refine J_iconst (v := 0) dX9_isElement_18 (by decide) ?_
    have e_r := Option.some.inj hF
    subst e_r
    exact J_ireturn rfl rfl dX9_isElement_19 ⟨rfl, rfl⟩
  · rw [if_neg q1] at hF
    refine J_iload_n (j := 2) dX9_isElement_4 rfl rfl ?_
    refine J_aload_n (j := 0) dX9_isElement_5 rfl rfl ?_
    refine JM_getR (r := 107) fl_WithOneHandModel_95_8 dX9_isElement_6 c_80 rfl rfl ?_
    refine J_iload_n (j := 1) dX9_isElement_9 rfl rfl ?_
    obtain ⟨b2, hF⟩ := chk hF
    refine JM_iald (j := ix a1) dX9_isElement_10 c_107 (inb_vp b2) rfl ?_
    refine J_icmp_ge (tgt := 18) dX9_isElement_11 (by decide) (fun q3 => ?_) (fun q3 => ?_)
    · rw [if_pos q3] at hF
      refine J_iconst (v := 0) dX9_isElement_18 (by decide) ?_
      have e_r := Option.some.inj hF
      subst e_r
      exact J_ireturn rfl rfl dX9_isElement_19 ⟨rfl, rfl⟩
    · rw [if_neg q3] at hF
      refine J_iconst (v := 1) dX9_isElement_14 (by decide) ?_
      refine J_goto (tgt := 19) dX9_isElement_15 (by decide) ?_
      have e_r := Option.some.inj hF
      subst e_r
      exact J_ireturn rfl rfl dX9_isElement_19 ⟨rfl, rfl⟩
def f_X9_put (a1 : Int32) (a2 : Int32) (a3 : Int64) (m : MM) : Option (Int32 × MM) :=
  ob (f_X9_barsOfRow a1 m) (fun r1 =>
  if r1 = 0 then
  ob (f_X9_isElement a1 a2 m) (fun r4 =>
  if r4 = true then
  if inb a1 6 = true then
  if (mi m 106 (ix a1)) = 0 then
  if inb ((60 * a1) + a2) 360 = true then
  letx (msl m 109 (ix ((60 * a1) + a2)) (Int32.toInt64 (Int8.toInt32 (Int32.toInt8 (Int64.toInt32 a3))))) (fun m24 =>
  some (1, m24))
  else none
  else
  if (mi m 106 (ix a1)) = 1 then
  if inb ((60 * a1) + a2) 360 = true then
  letx (msl m 109 (ix ((60 * a1) + a2)) (Int32.toInt64 (Int16.toInt32 (Int32.toInt16 (Int64.toInt32 a3))))) (fun m22 =>
  some (1, m22))
  else none
  else
  if (mi m 106 (ix a1)) = 2 then
  if inb ((60 * a1) + a2) 360 = true then
  letx (msl m 109 (ix ((60 * a1) + a2)) (Int32.toInt64 (Int64.toInt32 a3))) (fun m20 =>
  some (1, m20))
  else none
  else
  if (mi m 106 (ix a1)) = 3 then
  if inb ((60 * a1) + a2) 360 = true then
  letx (msl m 109 (ix ((60 * a1) + a2)) a3) (fun m18 =>
  some (1, m18))
  else none
  else
  if (lg_cmp a3 0) = 0 then
  if inb ((60 * a1) + a2) 360 = true then
  letx (msl m 109 (ix ((60 * a1) + a2)) 0) (fun m14 =>
  some (1, m14))
  else none
  else
  if inb ((60 * a1) + a2) 360 = true then
  letx (msl m 109 (ix ((60 * a1) + a2)) 1) (fun m16 =>
  some (1, m16))
  else none
  else none
  else
  some ((-13), m))
  else
  some (r1, m))
theorem S_X9_put {g : GC} {d : Nat} {a1 : Int32} {a2 : Int32} {a3 : Int64} {x : MX} {m : MM} {r : Int32} {z : MM} (hd : 3 ≤ d) 
  (hF : f_X9_put a1 a2 a3 m = some (r, z)) : JC g m_X9_put d 0 0 [.ref 80, .int a1, .int a2, .long a3] (ST x m) (EQ (some (.int r)) (ST x z)) := by
  refine JC.of (by decide +kernel) (Nat.le_of_ble_eq_true rfl) ?_
  change J g m_X9_put d 0 0 0 [(0, .ref 80), (1, .int a1), (2, .int a2), (3, .long a3)] [] (ST x m) 0 0 (EQ (some (.int r)) (ST x z))
  unfold f_X9_put at hF
  refine J_aload_n (j := 0) dX9_put_0 rfl rfl ?_
  refine J_iload_n (j := 1) dX9_put_1 rfl rfl ?_
  obtain ⟨r1, h2, hF⟩ := ob_some hF
  refine JM_callVi (As := [.int a1]) (S := []) lkV_WithOneHandModel_368_X9_barsOfRow rfl (by decide) dX9_put_2 c_80 (S_X9_barsOfRow (by omega) h2) (by omega) rfl rfl (Nat.le_of_ble_eq_true rfl) rfl ?_
  refine J_istore (L' := [(5, .int r1), (0, .ref 80), (1, .int a1), (2, .int a2), (3, .long a3)]) dX9_put_5 (by decide) rfl ?_
  refine J_iload (j := 0) dX9_put_7 rfl ?_
  refine J_if_eq (tgt := 15) dX9_put_9 (by decide) (fun q3 => ?_) (fun q3 => ?_)
  · rw [if_pos q3] at hF
    refine J_aload_n (j := 1) dX9_put_15 rfl rfl ?_
    refine J_iload_n (j := 2) dX9_put_16 rfl rfl ?_
    refine J_iload_n (j := 3) dX9_put_17 rfl rfl ?_
    obtain ⟨r4, h5, hF⟩ := ob_some hF
    refine JM_callVi (As := [.int a1, .int a2]) (S := []) lkV_WithOneHandModel_371_X9_isElement rfl (by decide) dX9_put_18 c_80 (S_X9_isElement (by omega) h5) (by omega) rfl rfl (Nat.le_of_ble_eq_true rfl) rfl ?_
    refine J_ifb_ne (tgt := 27) dX9_put_21 (by decide) (fun q6 => ?_) (fun q6 => ?_)
    · rw [if_pos q6] at hF
      refine J_aload_n (j := 1) dX9_put_27 rfl rfl ?_
      refine JM_getR (r := 109) fl_WithOneHandModel_101_8 dX9_put_28 c_80 rfl rfl ?_
      refine J_bipush (v := 60) dX9_put_31 (by decide) ?_
      refine J_iload_n (j := 2) dX9_put_33 rfl rfl ?_
      refine J_imul dX9_put_34 ?_
      refine J_iload_n (j := 3) dX9_put_35 rfl rfl ?_
      refine J_iadd dX9_put_36 ?_
      refine J_aload_n (j := 1) dX9_put_37 rfl rfl ?_
      refine JM_getR (r := 106) fl_WithOneHandModel_92_8 dX9_put_38 c_80 rfl rfl ?_
      refine J_iload_n (j := 2) dX9_put_41 rfl rfl ?_
      obtain ⟨b7, hF⟩ := chk hF
      refine JM_iald (j := ix a1) dX9_put_42 c_106 (inb_vp b7) rfl ?_
      refine J_if_ne (tgt := 53) dX9_put_43 (by decide) (fun q8 => ?_) (fun q8 => ?_)
      · rw [if_neg q8] at hF
        refine J_aload_n (j := 1) dX9_put_53 rfl rfl ?_
        refine JM_getR (r := 106) fl_WithOneHandModel_92_8 dX9_put_54 c_80 rfl rfl ?_
        refine J_iload_n (j := 2) dX9_put_57 rfl rfl ?_
        refine JM_iald (j := ix a1) dX9_put_58 c_106 (inb_vp b7) rfl ?_
        refine J_iconst (v := 1) dX9_put_59 (by decide) ?_
        refine J_icmp_ne (tgt := 70) dX9_put_60 (by decide) (fun q9 => ?_) (fun q9 => ?_)
        · rw [if_neg q9] at hF
          refine J_aload_n (j := 1) dX9_put_70 rfl rfl ?_
          refine JM_getR (r := 106) fl_WithOneHandModel_92_8 dX9_put_71 c_80 rfl rfl ?_
          refine J_iload_n (j := 2) dX9_put_74 rfl rfl ?_
          refine JM_iald (j := ix a1) dX9_put_75 c_106 (inb_vp b7) rfl ?_
          refine J_iconst (v := 2) dX9_put_76 (by decide) ?_
          refine J_icmp_ne (tgt := 86) dX9_put_77 (by decide) (fun q10 => ?_) (fun q10 => ?_)
          · rw [if_neg q10] at hF
            refine J_aload_n (j := 1) dX9_put_86 rfl rfl ?_
            refine JM_getR (r := 106) fl_WithOneHandModel_92_8 dX9_put_87 c_80 rfl rfl ?_
            refine J_iload_n (j := 2) dX9_put_90 rfl rfl ?_
            refine JM_iald (j := ix a1) dX9_put_91 c_106 (inb_vp b7) rfl ?_
            refine J_iconst (v := 3) dX9_put_92 (by decide) ?_
            refine J_icmp_ne (tgt := 100) dX9_put_93 (by decide) (fun q11 => ?_) (fun q11 => ?_)
            · rw [if_neg q11] at hF
              refine J_lload_n (j := 4) dX9_put_100 rfl rfl ?_
              refine J_lconst (v := 0) dX9_put_101 (by decide) ?_
              refine J_lcmp dX9_put_102 ?_
              refine J_if_eq (tgt := 110) dX9_put_103 (by decide) (fun q12 => ?_) (fun q12 => ?_)
              · rw [if_pos q12] at hF
                refine J_lconst (v := 0) dX9_put_110 (by decide) ?_
                obtain ⟨b13, hF⟩ := chk hF
                obtain ⟨m14, e_m14, hF⟩ := letx_eq hF
                refine JM_last (j := ix ((60 * a1) + a2)) dX9_put_111 c_109 (inb_vp b13) rfl ?_
                rw [← e_m14]
                refine J_iconst (v := 1) dX9_put_112 (by decide) ?_
                obtain ⟨e_r, e_z⟩ := someP hF
                subst e_r
                subst e_z
                exact J_ireturn rfl rfl dX9_put_113 ⟨rfl, rfl⟩
              · rw [if_neg q12] at hF
                refine J_lconst (v := 1) dX9_put_106 (by decide) ?_
                refine J_goto (tgt := 111) dX9_put_107 (by decide) ?_
                obtain ⟨b15, hF⟩ := chk hF
                obtain ⟨m16, e_m16, hF⟩ := letx_eq hF
                refine JM_last (j := ix ((60 * a1) + a2)) dX9_put_111 c_109 (inb_vp b15) rfl ?_
                rw [← e_m16]
                refine J_iconst (v := 1) dX9_put_112 (by decide) ?_
                obtain ⟨e_r, e_z⟩ := someP hF
                subst e_r
                subst e_z
                exact J_ireturn rfl rfl dX9_put_113 ⟨rfl, rfl⟩
            · rw [if_pos q11] at hF
              refine J_lload_n (j := 4) dX9_put_96 rfl rfl ?_
              refine J_goto (tgt := 111) dX9_put_97 (by decide) ?_
              obtain ⟨b17, hF⟩ := chk hF
              obtain ⟨m18, e_m18, hF⟩ := letx_eq hF
              refine JM_last (j := ix ((60 * a1) + a2)) dX9_put_111 c_109 (inb_vp b17) rfl ?_
              rw [← e_m18]
              refine J_iconst (v := 1) dX9_put_112 (by decide) ?_
              obtain ⟨e_r, e_z⟩ := someP hF
              subst e_r
              subst e_z
              exact J_ireturn rfl rfl dX9_put_113 ⟨rfl, rfl⟩
          · rw [if_pos q10] at hF
            refine J_lload_n (j := 4) dX9_put_80 rfl rfl ?_
            refine J_l2i dX9_put_81 ?_
            refine J_i2l dX9_put_82 ?_
            refine J_goto (tgt := 111) dX9_put_83 (by decide) ?_
            obtain ⟨b19, hF⟩ := chk hF
            obtain ⟨m20, e_m20, hF⟩ := letx_eq hF
            refine JM_last (j := ix ((60 * a1) + a2)) dX9_put_111 c_109 (inb_vp b19) rfl ?_
            rw [← e_m20]
            refine J_iconst (v := 1) dX9_put_112 (by decide) ?_
            obtain ⟨e_r, e_z⟩ := someP hF
            subst e_r
            subst e_z
            exact J_ireturn rfl rfl dX9_put_113 ⟨rfl, rfl⟩
        · rw [if_pos q9] at hF
          refine J_lload_n (j := 4) dX9_put_63 rfl rfl ?_
          refine J_l2i dX9_put_64 ?_
          refine J_i2s dX9_put_65 ?_
          refine J_i2l dX9_put_66 ?_
          refine J_goto (tgt := 111) dX9_put_67 (by decide) ?_
          obtain ⟨b21, hF⟩ := chk hF
          obtain ⟨m22, e_m22, hF⟩ := letx_eq hF
          refine JM_last (j := ix ((60 * a1) + a2)) dX9_put_111 c_109 (inb_vp b21) rfl ?_
          rw [← e_m22]
          refine J_iconst (v := 1) dX9_put_112 (by decide) ?_
          obtain ⟨e_r, e_z⟩ := someP hF
          subst e_r
          subst e_z
          exact J_ireturn rfl rfl dX9_put_113 ⟨rfl, rfl⟩
      · rw [if_pos q8] at hF
        refine J_lload_n (j := 4) dX9_put_46 rfl rfl ?_
        refine J_l2i dX9_put_47 ?_
        refine J_i2b dX9_put_48 ?_
        refine J_i2l dX9_put_49 ?_
        refine J_goto (tgt := 111) dX9_put_50 (by decide) ?_
        obtain ⟨b23, hF⟩ := chk hF
        obtain ⟨m24, e_m24, hF⟩ := letx_eq hF
        refine JM_last (j := ix ((60 * a1) + a2)) dX9_put_111 c_109 (inb_vp b23) rfl ?_
        rw [← e_m24]
        refine J_iconst (v := 1) dX9_put_112 (by decide) ?_
        obtain ⟨e_r, e_z⟩ := someP hF
        subst e_r
        subst e_z
        exact J_ireturn rfl rfl dX9_put_113 ⟨rfl, rfl⟩
    · rw [if_neg q6] at hF
      refine J_bipush (v := (-13)) dX9_put_24 (by decide) ?_
      obtain ⟨e_r, e_z⟩ := someP hF
      subst e_r
      subst e_z
      exact J_ireturn rfl rfl dX9_put_26 ⟨rfl, rfl⟩
  · rw [if_neg q3] at hF
    refine J_iload (j := 0) dX9_put_12 rfl ?_
    obtain ⟨e_r, e_z⟩ := someP hF
    subst e_r
    subst e_z
    exact J_ireturn rfl rfl dX9_put_14 ⟨rfl, rfl⟩
def f_X8_element (a1 : Int32) (a2 : Int32) (x : MX) : Option Int64 :=
  if (f_X8_isShelf a1) = true then
  if inb a1 6 = true then
  if (f_X6_refusalAsRow (68 + 2 * ix a1) x) = 0 then
  if (f_X6_hasPlaces (68 + 2 * ix a1) a2 1 x) = true then
  if inb a2 60 = true then
  some (xl x (68 + 2 * ix a1 + 1) (ix a2))
  else none
  else
  some (-9223372036854775808)
  else
  some (-9223372036854775808)
  else none
  else
  some (-9223372036854775808)
theorem S_X8_element {g : GC} {d : Nat} {a1 : Int32} {a2 : Int32} {x : MX} {m : MM} {r : Int64} (hd : 4 ≤ d) 
  (hF : f_X8_element a1 a2 x = some r) : JC g m_X8_element d 0 0 [.ref 5, .int a1, .int a2] (ST x m) (EQ (some (.long r)) (ST x m)) := by
  refine JC.of (by decide +kernel) (Nat.le_of_ble_eq_true rfl) ?_
  change J g m_X8_element d 0 0 0 [(0, .ref 5), (1, .int a1), (2, .int a2)] [] (ST x m) 0 0 (EQ (some (.long r)) (ST x m))
  unfold f_X8_element at hF
  refine J_iload_n (j := 1) dX8_element_0 rfl rfl ?_
  refine J_callSi (As := [.int a1]) (S := []) lkS_WithOneHand_91_X8_isShelf dX8_element_1 (S_X8_isShelf (by omega) rfl) (by omega) rfl rfl (Nat.le_of_ble_eq_true rfl) rfl ?_
  refine J_ifb_ne (tgt := 11) dX8_element_4 (by decide) (fun q1 => ?_) (fun q1 => ?_)
  · rw [if_pos q1] at hF
    refine J_aload_n (j := 0) dX8_element_11 rfl rfl ?_
    refine JX_getR (r := 54) fl_WithOneHand_58_7 dX8_element_12 c_5 rfl rfl ?_
    refine J_iload_n (j := 1) dX8_element_15 rfl rfl ?_
    obtain ⟨b2, hF⟩ := chk hF
    refine JX_aald (j := ix a1) (r := 68 + 2 * ix a1) (by decide) dX8_element_16 c_54 (inb_vp b2) rfl (rw_54 _ (inb_lt b2)) ?_
    refine J_astore_n (L' := [(3, .ref (68 + 2 * ix a1)), (0, .ref 5), (1, .int a1), (2, .int a2)]) dX8_element_17 rfl (by decide) rfl ?_
    refine J_aload_n (j := 0) dX8_element_18 rfl rfl ?_
    refine JX_callVi (As := []) (S := []) lkV_WithOneHand_314_X6_refusalAsRow rfl (by decide) dX8_element_19 (c_sh (sh_of (inb_lt b2))) (S_X6_refusalAsRow (by omega) (sh_of (inb_lt b2)) rfl) (by omega) rfl rfl (Nat.le_of_ble_eq_true rfl) rfl ?_
    refine J_if_ne (tgt := 34) dX8_element_22 (by decide) (fun q3 => ?_) (fun q3 => ?_)
    · rw [if_neg q3] at hF
      refine J_ldc2 (v := (-9223372036854775808)) (tb 638 (by decide +kernel)) dX8_element_34 ?_
      have e_r := Option.some.inj hF
      subst e_r
      exact J_lreturn rfl dX8_element_37 ⟨rfl, rfl⟩
    · rw [if_pos q3] at hF
      refine J_aload_n (j := 0) dX8_element_25 rfl rfl ?_
      refine J_iload_n (j := 3) dX8_element_26 rfl rfl ?_
      refine J_iconst (v := 1) dX8_element_27 (by decide) ?_
      refine JX_callVi (As := [.int a2, .int 1]) (S := []) lkV_WithOneHand_317_X6_hasPlaces rfl (by decide) dX8_element_28 (c_sh (sh_of (inb_lt b2))) (S_X6_hasPlaces (by omega) (sh_of (inb_lt b2)) rfl) (by omega) rfl rfl (Nat.le_of_ble_eq_true rfl) rfl ?_
      refine J_ifb_ne (tgt := 38) dX8_element_31 (by decide) (fun q4 => ?_) (fun q4 => ?_)
      · rw [if_pos q4] at hF
        refine J_aload_n (j := 0) dX8_element_38 rfl rfl ?_
        refine JX_getR (r := (68 + 2 * ix a1 + 1)) fl_WithOneHand_320_5 dX8_element_39 (c_sh (sh_of (inb_lt b2))) rfl rfl ?_
        refine J_iload_n (j := 3) dX8_element_42 rfl rfl ?_
        obtain ⟨b5, hF⟩ := chk hF
        refine JX_lald (j := ix a2) dX8_element_43 (c_she (sh_of (inb_lt b2))) (inb_vp b5) rfl ?_
        have e_r := Option.some.inj hF
        subst e_r
        exact J_lreturn rfl dX8_element_44 ⟨rfl, rfl⟩
      · rw [if_neg q4] at hF
        refine J_ldc2 (v := (-9223372036854775808)) (tb 638 (by decide +kernel)) dX8_element_34 ?_
        have e_r := Option.some.inj hF
        subst e_r
        exact J_lreturn rfl dX8_element_37 ⟨rfl, rfl⟩
  · rw [if_neg q1] at hF
    refine J_ldc2 (v := (-9223372036854775808)) (tb 638 (by decide +kernel)) dX8_element_7 ?_
    have e_r := Option.some.inj hF
    subst e_r
    exact J_lreturn rfl dX8_element_10 ⟨rfl, rfl⟩
def f_X9_element (a1 : Int32) (a2 : Int32) (m : MM) : Option Int64 :=
  ob (f_X9_barsOfRow a1 m) (fun r1 =>
  if r1 = 0 then
  ob (f_X9_isElement a1 a2 m) (fun r4 =>
  if r4 = true then
  if inb ((60 * a1) + a2) 360 = true then
  some (ml m 109 (ix ((60 * a1) + a2)))
  else none
  else
  some (-9223372036854775808))
  else
  some (-9223372036854775808))
theorem S_X9_element {g : GC} {d : Nat} {a1 : Int32} {a2 : Int32} {x : MX} {m : MM} {r : Int64} (hd : 3 ≤ d) 
  (hF : f_X9_element a1 a2 m = some r) : JC g m_X9_element d 0 0 [.ref 80, .int a1, .int a2] (ST x m) (EQ (some (.long r)) (ST x m)) := by
  refine JC.of (by decide +kernel) (Nat.le_of_ble_eq_true rfl) ?_
  change J g m_X9_element d 0 0 0 [(0, .ref 80), (1, .int a1), (2, .int a2)] [] (ST x m) 0 0 (EQ (some (.long r)) (ST x m))
  unfold f_X9_element at hF
  refine J_aload_n (j := 0) dX9_element_0 rfl rfl ?_
  refine J_iload_n (j := 1) dX9_element_1 rfl rfl ?_
  obtain ⟨r1, h2, hF⟩ := ob_some hF
  refine JM_callVi (As := [.int a1]) (S := []) lkV_WithOneHandModel_368_X9_barsOfRow rfl (by decide) dX9_element_2 c_80 (S_X9_barsOfRow (by omega) h2) (by omega) rfl rfl (Nat.le_of_ble_eq_true rfl) rfl ?_
  refine J_if_ne (tgt := 31) dX9_element_5 (by decide) (fun q3 => ?_) (fun q3 => ?_)
  · rw [if_neg q3] at hF
    refine J_ldc2 (v := (-9223372036854775808)) (tb 1289 (by decide +kernel)) dX9_element_31 ?_
    have e_r := Option.some.inj hF
    subst e_r
    exact J_lreturn rfl dX9_element_34 ⟨rfl, rfl⟩
  · rw [if_pos q3] at hF
    refine J_aload_n (j := 0) dX9_element_8 rfl rfl ?_
    refine J_iload_n (j := 1) dX9_element_9 rfl rfl ?_
    refine J_iload_n (j := 2) dX9_element_10 rfl rfl ?_
    obtain ⟨r4, h5, hF⟩ := ob_some hF
    refine JM_callVi (As := [.int a1, .int a2]) (S := []) lkV_WithOneHandModel_371_X9_isElement rfl (by decide) dX9_element_11 c_80 (S_X9_isElement (by omega) h5) (by omega) rfl rfl (Nat.le_of_ble_eq_true rfl) rfl ?_
    refine J_ifb_eq (tgt := 31) dX9_element_14 (by decide) (fun q6 => ?_) (fun q6 => ?_)
    · rw [if_neg q6] at hF
      refine J_ldc2 (v := (-9223372036854775808)) (tb 1289 (by decide +kernel)) dX9_element_31 ?_
      have e_r := Option.some.inj hF
      subst e_r
      exact J_lreturn rfl dX9_element_34 ⟨rfl, rfl⟩
    · rw [if_pos q6] at hF
      refine J_aload_n (j := 0) dX9_element_17 rfl rfl ?_
      refine JM_getR (r := 109) fl_WithOneHandModel_101_8 dX9_element_18 c_80 rfl rfl ?_
      refine J_bipush (v := 60) dX9_element_21 (by decide) ?_
      refine J_iload_n (j := 1) dX9_element_23 rfl rfl ?_
      refine J_imul dX9_element_24 ?_
      refine J_iload_n (j := 2) dX9_element_25 rfl rfl ?_
      refine J_iadd dX9_element_26 ?_
      obtain ⟨b7, hF⟩ := chk hF
      refine JM_lald (j := ix ((60 * a1) + a2)) dX9_element_27 c_109 (inb_vp b7) rfl ?_
      refine J_goto (tgt := 34) dX9_element_28 (by decide) ?_
      have e_r := Option.some.inj hF
      subst e_r
      exact J_lreturn rfl dX9_element_34 ⟨rfl, rfl⟩
def f_X8_shift (a1 : Int32) (a2 : Int32) (a3 : Int32) (a4 : Int32) (a5 : Int32) (x : MX) : Option (Int32 × MX) :=
  if (f_X8_isShelf a1) = true then
  if (f_X8_isShelf a3) = true then
  if inb a1 6 = true then
  if inb a3 6 = true then
  if (f_X6_holdsNothing (68 + 2 * ix a1) x) = true then
  some ((-11), x)
  else
  if (f_X6_holdsNothing (68 + 2 * ix a3) x) = true then
  some ((-11), x)
  else
  if (f_X6_holdsRow (68 + 2 * ix a1) x) = true then
  if (f_X6_holdsRowOf (68 + 2 * ix a3) (xi x (68 + 2 * ix a1) 1) x) = true then
  if (f_X6_hasPlaces (68 + 2 * ix a1) a2 a5 x) = true then
  if (f_X6_hasPlaces (68 + 2 * ix a3) a4 a5 x) = true then
  if ¬ a2 < 0 then
  if ¬ a4 < 0 then
  if ¬ a5 < 0 then
  if ix a2 + ix a5 ≤ 60 then
  if ix a4 + ix a5 ≤ 60 then
  letx (xcpl x (68 + 2 * ix a1 + 1) (68 + 2 * ix a3 + 1) (ix a2) (ix a4) (ix a5)) (fun x16 =>
  some (a5, x16))
  else none
  else none
  else none
  else none
  else none
  else
  some ((-13), x)
  else
  some ((-13), x)
  else
  some ((-12), x)
  else
  some ((-12), x)
  else none
  else none
  else
  some ((-1), x)
  else
  some ((-1), x)
theorem S_X8_shift {g : GC} {d : Nat} {a1 : Int32} {a2 : Int32} {a3 : Int32} {a4 : Int32} {a5 : Int32} {x : MX} {m : MM} {r : Int32} {z : MX} (hd : 3 ≤ d) 
  (hF : f_X8_shift a1 a2 a3 a4 a5 x = some (r, z)) : JC g m_X8_shift d 0 0 [.ref 5, .int a1, .int a2, .int a3, .int a4, .int a5] (ST x m) (EQ (some (.int r)) (ST z m)) := by
  refine JC.of (by decide +kernel) (Nat.le_of_ble_eq_true rfl) ?_
  change J g m_X8_shift d 0 0 0 [(0, .ref 5), (1, .int a1), (2, .int a2), (3, .int a3), (4, .int a4), (5, .int a5)] [] (ST x m) 0 0 (EQ (some (.int r)) (ST z m))
  unfold f_X8_shift at hF
  refine J_iload_n (j := 1) dX8_shift_0 rfl rfl ?_
  refine J_callSi (As := [.int a1]) (S := []) lkS_WithOneHand_91_X8_isShelf dX8_shift_1 (S_X8_isShelf (by omega) rfl) (by omega) rfl rfl (Nat.le_of_ble_eq_true rfl) rfl ?_
  refine J_ifb_eq (tgt := 14) dX8_shift_4 (by decide) (fun q1 => ?_) (fun q1 => ?_)
  · rw [if_neg q1] at hF
    refine J_iconst (v := (-1)) dX8_shift_14 (by decide) ?_
    obtain ⟨e_r, e_z⟩ := someP hF
    subst e_r
    subst e_z
    exact J_ireturn rfl rfl dX8_shift_15 ⟨rfl, rfl⟩
  · rw [if_pos q1] at hF
    refine J_iload_n (j := 3) dX8_shift_7 rfl rfl ?_
    refine J_callSi (As := [.int a3]) (S := []) lkS_WithOneHand_91_X8_isShelf dX8_shift_8 (S_X8_isShelf (by omega) rfl) (by omega) rfl rfl (Nat.le_of_ble_eq_true rfl) rfl ?_
    refine J_ifb_ne (tgt := 16) dX8_shift_11 (by decide) (fun q2 => ?_) (fun q2 => ?_)
    · rw [if_pos q2] at hF
      refine J_aload_n (j := 0) dX8_shift_16 rfl rfl ?_
      refine JX_getR (r := 54) fl_WithOneHand_58_7 dX8_shift_17 c_5 rfl rfl ?_
      refine J_iload_n (j := 1) dX8_shift_20 rfl rfl ?_
      obtain ⟨b3, hF⟩ := chk hF
      refine JX_aald (j := ix a1) (r := 68 + 2 * ix a1) (by decide) dX8_shift_21 c_54 (inb_vp b3) rfl (rw_54 _ (inb_lt b3)) ?_
      refine J_astore (L' := [(6, .ref (68 + 2 * ix a1)), (0, .ref 5), (1, .int a1), (2, .int a2), (3, .int a3), (4, .int a4), (5, .int a5)]) dX8_shift_22 (by decide) rfl ?_
      refine J_aload_n (j := 1) dX8_shift_24 rfl rfl ?_
      refine JX_getR (r := 54) fl_WithOneHand_58_7 dX8_shift_25 c_5 rfl rfl ?_
      refine J_iload_n (j := 4) dX8_shift_28 rfl rfl ?_
      obtain ⟨b4, hF⟩ := chk hF
      refine JX_aald (j := ix a3) (r := 68 + 2 * ix a3) (by decide) dX8_shift_29 c_54 (inb_vp b4) rfl (rw_54 _ (inb_lt b4)) ?_
      refine J_astore (L' := [(7, .ref (68 + 2 * ix a3)), (6, .ref (68 + 2 * ix a1)), (0, .ref 5), (1, .int a1), (2, .int a2), (3, .int a3), (4, .int a4), (5, .int a5)]) dX8_shift_30 (by decide) rfl ?_
      refine J_aload (j := 1) dX8_shift_32 rfl ?_
      refine JX_callVi (As := []) (S := []) lkV_WithOneHand_95_X6_holdsNothing rfl (by decide) dX8_shift_34 (c_sh (sh_of (inb_lt b3))) (S_X6_holdsNothing (by omega) (sh_of (inb_lt b3)) rfl) (by omega) rfl rfl (Nat.le_of_ble_eq_true rfl) rfl ?_
      refine J_ifb_ne (tgt := 48) dX8_shift_37 (by decide) (fun q5 => ?_) (fun q5 => ?_)
      · rw [if_pos q5] at hF
        refine J_bipush (v := (-11)) dX8_shift_48 (by decide) ?_
        obtain ⟨e_r, e_z⟩ := someP hF
        subst e_r
        subst e_z
        exact J_ireturn rfl rfl dX8_shift_50 ⟨rfl, rfl⟩
      · rw [if_neg q5] at hF
        refine J_aload (j := 0) dX8_shift_40 rfl ?_
        refine JX_callVi (As := []) (S := []) lkV_WithOneHand_95_X6_holdsNothing rfl (by decide) dX8_shift_42 (c_sh (sh_of (inb_lt b4))) (S_X6_holdsNothing (by omega) (sh_of (inb_lt b4)) rfl) (by omega) rfl rfl (Nat.le_of_ble_eq_true rfl) rfl ?_
        refine J_ifb_eq (tgt := 51) dX8_shift_45 (by decide) (fun q6 => ?_) (fun q6 => ?_)
        · rw [if_neg q6] at hF
          refine J_aload (j := 1) dX8_shift_51 rfl ?_
          refine JX_callVi (As := []) (S := []) lkV_WithOneHand_328_X6_holdsRow rfl (by decide) dX8_shift_53 (c_sh (sh_of (inb_lt b3))) (S_X6_holdsRow (by omega) (sh_of (inb_lt b3)) rfl) (by omega) rfl rfl (Nat.le_of_ble_eq_true rfl) rfl ?_
          refine J_ifb_eq (tgt := 72) dX8_shift_56 (by decide) (fun q7 => ?_) (fun q7 => ?_)
          · rw [if_neg q7] at hF
            refine J_bipush (v := (-12)) dX8_shift_72 (by decide) ?_
            obtain ⟨e_r, e_z⟩ := someP hF
            subst e_r
            subst e_z
            exact J_ireturn rfl rfl dX8_shift_74 ⟨rfl, rfl⟩
          · rw [if_pos q7] at hF
            refine J_aload (j := 0) dX8_shift_59 rfl ?_
            refine J_aload (j := 1) dX8_shift_61 rfl ?_
            refine JX_getI fl_WithOneHand_331_5 dX8_shift_63 (c_sh (sh_of (inb_lt b3))) rfl ?_
            refine JX_callVi (As := [.int (xi x (68 + 2 * ix a1) 1)]) (S := []) lkV_WithOneHand_99_X6_holdsRowOf rfl (by decide) dX8_shift_66 (c_sh (sh_of (inb_lt b4))) (S_X6_holdsRowOf (by omega) (sh_of (inb_lt b4)) rfl) (by omega) rfl rfl (Nat.le_of_ble_eq_true rfl) rfl ?_
            refine J_ifb_ne (tgt := 75) dX8_shift_69 (by decide) (fun q8 => ?_) (fun q8 => ?_)
            · rw [if_pos q8] at hF
              refine J_aload (j := 1) dX8_shift_75 rfl ?_
              refine J_iload_n (j := 4) dX8_shift_77 rfl rfl ?_
              refine J_iload (j := 7) dX8_shift_78 rfl ?_
              refine JX_callVi (As := [.int a2, .int a5]) (S := []) lkV_WithOneHand_317_X6_hasPlaces rfl (by decide) dX8_shift_80 (c_sh (sh_of (inb_lt b3))) (S_X6_hasPlaces (by omega) (sh_of (inb_lt b3)) rfl) (by omega) rfl rfl (Nat.le_of_ble_eq_true rfl) rfl ?_
              refine J_ifb_eq (tgt := 98) dX8_shift_83 (by decide) (fun q9 => ?_) (fun q9 => ?_)
              · rw [if_neg q9] at hF
                refine J_bipush (v := (-13)) dX8_shift_98 (by decide) ?_
                obtain ⟨e_r, e_z⟩ := someP hF
                subst e_r
                subst e_z
                exact J_ireturn rfl rfl dX8_shift_100 ⟨rfl, rfl⟩
              · rw [if_pos q9] at hF
                refine J_aload (j := 0) dX8_shift_86 rfl ?_
                refine J_iload (j := 6) dX8_shift_88 rfl ?_
                refine J_iload (j := 7) dX8_shift_90 rfl ?_
                refine JX_callVi (As := [.int a4, .int a5]) (S := []) lkV_WithOneHand_317_X6_hasPlaces rfl (by decide) dX8_shift_92 (c_sh (sh_of (inb_lt b4))) (S_X6_hasPlaces (by omega) (sh_of (inb_lt b4)) rfl) (by omega) rfl rfl (Nat.le_of_ble_eq_true rfl) rfl ?_
                refine J_ifb_ne (tgt := 101) dX8_shift_95 (by decide) (fun q10 => ?_) (fun q10 => ?_)
                · rw [if_pos q10] at hF
                  refine J_aload (j := 1) dX8_shift_101 rfl ?_
                  refine JX_getR (r := (68 + 2 * ix a1 + 1)) fl_WithOneHand_320_5 dX8_shift_103 (c_sh (sh_of (inb_lt b3))) rfl rfl ?_
                  refine J_iload_n (j := 4) dX8_shift_106 rfl rfl ?_
                  refine J_aload (j := 0) dX8_shift_107 rfl ?_
                  refine JX_getR (r := (68 + 2 * ix a3 + 1)) fl_WithOneHand_320_5 dX8_shift_109 (c_sh (sh_of (inb_lt b4))) rfl rfl ?_
                  refine J_iload (j := 6) dX8_shift_112 rfl ?_
                  refine J_iload (j := 7) dX8_shift_114 rfl ?_
                  obtain ⟨b11, hF⟩ := chk hF
                  obtain ⟨b12, hF⟩ := chk hF
                  obtain ⟨b13, hF⟩ := chk hF
                  obtain ⟨b14, hF⟩ := chk hF
                  obtain ⟨b15, hF⟩ := chk hF
                  obtain ⟨x16, e_x16, hF⟩ := letx_eq hF
                  refine JX_copyL (a := ix a2) (b := ix a4) (n' := ix a5) (tb 773 (by decide +kernel)) dX8_shift_116 (c_she (sh_of (inb_lt b3))) (c_she (sh_of (inb_lt b4))) b11 b12 b13 rfl rfl rfl b14 b15 (Nat.le_of_ble_eq_true rfl) ?_
                  rw [← e_x16]
                  refine J_iload (j := 7) dX8_shift_119 rfl ?_
                  obtain ⟨e_r, e_z⟩ := someP hF
                  subst e_r
                  subst e_z
                  exact J_ireturn rfl rfl dX8_shift_121 ⟨rfl, rfl⟩
                · rw [if_neg q10] at hF
                  refine J_bipush (v := (-13)) dX8_shift_98 (by decide) ?_
                  obtain ⟨e_r, e_z⟩ := someP hF
                  subst e_r
                  subst e_z
                  exact J_ireturn rfl rfl dX8_shift_100 ⟨rfl, rfl⟩
            · rw [if_neg q8] at hF
              refine J_bipush (v := (-12)) dX8_shift_72 (by decide) ?_
              obtain ⟨e_r, e_z⟩ := someP hF
              subst e_r
              subst e_z
              exact J_ireturn rfl rfl dX8_shift_74 ⟨rfl, rfl⟩
        · rw [if_pos q6] at hF
          refine J_bipush (v := (-11)) dX8_shift_48 (by decide) ?_
          obtain ⟨e_r, e_z⟩ := someP hF
          subst e_r
          subst e_z
          exact J_ireturn rfl rfl dX8_shift_50 ⟨rfl, rfl⟩
    · rw [if_neg q2] at hF
      refine J_iconst (v := (-1)) dX8_shift_14 (by decide) ?_
      obtain ⟨e_r, e_z⟩ := someP hF
      subst e_r
      subst e_z
      exact J_ireturn rfl rfl dX8_shift_15 ⟨rfl, rfl⟩
