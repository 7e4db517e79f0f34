def f_X2_acts (a1 : Int32) (a2 : Int32) (a3 : Int32) (x : MX) : Option (Int32 × MX) :=
  letx (xs x 51 3 0) (fun x1 =>
  if a1 < 0 then
  some (0, x1)
  else
  if (xi x1 51 2) ≤ a1 then
  some (0, x1)
  else
  if a2 < 0 then
  some (0, x1)
  else
  if a2 < 4 then
  letx (xs x1 51 4 a1) (fun x6 =>
  ob2 (f_X2_own a2 a3 0 x6) (fun r7 x8 =>
  some (r7, x8)))
  else
  some (0, x1))
theorem S_X2_acts {g : GC} {d : Nat} {a1 : Int32} {a2 : Int32} {a3 : Int32} {x : MX} {m : MM} {r : Int32} {z : MX} (hd : 103 ≤ d) 
  (hF : f_X2_acts a1 a2 a3 x = some (r, z)) : JC g m_X2_acts d 0 0 [.ref 51, .int a1, .int a2, .int a3] (ST x m) (EQ (some (.int r)) (ST z m)) := by
  refine JC.of (by decide +kernel) (Nat.le_of_ble_eq_true rfl) ?_
  change J g m_X2_acts d 0 0 0 [(0, .ref 51), (1, .int a1), (2, .int a2), (3, .int a3)] [] (ST x m) 0 0 (EQ (some (.int r)) (ST z m))
  unfold f_X2_acts at hF
  refine J_aload_n (j := 0) dX2_acts_0 rfl rfl ?_
  refine J_iconst (v := 0) dX2_acts_1 (by decide) ?_
  obtain ⟨x1, e_x1, hF⟩ := letx_eq hF
  refine JX_putI fl_Holes_29_2 dX2_acts_2 c_51 rfl rfl rfl ?_
  rw [← e_x1]
  refine J_iload_n (j := 1) dX2_acts_5 rfl rfl ?_
  refine J_if_lt (tgt := 26) dX2_acts_6 (by decide) (fun q2 => ?_) (fun q2 => ?_)
  · rw [if_pos q2] at hF
    refine J_iconst (v := 0) dX2_acts_26 (by decide) ?_
    obtain ⟨e_r, e_z⟩ := someP hF
    subst e_r
    subst e_z
    exact J_ireturn rfl rfl dX2_acts_27 ⟨rfl, rfl⟩
  · rw [if_neg q2] at hF
    refine J_iload_n (j := 1) dX2_acts_9 rfl rfl ?_
    refine J_aload_n (j := 0) dX2_acts_10 rfl rfl ?_
    refine JX_getI fl_Holes_21_2 dX2_acts_11 c_51 rfl ?_
    refine J_icmp_ge (tgt := 26) dX2_acts_14 (by decide) (fun q3 => ?_) (fun q3 => ?_)
    · rw [if_pos q3] at hF
      refine J_iconst (v := 0) dX2_acts_26 (by decide) ?_
      obtain ⟨e_r, e_z⟩ := someP hF
      subst e_r
      subst e_z
      exact J_ireturn rfl rfl dX2_acts_27 ⟨rfl, rfl⟩
    · rw [if_neg q3] at hF
      refine J_iload_n (j := 2) dX2_acts_17 rfl rfl ?_
      refine J_if_lt (tgt := 26) dX2_acts_18 (by decide) (fun q4 => ?_) (fun q4 => ?_)
      · rw [if_pos q4] at hF
        refine J_iconst (v := 0) dX2_acts_26 (by decide) ?_
        obtain ⟨e_r, e_z⟩ := someP hF
        subst e_r
        subst e_z
        exact J_ireturn rfl rfl dX2_acts_27 ⟨rfl, rfl⟩
      · rw [if_neg q4] at hF
        refine J_iload_n (j := 2) dX2_acts_21 rfl rfl ?_
        refine J_iconst (v := 4) dX2_acts_22 (by decide) ?_
        refine J_icmp_lt (tgt := 28) dX2_acts_23 (by decide) (fun q5 => ?_) (fun q5 => ?_)
        · rw [if_pos q5] at hF
          refine J_aload_n (j := 0) dX2_acts_28 rfl rfl ?_
          refine J_iload_n (j := 1) dX2_acts_29 rfl rfl ?_
          obtain ⟨x6, e_x6, hF⟩ := letx_eq hF
          refine JX_putI fl_Holes_32_2 dX2_acts_30 c_51 rfl rfl rfl ?_
          rw [← e_x6]
          refine J_aload_n (j := 0) dX2_acts_33 rfl rfl ?_
          refine J_iload_n (j := 2) dX2_acts_34 rfl rfl ?_
          refine J_iload_n (j := 3) dX2_acts_35 rfl rfl ?_
          refine J_iconst (v := 0) dX2_acts_36 (by decide) ?_
          obtain ⟨r7, x8, h9, hF⟩ := ob2_some hF
          refine JX_callVi (As := [.int a2, .int a3, .int 0]) (S := []) lkV_Holes_35_X2_own rfl (by decide) dX2_acts_37 c_51 (S_X2_own (by omega) h9) (by omega) rfl rfl (Nat.le_of_ble_eq_true rfl) rfl ?_
          obtain ⟨e_r, e_z⟩ := someP hF
          subst e_r
          subst e_z
          exact J_ireturn rfl rfl dX2_acts_40 ⟨rfl, rfl⟩
        · rw [if_neg q5] at hF
          refine J_iconst (v := 0) dX2_acts_26 (by decide) ?_
          obtain ⟨e_r, e_z⟩ := someP hF
          subst e_r
          subst e_z
          exact J_ireturn rfl rfl dX2_acts_27 ⟨rfl, rfl⟩
def f_X8_act (a1 : Int32) (a2 : Int32) (a3 : Int32) (x : MX) : Option (Int32 × MX) :=
  ob2 (f_X2_acts a1 a2 a3 x) (fun r1 x2 =>
  some (r1, x2))
theorem S_X8_act {g : GC} {d : Nat} {a1 : Int32} {a2 : Int32} {a3 : Int32} {x : MX} {m : MM} {r : Int32} {z : MX} (hd : 104 ≤ d) 
  (hF : f_X8_act a1 a2 a3 x = some (r, z)) : JC g m_X8_act d 0 0 [.ref 5, .int a1, .int a2, .int a3] (ST x m) (EQ (some (.int r)) (ST z m)) := by
  refine JC.of (by decide +kernel) (Nat.le_of_ble_eq_true rfl) ?_
  change J g m_X8_act d 0 0 0 [(0, .ref 5), (1, .int a1), (2, .int a2), (3, .int a3)] [] (ST x m) 0 0 (EQ (some (.int r)) (ST z m))
  unfold f_X8_act at hF
  refine J_aload_n (j := 0) dX8_act_0 rfl rfl ?_
  refine JX_getR (r := 51) fl_WithOneHand_52_7 dX8_act_1 c_5 rfl rfl ?_
  refine J_iload_n (j := 1) dX8_act_4 rfl rfl ?_
  refine J_iload_n (j := 2) dX8_act_5 rfl rfl ?_
  refine J_iload_n (j := 3) dX8_act_6 rfl rfl ?_
  obtain ⟨r1, x2, h3, hF⟩ := ob2_some hF
  refine JX_callVi (As := [.int a1, .int a2, .int a3]) (S := []) lkV_WithOneHand_292_X2_acts rfl (by decide) dX8_act_7 c_51 (S_X2_acts (by omega) h3) (by omega) rfl rfl (Nat.le_of_ble_eq_true rfl) rfl ?_
  obtain ⟨e_r, e_z⟩ := someP hF
  subst e_r
  subst e_z
  exact J_ireturn rfl rfl dX8_act_10 ⟨rfl, rfl⟩
def B_X9_runs_19 (m : MM) : Option MM :=
  letx (ms m 80 7 ((mi m 80 7) + 1)) (fun m2 =>
  some m2)
theorem SB_X9_runs_19 {g : GC} {d : Nat} {x : MX} {m : MM} {z : MM} (hd : 1 ≤ d) 
  (hF : B_X9_runs_19 m = some z) : J g m_X9_runs d 0 0 19 [(0, .ref 80)] [] (ST x m) 0 0 (EQ (none) (ST x z)) := by
  unfold B_X9_runs_19 at hF
  refine J_aload_n (j := 0) dX9_runs_19 rfl rfl ?_
  refine J_dup dX9_runs_20 rfl ?_
  refine JM_getI fl_WithOneHandModel_346_8 dX9_runs_21 c_80 rfl ?_
  refine J_iconst (v := 1) dX9_runs_24 (by decide) ?_
  refine J_iadd dX9_runs_25 ?_
  obtain ⟨m2, e_m2, hF⟩ := letx_eq hF
  refine JM_putI fl_WithOneHandModel_346_8 dX9_runs_26 c_80 rfl rfl rfl ?_
  rw [← e_m2]
  have e_r := Option.some.inj hF
  subst e_r
  exact J_return rfl dX9_runs_29 ⟨rfl, rfl⟩
def f_X9_runs (a1 : Int32) (m : MM) : Option MM :=
  if 24 ≤ (mi m 80 7) then
  B_X9_runs_19 m
  else
  if inb (mi m 80 7) 24 = true then
  letx (ms m 104 (ix (mi m 80 7)) a1) (fun m4 =>
  B_X9_runs_19 m4)
  else none
theorem S_X9_runs {g : GC} {d : Nat} {a1 : Int32} {x : MX} {m : MM} {z : MM} (hd : 1 ≤ d) 
  (hF : f_X9_runs a1 m = some z) : JC g m_X9_runs d 0 0 [.ref 80, .int a1] (ST x m) (EQ (none) (ST x z)) := by
  refine JC.of (by decide +kernel) (Nat.le_of_ble_eq_true rfl) ?_
  change J g m_X9_runs d 0 0 0 [(0, .ref 80), (1, .int a1)] [] (ST x m) 0 0 (EQ (none) (ST x z))
  unfold f_X9_runs at hF
  refine J_aload_n (j := 0) dX9_runs_0 rfl rfl ?_
  refine JM_getI fl_WithOneHandModel_346_8 dX9_runs_1 c_80 rfl ?_
  refine J_bipush (v := 24) dX9_runs_4 (by decide) ?_
  refine J_icmp_ge (tgt := 19) dX9_runs_6 (by decide) (fun q1 => ?_) (fun q1 => ?_)
  · rw [if_pos q1] at hF
    refine J_sub [0] rfl ?_
    exact SB_X9_runs_19 hd hF
  · rw [if_neg q1] at hF
    refine J_aload_n (j := 0) dX9_runs_9 rfl rfl ?_
    refine JM_getR (r := 104) fl_WithOneHandModel_86_8 dX9_runs_10 c_80 rfl rfl ?_
    refine J_aload_n (j := 0) dX9_runs_13 rfl rfl ?_
    refine JM_getI fl_WithOneHandModel_346_8 dX9_runs_14 c_80 rfl ?_
    refine J_iload_n (j := 1) dX9_runs_17 rfl rfl ?_
    obtain ⟨b3, hF⟩ := chk hF
    obtain ⟨m4, e_m4, hF⟩ := letx_eq hF
    refine JM_iast (j := ix (mi m 80 7)) dX9_runs_18 c_104 (inb_vp b3) rfl ?_
    rw [← e_m4]
    refine J_sub [0] rfl ?_
    exact SB_X9_runs_19 hd hF
def f_X9_above (a1 : Int32) : Int32 :=
  if a1 = 3 then
  2
  else
  if a1 = 4 then
  1
  else
  if a1 = 5 then
  3
  else
  if a1 = 7 then
  4
  else
  if a1 = 0 then
  (-1)
  else
  0
theorem S_X9_above {g : GC} {d : Nat} {a1 : Int32} {x : MX} {m : MM} {r : Int32} (hd : 1 ≤ d) 
  (hF : f_X9_above a1 = r) : JC g m_X9_above d 0 0 [.ref 80, .int a1] (ST x m) (EQ (some (.int r)) (ST x m)) := by
  refine JC.of (by decide +kernel) (Nat.le_of_ble_eq_true rfl) ?_
  change J g m_X9_above d 0 0 0 [(0, .ref 80), (1, .int a1)] [] (ST x m) 0 0 (EQ (some (.int r)) (ST x m))
  unfold f_X9_above at hF
  refine J_iload_n (j := 1) dX9_above_0 rfl rfl ?_
  refine J_tsw (n := 4) (td := 44) (cs := [(3, 36), (4, 38), (5, 40), (7, 42)]) dX9_above_1 (by decide) (by decide) (by decide +kernel) (by decide +kernel) ?_
  refine J_sw (fun q1 => ?_) (fun q1 => ?_)
  · rw [if_pos q1] at hF
    refine J_iconst (v := 2) dX9_above_36 (by decide) ?_
    subst hF
    exact J_ireturn rfl rfl dX9_above_37 ⟨rfl, rfl⟩
  rw [if_neg q1] at hF
  refine J_sw (fun q2 => ?_) (fun q2 => ?_)
  · rw [if_pos q2] at hF
    refine J_iconst (v := 1) dX9_above_38 (by decide) ?_
    subst hF
    exact J_ireturn rfl rfl dX9_above_39 ⟨rfl, rfl⟩
  rw [if_neg q2] at hF
  refine J_sw (fun q3 => ?_) (fun q3 => ?_)
  · rw [if_pos q3] at hF
    refine J_iconst (v := 3) dX9_above_40 (by decide) ?_
    subst hF
    exact J_ireturn rfl rfl dX9_above_41 ⟨rfl, rfl⟩
  rw [if_neg q3] at hF
  refine J_sw (fun q4 => ?_) (fun q4 => ?_)
  · rw [if_pos q4] at hF
    refine J_iconst (v := 4) dX9_above_42 (by decide) ?_
    subst hF
    exact J_ireturn rfl rfl dX9_above_43 ⟨rfl, rfl⟩
  rw [if_neg q4] at hF
  refine J_swd ?_
  refine J_iload_n (j := 1) dX9_above_44 rfl rfl ?_
  refine J_if_ne (tgt := 52) dX9_above_45 (by decide) (fun q5 => ?_) (fun q5 => ?_)
  · rw [if_neg q5] at hF
    refine J_iconst (v := 0) dX9_above_52 (by decide) ?_
    subst hF
    exact J_ireturn rfl rfl dX9_above_53 ⟨rfl, rfl⟩
  · rw [if_pos q5] at hF
    refine J_iconst (v := (-1)) dX9_above_48 (by decide) ?_
    refine J_goto (tgt := 53) dX9_above_49 (by decide) ?_
    subst hF
    exact J_ireturn rfl rfl dX9_above_53 ⟨rfl, rfl⟩
def R_X9_rings (s_X9_rings : Int32 → Int32 → Int32 → MM → Option (Int32 × MM)) (a1 : Int32) (a2 : Int32) (a3 : Int32) (m : MM) : Option (Int32 × MM) :=
  if a2 = 1 then
  ob (f_X9_runs 20 m) (fun m14 =>
  ob2 (s_X9_rings a1 (f_X9_above a2) a3 m14) (fun r16 m17 =>
  some (r16 + 3, m17)))
  else
  if a2 = 6 then
  ob (f_X9_runs 70 m) (fun m9 =>
  ob2 (s_X9_rings a1 (f_X9_above a2) a3 m9) (fun r11 m12 =>
  some (r11 * 2, m12)))
  else
  if a2 ≤ 0 then
  ob (f_X9_runs 1 m) (fun m4 =>
  some (a3 + a1, m4))
  else
  ob2 (s_X9_rings a1 (f_X9_above a2) a3 m) (fun r6 m7 =>
  some (r6, m7))
theorem SR_X9_rings {g : GC} {nn d : Nat} {s_X9_rings : Int32 → Int32 → Int32 → MM → Option (Int32 × MM)} {a1 : Int32} {a2 : Int32} {a3 : Int32} {x : MX} {m : MM} {r : Int32} {z : MM} (hd : nn + 3 ≤ d) (hs_s_X9_rings : ∀ (d : Nat), nn + 2 ≤ d → ∀ (a1 : Int32) (a2 : Int32) (a3 : Int32) (m : MM) (r : Int32) (z : MM), s_X9_rings a1 a2 a3 m = some (r, z) → JC g m_X9_rings d 0 0 [.ref 80, .int a1, .int a2, .int a3] (ST x m) (EQ (some (.int r)) (ST x z))) 
  (hF : R_X9_rings s_X9_rings a1 a2 a3 m = some (r, z)) : JC g m_X9_rings d 0 0 [.ref 80, .int a1, .int a2, .int a3] (ST x m) (EQ (some (.int r)) (ST x z)) := by
  refine JC.of (by decide +kernel) (Nat.le_of_ble_eq_true rfl) ?_
  change J g m_X9_rings d 0 0 0 [(0, .ref 80), (1, .int a1), (2, .int a2), (3, .int a3)] [] (ST x m) 0 0 (EQ (some (.int r)) (ST x z))
  unfold R_X9_rings at hF
  refine J_iload_n (j := 2) dX9_rings_0 rfl rfl ?_
  refine J_iconst (v := 1) dX9_rings_1 (by decide) ?_
  refine J_icmp_ne (tgt := 25) dX9_rings_2 (by decide) (fun q1 => ?_) (fun q1 => ?_)
  · rw [if_neg q1] at hF
    refine J_iload_n (j := 2) dX9_rings_25 rfl rfl ?_
    refine J_bipush (v := 6) dX9_rings_26 (by decide) ?_
    refine J_icmp_ne (tgt := 51) dX9_rings_28 (by decide) (fun q2 => ?_) (fun q2 => ?_)
    · rw [if_neg q2] at hF
      refine J_iload_n (j := 2) dX9_rings_51 rfl rfl ?_
      refine J_if_le (tgt := 67) dX9_rings_52 (by decide) (fun q3 => ?_) (fun q3 => ?_)
      · rw [if_pos q3] at hF
        refine J_aload_n (j := 0) dX9_rings_67 rfl rfl ?_
        refine J_iconst (v := 1) dX9_rings_68 (by decide) ?_
        obtain ⟨m4, h5, hF⟩ := ob_some hF
        refine JM_callVv (As := [.int 1]) (S := []) lkV_WithOneHandModel_349_X9_runs rfl (by decide) dX9_rings_69 c_80 (S_X9_runs (by omega) h5) (by omega) rfl rfl (Nat.le_of_ble_eq_true rfl) rfl ?_
        refine J_iload_n (j := 3) dX9_rings_72 rfl rfl ?_
        refine J_iload_n (j := 1) dX9_rings_73 rfl rfl ?_
        refine J_iadd dX9_rings_74 ?_
        obtain ⟨e_r, e_z⟩ := someP hF
        subst e_r
        subst e_z
        exact J_ireturn rfl rfl dX9_rings_75 ⟨rfl, rfl⟩
      · rw [if_neg q3] at hF
        refine J_aload_n (j := 0) dX9_rings_55 rfl rfl ?_
        refine J_iload_n (j := 1) dX9_rings_56 rfl rfl ?_
        refine J_aload_n (j := 0) dX9_rings_57 rfl rfl ?_
        refine J_iload_n (j := 2) dX9_rings_58 rfl rfl ?_
        refine JM_callVi (As := [.int a2]) (S := [.int a1, .ref 80]) lkV_WithOneHandModel_353_X9_above rfl (by decide) dX9_rings_59 c_80 (S_X9_above (by omega) rfl) (by omega) rfl rfl (Nat.le_of_ble_eq_true rfl) rfl ?_
        refine J_iload_n (j := 3) dX9_rings_62 rfl rfl ?_
        obtain ⟨r6, m7, h8, hF⟩ := ob2_some hF
        refine JM_callVi (As := [.int a1, .int (f_X9_above a2), .int a3]) (S := []) lkV_WithOneHandModel_356_X9_rings rfl (by decide) dX9_rings_63 c_80 (hs_s_X9_rings (d - 1) (by omega) _ _ _ _ _ _ h8) (by omega) rfl rfl (Nat.le_of_ble_eq_true rfl) rfl ?_
        obtain ⟨e_r, e_z⟩ := someP hF
        subst e_r
        subst e_z
        exact J_ireturn rfl rfl dX9_rings_66 ⟨rfl, rfl⟩
    · rw [if_pos q2] at hF
      refine J_aload_n (j := 0) dX9_rings_31 rfl rfl ?_
      refine J_bipush (v := 70) dX9_rings_32 (by decide) ?_
      obtain ⟨m9, h10, hF⟩ := ob_some hF
      refine JM_callVv (As := [.int 70]) (S := []) lkV_WithOneHandModel_349_X9_runs rfl (by decide) dX9_rings_34 c_80 (S_X9_runs (by omega) h10) (by omega) rfl rfl (Nat.le_of_ble_eq_true rfl) rfl ?_
      refine J_aload_n (j := 0) dX9_rings_37 rfl rfl ?_
      refine J_iload_n (j := 1) dX9_rings_38 rfl rfl ?_
      refine J_aload_n (j := 0) dX9_rings_39 rfl rfl ?_
      refine J_iload_n (j := 2) dX9_rings_40 rfl rfl ?_
      refine JM_callVi (As := [.int a2]) (S := [.int a1, .ref 80]) lkV_WithOneHandModel_353_X9_above rfl (by decide) dX9_rings_41 c_80 (S_X9_above (by omega) rfl) (by omega) rfl rfl (Nat.le_of_ble_eq_true rfl) rfl ?_
      refine J_iload_n (j := 3) dX9_rings_44 rfl rfl ?_
      obtain ⟨r11, m12, h13, hF⟩ := ob2_some hF
      refine JM_callVi (As := [.int a1, .int (f_X9_above a2), .int a3]) (S := []) lkV_WithOneHandModel_356_X9_rings rfl (by decide) dX9_rings_45 c_80 (hs_s_X9_rings (d - 1) (by omega) _ _ _ _ _ _ h13) (by omega) rfl rfl (Nat.le_of_ble_eq_true rfl) rfl ?_
      refine J_iconst (v := 2) dX9_rings_48 (by decide) ?_
      refine J_imul dX9_rings_49 ?_
      obtain ⟨e_r, e_z⟩ := someP hF
      subst e_r
      subst e_z
      exact J_ireturn rfl rfl dX9_rings_50 ⟨rfl, rfl⟩
  · rw [if_pos q1] at hF
    refine J_aload_n (j := 0) dX9_rings_5 rfl rfl ?_
    refine J_bipush (v := 20) dX9_rings_6 (by decide) ?_
    obtain ⟨m14, h15, hF⟩ := ob_some hF
    refine JM_callVv (As := [.int 20]) (S := []) lkV_WithOneHandModel_349_X9_runs rfl (by decide) dX9_rings_8 c_80 (S_X9_runs (by omega) h15) (by omega) rfl rfl (Nat.le_of_ble_eq_true rfl) rfl ?_
    refine J_aload_n (j := 0) dX9_rings_11 rfl rfl ?_
    refine J_iload_n (j := 1) dX9_rings_12 rfl rfl ?_
    refine J_aload_n (j := 0) dX9_rings_13 rfl rfl ?_
    refine J_iload_n (j := 2) dX9_rings_14 rfl rfl ?_
    refine JM_callVi (As := [.int a2]) (S := [.int a1, .ref 80]) lkV_WithOneHandModel_353_X9_above rfl (by decide) dX9_rings_15 c_80 (S_X9_above (by omega) rfl) (by omega) rfl rfl (Nat.le_of_ble_eq_true rfl) rfl ?_
    refine J_iload_n (j := 3) dX9_rings_18 rfl rfl ?_
    obtain ⟨r16, m17, h18, hF⟩ := ob2_some hF
    refine JM_callVi (As := [.int a1, .int (f_X9_above a2), .int a3]) (S := []) lkV_WithOneHandModel_356_X9_rings rfl (by decide) dX9_rings_19 c_80 (hs_s_X9_rings (d - 1) (by omega) _ _ _ _ _ _ h18) (by omega) rfl rfl (Nat.le_of_ble_eq_true rfl) rfl ?_
    refine J_iconst (v := 3) dX9_rings_22 (by decide) ?_
    refine J_iadd dX9_rings_23 ?_
    obtain ⟨e_r, e_z⟩ := someP hF
    subst e_r
    subst e_z
    exact J_ireturn rfl rfl dX9_rings_24 ⟨rfl, rfl⟩
def G_X9_rings : Nat → (Int32 → Int32 → Int32 → MM → Option (Int32 × MM))
  | 0 => fun _ _ _ _ => none
  | n + 1 => R_X9_rings (G_X9_rings n)
theorem SG_X9_rings {g : GC} {x : MX} : ∀ n : Nat, (∀ (d : Nat), n + 2 ≤ d → ∀ (a1 : Int32) (a2 : Int32) (a3 : Int32) (m : MM) (r : Int32) (z : MM), G_X9_rings n a1 a2 a3 m = some (r, z) → JC g m_X9_rings d 0 0 [.ref 80, .int a1, .int a2, .int a3] (ST x m) (EQ (some (.int r)) (ST x z))) := by
  intro n
  induction n with
  | zero =>
    exact fun d hd _ _ _ _ _ _ hF => absurd hF (fun q => by cases q)
  | succ n ih =>
    exact fun d hd _ _ _ _ _ _  hF => SR_X9_rings (nn := n) (by omega) ih  hF
def f_X9_rings (a1 : Int32) (a2 : Int32) (a3 : Int32) (m : MM) : Option (Int32 × MM) := G_X9_rings RF a1 a2 a3 m
theorem S_X9_rings {g : GC} {d : Nat} {a1 : Int32} {a2 : Int32} {a3 : Int32} {x : MX} {m : MM} {r : Int32} {z : MM} (hd : 102 ≤ d) 
  (hF : f_X9_rings a1 a2 a3 m = some (r, z)) : JC g m_X9_rings d 0 0 [.ref 80, .int a1, .int a2, .int a3] (ST x m) (EQ (some (.int r)) (ST x z)) := (SG_X9_rings RF) d (by unfold RF; omega) _ _ _ _ _ _  hF
def R_X9_doing (s_X9_doing : Int32 → Int32 → Int32 → MM → Option (Int32 × MM)) (a1 : Int32) (a2 : Int32) (a3 : Int32) (m : MM) : Option (Int32 × MM) :=
  if a2 = 3 then
  ob (f_X9_runs 40 m) (fun m18 =>
  ob2 (s_X9_doing a1 (f_X9_above a2) a3 m18) (fun r20 m21 =>
  some (r20 * 3, m21)))
  else
  if a2 = 4 then
  ob (f_X9_runs 50 m) (fun m9 =>
  ob2 (s_X9_doing a1 (f_X9_above a2) a3 m9) (fun r11 m12 =>
  if inb a1 50 = true then
  ob2 (f_X9_rings a1 (mi m12 103 (ix a1)) 2 m12) (fun r15 m16 =>
  some (r11 - r15, m16))
  else none))
  else
  if a2 ≤ 0 then
  ob (f_X9_runs 11 m) (fun m4 =>
  some (a3 ^^^ a1, m4))
  else
  ob2 (s_X9_doing a1 (f_X9_above a2) a3 m) (fun r6 m7 =>
  some (r6, m7))
theorem SR_X9_doing {g : GC} {nn d : Nat} {s_X9_doing : Int32 → Int32 → Int32 → MM → Option (Int32 × MM)} {a1 : Int32} {a2 : Int32} {a3 : Int32} {x : MX} {m : MM} {r : Int32} {z : MM} (hd : nn + 104 ≤ d) (hs_s_X9_doing : ∀ (d : Nat), nn + 103 ≤ d → ∀ (a1 : Int32) (a2 : Int32) (a3 : Int32) (m : MM) (r : Int32) (z : MM), s_X9_doing a1 a2 a3 m = some (r, z) → JC g m_X9_doing d 0 0 [.ref 80, .int a1, .int a2, .int a3] (ST x m) (EQ (some (.int r)) (ST x z))) 
  (hF : R_X9_doing s_X9_doing a1 a2 a3 m = some (r, z)) : JC g m_X9_doing d 0 0 [.ref 80, .int a1, .int a2, .int a3] (ST x m) (EQ (some (.int r)) (ST x z)) := by
  refine JC.of (by decide +kernel) (Nat.le_of_ble_eq_true rfl) ?_
  change J g m_X9_doing d 0 0 0 [(0, .ref 80), (1, .int a1), (2, .int a2), (3, .int a3)] [] (ST x m) 0 0 (EQ (some (.int r)) (ST x z))
  unfold R_X9_doing at hF
  refine J_iload_n (j := 2) dX9_doing_0 rfl rfl ?_
  refine J_iconst (v := 3) dX9_doing_1 (by decide) ?_
  refine J_icmp_ne (tgt := 25) dX9_doing_2 (by decide) (fun q1 => ?_) (fun q1 => ?_)
  · rw [if_neg q1] at hF
    refine J_iload_n (j := 2) dX9_doing_25 rfl rfl ?_
    refine J_iconst (v := 4) dX9_doing_26 (by decide) ?_
    refine J_icmp_ne (tgt := 65) dX9_doing_27 (by decide) (fun q2 => ?_) (fun q2 => ?_)
    · rw [if_neg q2] at hF
      refine J_iload_n (j := 2) dX9_doing_65 rfl rfl ?_
      refine J_if_le (tgt := 81) dX9_doing_66 (by decide) (fun q3 => ?_) (fun q3 => ?_)
      · rw [if_pos q3] at hF
        refine J_aload_n (j := 0) dX9_doing_81 rfl rfl ?_
        refine J_bipush (v := 11) dX9_doing_82 (by decide) ?_
        obtain ⟨m4, h5, hF⟩ := ob_some hF
        refine JM_callVv (As := [.int 11]) (S := []) lkV_WithOneHandModel_349_X9_runs rfl (by decide) dX9_doing_84 c_80 (S_X9_runs (by omega) h5) (by omega) rfl rfl (Nat.le_of_ble_eq_true rfl) rfl ?_
        refine J_iload_n (j := 3) dX9_doing_87 rfl rfl ?_
        refine J_iload_n (j := 1) dX9_doing_88 rfl rfl ?_
        refine J_ixor dX9_doing_89 ?_
        obtain ⟨e_r, e_z⟩ := someP hF
        subst e_r
        subst e_z
        exact J_ireturn rfl rfl dX9_doing_90 ⟨rfl, rfl⟩
      · rw [if_neg q3] at hF
        refine J_aload_n (j := 0) dX9_doing_69 rfl rfl ?_
        refine J_iload_n (j := 1) dX9_doing_70 rfl rfl ?_
        refine J_aload_n (j := 0) dX9_doing_71 rfl rfl ?_
        refine J_iload_n (j := 2) dX9_doing_72 rfl rfl ?_
        refine JM_callVi (As := [.int a2]) (S := [.int a1, .ref 80]) lkV_WithOneHandModel_353_X9_above rfl (by decide) dX9_doing_73 c_80 (S_X9_above (by omega) rfl) (by omega) rfl rfl (Nat.le_of_ble_eq_true rfl) rfl ?_
        refine J_iload_n (j := 3) dX9_doing_76 rfl rfl ?_
        obtain ⟨r6, m7, h8, hF⟩ := ob2_some hF
        refine JM_callVi (As := [.int a1, .int (f_X9_above a2), .int a3]) (S := []) lkV_WithOneHandModel_362_X9_doing rfl (by decide) dX9_doing_77 c_80 (hs_s_X9_doing (d - 1) (by omega) _ _ _ _ _ _ h8) (by omega) rfl rfl (Nat.le_of_ble_eq_true rfl) rfl ?_
        obtain ⟨e_r, e_z⟩ := someP hF
        subst e_r
        subst e_z
        exact J_ireturn rfl rfl dX9_doing_80 ⟨rfl, rfl⟩
    · rw [if_pos q2] at hF
      refine J_aload_n (j := 0) dX9_doing_30 rfl rfl ?_
      refine J_bipush (v := 50) dX9_doing_31 (by decide) ?_
      obtain ⟨m9, h10, hF⟩ := ob_some hF
      refine JM_callVv (As := [.int 50]) (S := []) lkV_WithOneHandModel_349_X9_runs rfl (by decide) dX9_doing_33 c_80 (S_X9_runs (by omega) h10) (by omega) rfl rfl (Nat.le_of_ble_eq_true rfl) rfl ?_
      refine J_aload_n (j := 0) dX9_doing_36 rfl rfl ?_
      refine J_iload_n (j := 1) dX9_doing_37 rfl rfl ?_
      refine J_aload_n (j := 0) dX9_doing_38 rfl rfl ?_
      refine J_iload_n (j := 2) dX9_doing_39 rfl rfl ?_
      refine JM_callVi (As := [.int a2]) (S := [.int a1, .ref 80]) lkV_WithOneHandModel_353_X9_above rfl (by decide) dX9_doing_40 c_80 (S_X9_above (by omega) rfl) (by omega) rfl rfl (Nat.le_of_ble_eq_true rfl) rfl ?_
      refine J_iload_n (j := 3) dX9_doing_43 rfl rfl ?_
      obtain ⟨r11, m12, h13, hF⟩ := ob2_some hF
      refine JM_callVi (As := [.int a1, .int (f_X9_above a2), .int a3]) (S := []) lkV_WithOneHandModel_362_X9_doing rfl (by decide) dX9_doing_44 c_80 (hs_s_X9_doing (d - 1) (by omega) _ _ _ _ _ _ h13) (by omega) rfl rfl (Nat.le_of_ble_eq_true rfl) rfl ?_
      refine J_istore (L' := [(4, .int r11), (0, .ref 80), (1, .int a1), (2, .int a2), (3, .int a3)]) dX9_doing_47 (by decide) rfl ?_
      refine J_iload (j := 0) dX9_doing_49 rfl ?_
      refine J_aload_n (j := 1) dX9_doing_51 rfl rfl ?_
      refine J_iload_n (j := 2) dX9_doing_52 rfl rfl ?_
      refine J_aload_n (j := 1) dX9_doing_53 rfl rfl ?_
      refine JM_getR (r := 103) fl_WithOneHandModel_83_8 dX9_doing_54 c_80 rfl rfl ?_
      refine J_iload_n (j := 2) dX9_doing_57 rfl rfl ?_
      obtain ⟨b14, hF⟩ := chk hF
      refine JM_iald (j := ix a1) dX9_doing_58 c_103 (inb_vp b14) rfl ?_
      refine J_iconst (v := 2) dX9_doing_59 (by decide) ?_
      obtain ⟨r15, m16, h17, hF⟩ := ob2_some hF
      refine JM_callVi (As := [.int a1, .int (mi m12 103 (ix a1)), .int 2]) (S := [.int r11]) lkV_WithOneHandModel_356_X9_rings rfl (by decide) dX9_doing_60 c_80 (S_X9_rings (by omega) h17) (by omega) rfl rfl (Nat.le_of_ble_eq_true rfl) rfl ?_
      refine J_isub dX9_doing_63 ?_
      obtain ⟨e_r, e_z⟩ := someP hF
      subst e_r
      subst e_z
      exact J_ireturn rfl rfl dX9_doing_64 ⟨rfl, rfl⟩
  · rw [if_pos q1] at hF
    refine J_aload_n (j := 0) dX9_doing_5 rfl rfl ?_
    refine J_bipush (v := 40) dX9_doing_6 (by decide) ?_
    obtain ⟨m18, h19, hF⟩ := ob_some hF
    refine JM_callVv (As := [.int 40]) (S := []) lkV_WithOneHandModel_349_X9_runs rfl (by decide) dX9_doing_8 c_80 (S_X9_runs (by omega) h19) (by omega) rfl rfl (Nat.le_of_ble_eq_true rfl) rfl ?_
    refine J_aload_n (j := 0) dX9_doing_11 rfl rfl ?_
    refine J_iload_n (j := 1) dX9_doing_12 rfl rfl ?_
    refine J_aload_n (j := 0) dX9_doing_13 rfl rfl ?_
    refine J_iload_n (j := 2) dX9_doing_14 rfl rfl ?_
    refine JM_callVi (As := [.int a2]) (S := [.int a1, .ref 80]) lkV_WithOneHandModel_353_X9_above rfl (by decide) dX9_doing_15 c_80 (S_X9_above (by omega) rfl) (by omega) rfl rfl (Nat.le_of_ble_eq_true rfl) rfl ?_
    refine J_iload_n (j := 3) dX9_doing_18 rfl rfl ?_
    obtain ⟨r20, m21, h22, hF⟩ := ob2_some hF
    refine JM_callVi (As := [.int a1, .int (f_X9_above a2), .int a3]) (S := []) lkV_WithOneHandModel_362_X9_doing rfl (by decide) dX9_doing_19 c_80 (hs_s_X9_doing (d - 1) (by omega) _ _ _ _ _ _ h22) (by omega) rfl rfl (Nat.le_of_ble_eq_true rfl) rfl ?_
    refine J_iconst (v := 3) dX9_doing_22 (by decide) ?_
    refine J_imul dX9_doing_23 ?_
    obtain ⟨e_r, e_z⟩ := someP hF
    subst e_r
    subst e_z
    exact J_ireturn rfl rfl dX9_doing_24 ⟨rfl, rfl⟩
def G_X9_doing : Nat → (Int32 → Int32 → Int32 → MM → Option (Int32 × MM))
  | 0 => fun _ _ _ _ => none
  | n + 1 => R_X9_doing (G_X9_doing n)
theorem SG_X9_doing {g : GC} {x : MX} : ∀ n : Nat, (∀ (d : Nat), n + 103 ≤ d → ∀ (a1 : Int32) (a2 : Int32) (a3 : Int32) (m : MM) (r : Int32) (z : MM), G_X9_doing n a1 a2 a3 m = some (r, z) → JC g m_X9_doing d 0 0 [.ref 80, .int a1, .int a2, .int a3] (ST x m) (EQ (some (.int r)) (ST x z))) := by
  intro n
  induction n with
  | zero =>
    exact fun d hd _ _ _ _ _ _ hF => absurd hF (fun q => by cases q)
  | succ n ih =>
    exact fun d hd _ _ _ _ _ _  hF => SR_X9_doing (nn := n) (by omega) ih  hF
def f_X9_doing (a1 : Int32) (a2 : Int32) (a3 : Int32) (m : MM) : Option (Int32 × MM) := G_X9_doing RF a1 a2 a3 m
theorem S_X9_doing {g : GC} {d : Nat} {a1 : Int32} {a2 : Int32} {a3 : Int32} {x : MX} {m : MM} {r : Int32} {z : MM} (hd : 203 ≤ d) 
  (hF : f_X9_doing a1 a2 a3 m = some (r, z)) : JC g m_X9_doing d 0 0 [.ref 80, .int a1, .int a2, .int a3] (ST x m) (EQ (some (.int r)) (ST x z)) := (SG_X9_doing RF) d (by unfold RF; omega) _ _ _ _ _ _  hF
def R_X9_hears (s_X9_hears : Int32 → Int32 → Int32 → MM → Option (Int32 × MM)) (a1 : Int32) (a2 : Int32) (a3 : Int32) (m : MM) : Option (Int32 × MM) :=
  if a2 = 2 then
  ob (f_X9_runs 30 m) (fun m28 =>
  ob2 (s_X9_hears a1 (f_X9_above a2) a3 m28) (fun r30 m31 =>
  some (-r30, m31)))
  else
  if a2 = 3 then
  ob (f_X9_runs 41 m) (fun m23 =>
  ob2 (s_X9_hears a1 (f_X9_above a2) (a3 + 1) m23) (fun r25 m26 =>
  some (r25, m26)))
  else
  if a2 = 7 then
  ob (f_X9_runs 80 m) (fun m14 =>
  ob2 (s_X9_hears a1 (f_X9_above a2) a3 m14) (fun r16 m17 =>
  if inb a1 50 = true then
  ob2 (f_X9_doing a1 (mi m17 103 (ix a1)) 2 m17) (fun r20 m21 =>
  some (r16 + r20, m21))
  else none))
  else
  if a2 ≤ 0 then
  ob (f_X9_runs 10 m) (fun m5 =>
  if inb a1 50 = true then
  ob2 (f_X9_rings a1 (mi m5 103 (ix a1)) a3 m5) (fun r8 m9 =>
  some (r8 * 2, m9))
  else none)
  else
  ob2 (s_X9_hears a1 (f_X9_above a2) a3 m) (fun r11 m12 =>
  some (r11, m12))
theorem SR_X9_hears {g : GC} {nn d : Nat} {s_X9_hears : Int32 → Int32 → Int32 → MM → Option (Int32 × MM)} {a1 : Int32} {a2 : Int32} {a3 : Int32} {x : MX} {m : MM} {r : Int32} {z : MM} (hd : nn + 205 ≤ d) (hs_s_X9_hears : ∀ (d : Nat), nn + 204 ≤ d → ∀ (a1 : Int32) (a2 : Int32) (a3 : Int32) (m : MM) (r : Int32) (z : MM), s_X9_hears a1 a2 a3 m = some (r, z) → JC g m_X9_hears d 0 0 [.ref 80, .int a1, .int a2, .int a3] (ST x m) (EQ (some (.int r)) (ST x z))) 
  (hF : R_X9_hears s_X9_hears a1 a2 a3 m = some (r, z)) : JC g m_X9_hears d 0 0 [.ref 80, .int a1, .int a2, .int a3] (ST x m) (EQ (some (.int r)) (ST x z)) := by
  refine JC.of (by decide +kernel) (Nat.le_of_ble_eq_true rfl) ?_
  change J g m_X9_hears d 0 0 0 [(0, .ref 80), (1, .int a1), (2, .int a2), (3, .int a3)] [] (ST x m) 0 0 (EQ (some (.int r)) (ST x z))
  unfold R_X9_hears at hF
  refine J_iload_n (j := 2) dX9_hears_0 rfl rfl ?_
  refine J_iconst (v := 2) dX9_hears_1 (by decide) ?_
  refine J_icmp_ne (tgt := 24) dX9_hears_2 (by decide) (fun q1 => ?_) (fun q1 => ?_)
  · rw [if_neg q1] at hF
    refine J_iload_n (j := 2) dX9_hears_24 rfl rfl ?_
    refine J_iconst (v := 3) dX9_hears_25 (by decide) ?_
    refine J_icmp_ne (tgt := 49) dX9_hears_26 (by decide) (fun q2 => ?_) (fun q2 => ?_)
    · rw [if_neg q2] at hF
      refine J_iload_n (j := 2) dX9_hears_49 rfl rfl ?_
      refine J_bipush (v := 7) dX9_hears_50 (by decide) ?_
      refine J_icmp_ne (tgt := 90) dX9_hears_52 (by decide) (fun q3 => ?_) (fun q3 => ?_)
      · rw [if_neg q3] at hF
        refine J_iload_n (j := 2) dX9_hears_90 rfl rfl ?_
        refine J_if_le (tgt := 106) dX9_hears_91 (by decide) (fun q4 => ?_) (fun q4 => ?_)
        · rw [if_pos q4] at hF
          refine J_aload_n (j := 0) dX9_hears_106 rfl rfl ?_
          refine J_bipush (v := 10) dX9_hears_107 (by decide) ?_
          obtain ⟨m5, h6, hF⟩ := ob_some hF
          refine JM_callVv (As := [.int 10]) (S := []) lkV_WithOneHandModel_349_X9_runs rfl (by decide) dX9_hears_109 c_80 (S_X9_runs (by omega) h6) (by omega) rfl rfl (Nat.le_of_ble_eq_true rfl) rfl ?_
          refine J_aload_n (j := 0) dX9_hears_112 rfl rfl ?_
          refine J_iload_n (j := 1) dX9_hears_113 rfl rfl ?_
          refine J_aload_n (j := 0) dX9_hears_114 rfl rfl ?_
          refine JM_getR (r := 103) fl_WithOneHandModel_83_8 dX9_hears_115 c_80 rfl rfl ?_
          refine J_iload_n (j := 1) dX9_hears_118 rfl rfl ?_
          obtain ⟨b7, hF⟩ := chk hF
          refine JM_iald (j := ix a1) dX9_hears_119 c_103 (inb_vp b7) rfl ?_
          refine J_iload_n (j := 3) dX9_hears_120 rfl rfl ?_
          obtain ⟨r8, m9, h10, hF⟩ := ob2_some hF
          refine JM_callVi (As := [.int a1, .int (mi m5 103 (ix a1)), .int a3]) (S := []) lkV_WithOneHandModel_356_X9_rings rfl (by decide) dX9_hears_121 c_80 (S_X9_rings (by omega) h10) (by omega) rfl rfl (Nat.le_of_ble_eq_true rfl) rfl ?_
          refine J_iconst (v := 2) dX9_hears_124 (by decide) ?_
          refine J_imul dX9_hears_125 ?_
          obtain ⟨e_r, e_z⟩ := someP hF
          subst e_r
          subst e_z
          exact J_ireturn rfl rfl dX9_hears_126 ⟨rfl, rfl⟩
        · rw [if_neg q4] at hF
          refine J_aload_n (j := 0) dX9_hears_94 rfl rfl ?_
          refine J_iload_n (j := 1) dX9_hears_95 rfl rfl ?_
          refine J_aload_n (j := 0) dX9_hears_96 rfl rfl ?_
          refine J_iload_n (j := 2) dX9_hears_97 rfl rfl ?_
          refine JM_callVi (As := [.int a2]) (S := [.int a1, .ref 80]) lkV_WithOneHandModel_353_X9_above rfl (by decide) dX9_hears_98 c_80 (S_X9_above (by omega) rfl) (by omega) rfl rfl (Nat.le_of_ble_eq_true rfl) rfl ?_
          refine J_iload_n (j := 3) dX9_hears_101 rfl rfl ?_
          obtain ⟨r11, m12, h13, hF⟩ := ob2_some hF
          refine JM_callVi (As := [.int a1, .int (f_X9_above a2), .int a3]) (S := []) lkV_WithOneHandModel_359_X9_hears rfl (by decide) dX9_hears_102 c_80 (hs_s_X9_hears (d - 1) (by omega) _ _ _ _ _ _ h13) (by omega) rfl rfl (Nat.le_of_ble_eq_true rfl) rfl ?_
          obtain ⟨e_r, e_z⟩ := someP hF
          subst e_r
          subst e_z
          exact J_ireturn rfl rfl dX9_hears_105 ⟨rfl, rfl⟩
      · rw [if_pos q3] at hF
        refine J_aload_n (j := 0) dX9_hears_55 rfl rfl ?_
        refine J_bipush (v := 80) dX9_hears_56 (by decide) ?_
        obtain ⟨m14, h15, hF⟩ := ob_some hF
        refine JM_callVv (As := [.int 80]) (S := []) lkV_WithOneHandModel_349_X9_runs rfl (by decide) dX9_hears_58 c_80 (S_X9_runs (by omega) h15) (by omega) rfl rfl (Nat.le_of_ble_eq_true rfl) rfl ?_
        refine J_aload_n (j := 0) dX9_hears_61 rfl rfl ?_
        refine J_iload_n (j := 1) dX9_hears_62 rfl rfl ?_
        refine J_aload_n (j := 0) dX9_hears_63 rfl rfl ?_
        refine J_iload_n (j := 2) dX9_hears_64 rfl rfl ?_
        refine JM_callVi (As := [.int a2]) (S := [.int a1, .ref 80]) lkV_WithOneHandModel_353_X9_above rfl (by decide) dX9_hears_65 c_80 (S_X9_above (by omega) rfl) (by omega) rfl rfl (Nat.le_of_ble_eq_true rfl) rfl ?_
        refine J_iload_n (j := 3) dX9_hears_68 rfl rfl ?_
        obtain ⟨r16, m17, h18, hF⟩ := ob2_some hF
        refine JM_callVi (As := [.int a1, .int (f_X9_above a2), .int a3]) (S := []) lkV_WithOneHandModel_359_X9_hears rfl (by decide) dX9_hears_69 c_80 (hs_s_X9_hears (d - 1) (by omega) _ _ _ _ _ _ h18) (by omega) rfl rfl (Nat.le_of_ble_eq_true rfl) rfl ?_
        refine J_istore (L' := [(4, .int r16), (0, .ref 80), (1, .int a1), (2, .int a2), (3, .int a3)]) dX9_hears_72 (by decide) rfl ?_
        refine J_iload (j := 0) dX9_hears_74 rfl ?_
        refine J_aload_n (j := 1) dX9_hears_76 rfl rfl ?_
        refine J_iload_n (j := 2) dX9_hears_77 rfl rfl ?_
        refine J_aload_n (j := 1) dX9_hears_78 rfl rfl ?_
        refine JM_getR (r := 103) fl_WithOneHandModel_83_8 dX9_hears_79 c_80 rfl rfl ?_
        refine J_iload_n (j := 2) dX9_hears_82 rfl rfl ?_
        obtain ⟨b19, hF⟩ := chk hF
        refine JM_iald (j := ix a1) dX9_hears_83 c_103 (inb_vp b19) rfl ?_
        refine J_iconst (v := 2) dX9_hears_84 (by decide) ?_
        obtain ⟨r20, m21, h22, hF⟩ := ob2_some hF
        refine JM_callVi (As := [.int a1, .int (mi m17 103 (ix a1)), .int 2]) (S := [.int r16]) lkV_WithOneHandModel_362_X9_doing rfl (by decide) dX9_hears_85 c_80 (S_X9_doing (by omega) h22) (by omega) rfl rfl (Nat.le_of_ble_eq_true rfl) rfl ?_
        refine J_iadd dX9_hears_88 ?_
        obtain ⟨e_r, e_z⟩ := someP hF
        subst e_r
        subst e_z
        exact J_ireturn rfl rfl dX9_hears_89 ⟨rfl, rfl⟩
    · rw [if_pos q2] at hF
      refine J_aload_n (j := 0) dX9_hears_29 rfl rfl ?_
      refine J_bipush (v := 41) dX9_hears_30 (by decide) ?_
      obtain ⟨m23, h24, hF⟩ := ob_some hF
      refine JM_callVv (As := [.int 41]) (S := []) lkV_WithOneHandModel_349_X9_runs rfl (by decide) dX9_hears_32 c_80 (S_X9_runs (by omega) h24) (by omega) rfl rfl (Nat.le_of_ble_eq_true rfl) rfl ?_
      refine J_aload_n (j := 0) dX9_hears_35 rfl rfl ?_
      refine J_iload_n (j := 1) dX9_hears_36 rfl rfl ?_
      refine J_aload_n (j := 0) dX9_hears_37 rfl rfl ?_
      refine J_iload_n (j := 2) dX9_hears_38 rfl rfl ?_
      refine JM_callVi (As := [.int a2]) (S := [.int a1, .ref 80]) lkV_WithOneHandModel_353_X9_above rfl (by decide) dX9_hears_39 c_80 (S_X9_above (by omega) rfl) (by omega) rfl rfl (Nat.le_of_ble_eq_true rfl) rfl ?_
      refine J_iload_n (j := 3) dX9_hears_42 rfl rfl ?_
      refine J_iconst (v := 1) dX9_hears_43 (by decide) ?_
      refine J_iadd dX9_hears_44 ?_
      obtain ⟨r25, m26, h27, hF⟩ := ob2_some hF
      refine JM_callVi (As := [.int a1, .int (f_X9_above a2), .int (a3 + 1)]) (S := []) lkV_WithOneHandModel_359_X9_hears rfl (by decide) dX9_hears_45 c_80 (hs_s_X9_hears (d - 1) (by omega) _ _ _ _ _ _ h27) (by omega) rfl rfl (Nat.le_of_ble_eq_true rfl) rfl ?_
      obtain ⟨e_r, e_z⟩ := someP hF
      subst e_r
      subst e_z
      exact J_ireturn rfl rfl dX9_hears_48 ⟨rfl, rfl⟩
  · rw [if_pos q1] at hF
    refine J_aload_n (j := 0) dX9_hears_5 rfl rfl ?_
    refine J_bipush (v := 30) dX9_hears_6 (by decide) ?_
    obtain ⟨m28, h29, hF⟩ := ob_some hF
    refine JM_callVv (As := [.int 30]) (S := []) lkV_WithOneHandModel_349_X9_runs rfl (by decide) dX9_hears_8 c_80 (S_X9_runs (by omega) h29) (by omega) rfl rfl (Nat.le_of_ble_eq_true rfl) rfl ?_
    refine J_aload_n (j := 0) dX9_hears_11 rfl rfl ?_
    refine J_iload_n (j := 1) dX9_hears_12 rfl rfl ?_
    refine J_aload_n (j := 0) dX9_hears_13 rfl rfl ?_
    refine J_iload_n (j := 2) dX9_hears_14 rfl rfl ?_
    refine JM_callVi (As := [.int a2]) (S := [.int a1, .ref 80]) lkV_WithOneHandModel_353_X9_above rfl (by decide) dX9_hears_15 c_80 (S_X9_above (by omega) rfl) (by omega) rfl rfl (Nat.le_of_ble_eq_true rfl) rfl ?_
    refine J_iload_n (j := 3) dX9_hears_18 rfl rfl ?_
    obtain ⟨r30, m31, h32, hF⟩ := ob2_some hF
    refine JM_callVi (As := [.int a1, .int (f_X9_above a2), .int a3]) (S := []) lkV_WithOneHandModel_359_X9_hears rfl (by decide) dX9_hears_19 c_80 (hs_s_X9_hears (d - 1) (by omega) _ _ _ _ _ _ h32) (by omega) rfl rfl (Nat.le_of_ble_eq_true rfl) rfl ?_
    refine J_ineg dX9_hears_22 ?_
    obtain ⟨e_r, e_z⟩ := someP hF
    subst e_r
    subst e_z
    exact J_ireturn rfl rfl dX9_hears_23 ⟨rfl, rfl⟩
def G_X9_hears : Nat → (Int32 → Int32 → Int32 → MM → Option (Int32 × MM))
  | 0 => fun _ _ _ _ => none
  | n + 1 => R_X9_hears (G_X9_hears n)
theorem SG_X9_hears {g : GC} {x : MX} : ∀ n : Nat, (∀ (d : Nat), n + 204 ≤ d → ∀ (a1 : Int32) (a2 : Int32) (a3 : Int32) (m : MM) (r : Int32) (z : MM), G_X9_hears n a1 a2 a3 m = some (r, z) → JC g m_X9_hears d 0 0 [.ref 80, .int a1, .int a2, .int a3] (ST x m) (EQ (some (.int r)) (ST x z))) := by
  intro n
  induction n with
  | zero =>
    exact fun d hd _ _ _ _ _ _ hF => absurd hF (fun q => by cases q)
  | succ n ih =>
    exact fun d hd _ _ _ _ _ _  hF => SR_X9_hears (nn := n) (by omega) ih  hF
def f_X9_hears (a1 : Int32) (a2 : Int32) (a3 : Int32) (m : MM) : Option (Int32 × MM) := G_X9_hears RF a1 a2 a3 m
theorem S_X9_hears {g : GC} {d : Nat} {a1 : Int32} {a2 : Int32} {a3 : Int32} {x : MX} {m : MM} {r : Int32} {z : MM} (hd : 304 ≤ d) 
  (hF : f_X9_hears a1 a2 a3 m = some (r, z)) : JC g m_X9_hears d 0 0 [.ref 80, .int a1, .int a2, .int a3] (ST x m) (EQ (some (.int r)) (ST x z)) := (SG_X9_hears RF) d (by unfold RF; omega) _ _ _ _ _ _  hF
def R_X9_tells (s_X9_tells : Int32 → Int32 → Int32 → MM → Option (Int32 × MM)) (a1 : Int32) (a2 : Int32) (a3 : Int32) (m : MM) : Option (Int32 × MM) :=
  if a2 = 5 then
  ob (f_X9_runs 60 m) (fun m21 =>
  ob2 (s_X9_tells a1 (f_X9_above a2) a3 m21) (fun r23 m24 =>
  some (r23 ^^^ 5, m24)))
  else
  if a2 = 7 then
  ob (f_X9_runs 81 m) (fun m16 =>
  ob2 (s_X9_tells a1 (f_X9_above a2) a3 m16) (fun r18 m19 =>
  some (r18 - 1, m19)))
  else
  if a2 ≤ 0 then
  ob (f_X9_runs 2 m) (fun m4 =>
  if inb a1 50 = true then
  ob2 (f_X9_hears a1 (mi m4 103 (ix a1)) a3 m4) (fun r7 m8 =>
  ob2 (f_X9_doing a1 (mi m8 103 (ix a1)) 1 m8) (fun r10 m11 =>
  some (r7 - r10, m11)))
  else none)
  else
  ob2 (s_X9_tells a1 (f_X9_above a2) a3 m) (fun r13 m14 =>
  some (r13, m14))
theorem SR_X9_tells {g : GC} {nn d : Nat} {s_X9_tells : Int32 → Int32 → Int32 → MM → Option (Int32 × MM)} {a1 : Int32} {a2 : Int32} {a3 : Int32} {x : MX} {m : MM} {r : Int32} {z : MM} (hd : nn + 306 ≤ d) (hs_s_X9_tells : ∀ (d : Nat), nn + 305 ≤ d → ∀ (a1 : Int32) (a2 : Int32) (a3 : Int32) (m : MM) (r : Int32) (z : MM), s_X9_tells a1 a2 a3 m = some (r, z) → JC g m_X9_tells d 0 0 [.ref 80, .int a1, .int a2, .int a3] (ST x m) (EQ (some (.int r)) (ST x z))) 
  (hF : R_X9_tells s_X9_tells a1 a2 a3 m = some (r, z)) : JC g m_X9_tells d 0 0 [.ref 80, .int a1, .int a2, .int a3] (ST x m) (EQ (some (.int r)) (ST x z)) := by
  refine JC.of (by decide +kernel) (Nat.le_of_ble_eq_true rfl) ?_
  change J g m_X9_tells d 0 0 0 [(0, .ref 80), (1, .int a1), (2, .int a2), (3, .int a3)] [] (ST x m) 0 0 (EQ (some (.int r)) (ST x z))
  unfold R_X9_tells at hF
  refine J_iload_n (j := 2) dX9_tells_0 rfl rfl ?_
  refine J_iconst (v := 5) dX9_tells_1 (by decide) ?_
  refine J_icmp_ne (tgt := 25) dX9_tells_2 (by decide) (fun q1 => ?_) (fun q1 => ?_)
  · rw [if_neg q1] at hF
    refine J_iload_n (j := 2) dX9_tells_25 rfl rfl ?_
    refine J_bipush (v := 7) dX9_tells_26 (by decide) ?_
    refine J_icmp_ne (tgt := 51) dX9_tells_28 (by decide) (fun q2 => ?_) (fun q2 => ?_)
    · rw [if_neg q2] at hF
      refine J_iload_n (j := 2) dX9_tells_51 rfl rfl ?_
      refine J_if_le (tgt := 67) dX9_tells_52 (by decide) (fun q3 => ?_) (fun q3 => ?_)
      · rw [if_pos q3] at hF
        refine J_aload_n (j := 0) dX9_tells_67 rfl rfl ?_
        refine J_iconst (v := 2) dX9_tells_68 (by decide) ?_
        obtain ⟨m4, h5, hF⟩ := ob_some hF
        refine JM_callVv (As := [.int 2]) (S := []) lkV_WithOneHandModel_349_X9_runs rfl (by decide) dX9_tells_69 c_80 (S_X9_runs (by omega) h5) (by omega) rfl rfl (Nat.le_of_ble_eq_true rfl) rfl ?_
        refine J_aload_n (j := 0) dX9_tells_72 rfl rfl ?_
        refine J_iload_n (j := 1) dX9_tells_73 rfl rfl ?_
        refine J_aload_n (j := 0) dX9_tells_74 rfl rfl ?_
        refine JM_getR (r := 103) fl_WithOneHandModel_83_8 dX9_tells_75 c_80 rfl rfl ?_
        refine J_iload_n (j := 1) dX9_tells_78 rfl rfl ?_
        obtain ⟨b6, hF⟩ := chk hF
        refine JM_iald (j := ix a1) dX9_tells_79 c_103 (inb_vp b6) rfl ?_
        refine J_iload_n (j := 3) dX9_tells_80 rfl rfl ?_
        obtain ⟨r7, m8, h9, hF⟩ := ob2_some hF
        refine JM_callVi (As := [.int a1, .int (mi m4 103 (ix a1)), .int a3]) (S := []) lkV_WithOneHandModel_359_X9_hears rfl (by decide) dX9_tells_81 c_80 (S_X9_hears (by omega) h9) (by omega) rfl rfl (Nat.le_of_ble_eq_true rfl) rfl ?_
        refine J_istore (L' := [(4, .int r7), (0, .ref 80), (1, .int a1), (2, .int a2), (3, .int a3)]) dX9_tells_84 (by decide) rfl ?_
        refine J_iload (j := 0) dX9_tells_86 rfl ?_
        refine J_aload_n (j := 1) dX9_tells_88 rfl rfl ?_
        refine J_iload_n (j := 2) dX9_tells_89 rfl rfl ?_
        refine J_aload_n (j := 1) dX9_tells_90 rfl rfl ?_
        refine JM_getR (r := 103) fl_WithOneHandModel_83_8 dX9_tells_91 c_80 rfl rfl ?_
        refine J_iload_n (j := 2) dX9_tells_94 rfl rfl ?_
        refine JM_iald (j := ix a1) dX9_tells_95 c_103 (inb_vp b6) rfl ?_
        refine J_iconst (v := 1) dX9_tells_96 (by decide) ?_
        obtain ⟨r10, m11, h12, hF⟩ := ob2_some hF
        refine JM_callVi (As := [.int a1, .int (mi m8 103 (ix a1)), .int 1]) (S := [.int r7]) lkV_WithOneHandModel_362_X9_doing rfl (by decide) dX9_tells_97 c_80 (S_X9_doing (by omega) h12) (by omega) rfl rfl (Nat.le_of_ble_eq_true rfl) rfl ?_
        refine J_isub dX9_tells_100 ?_
        obtain ⟨e_r, e_z⟩ := someP hF
        subst e_r
        subst e_z
        exact J_ireturn rfl rfl dX9_tells_101 ⟨rfl, rfl⟩
      · rw [if_neg q3] at hF
        refine J_aload_n (j := 0) dX9_tells_55 rfl rfl ?_
        refine J_iload_n (j := 1) dX9_tells_56 rfl rfl ?_
        refine J_aload_n (j := 0) dX9_tells_57 rfl rfl ?_
        refine J_iload_n (j := 2) dX9_tells_58 rfl rfl ?_
        refine JM_callVi (As := [.int a2]) (S := [.int a1, .ref 80]) lkV_WithOneHandModel_353_X9_above rfl (by decide) dX9_tells_59 c_80 (S_X9_above (by omega) rfl) (by omega) rfl rfl (Nat.le_of_ble_eq_true rfl) rfl ?_
        refine J_iload_n (j := 3) dX9_tells_62 rfl rfl ?_
        obtain ⟨r13, m14, h15, hF⟩ := ob2_some hF
        refine JM_callVi (As := [.int a1, .int (f_X9_above a2), .int a3]) (S := []) lkV_WithOneHandModel_365_X9_tells rfl (by decide) dX9_tells_63 c_80 (hs_s_X9_tells (d - 1) (by omega) _ _ _ _ _ _ h15) (by omega) rfl rfl (Nat.le_of_ble_eq_true rfl) rfl ?_
        obtain ⟨e_r, e_z⟩ := someP hF
        subst e_r
        subst e_z
        exact J_ireturn rfl rfl dX9_tells_66 ⟨rfl, rfl⟩
    · rw [if_pos q2] at hF
      refine J_aload_n (j := 0) dX9_tells_31 rfl rfl ?_
      refine J_bipush (v := 81) dX9_tells_32 (by decide) ?_
      obtain ⟨m16, h17, hF⟩ := ob_some hF
      refine JM_callVv (As := [.int 81]) (S := []) lkV_WithOneHandModel_349_X9_runs rfl (by decide) dX9_tells_34 c_80 (S_X9_runs (by omega) h17) (by omega) rfl rfl (Nat.le_of_ble_eq_true rfl) rfl ?_
      refine J_aload_n (j := 0) dX9_tells_37 rfl rfl ?_
      refine J_iload_n (j := 1) dX9_tells_38 rfl rfl ?_
      refine J_aload_n (j := 0) dX9_tells_39 rfl rfl ?_
      refine J_iload_n (j := 2) dX9_tells_40 rfl rfl ?_
      refine JM_callVi (As := [.int a2]) (S := [.int a1, .ref 80]) lkV_WithOneHandModel_353_X9_above rfl (by decide) dX9_tells_41 c_80 (S_X9_above (by omega) rfl) (by omega) rfl rfl (Nat.le_of_ble_eq_true rfl) rfl ?_
      refine J_iload_n (j := 3) dX9_tells_44 rfl rfl ?_
      obtain ⟨r18, m19, h20, hF⟩ := ob2_some hF
      refine JM_callVi (As := [.int a1, .int (f_X9_above a2), .int a3]) (S := []) lkV_WithOneHandModel_365_X9_tells rfl (by decide) dX9_tells_45 c_80 (hs_s_X9_tells (d - 1) (by omega) _ _ _ _ _ _ h20) (by omega) rfl rfl (Nat.le_of_ble_eq_true rfl) rfl ?_
      refine J_iconst (v := 1) dX9_tells_48 (by decide) ?_
      refine J_isub dX9_tells_49 ?_
      obtain ⟨e_r, e_z⟩ := someP hF
      subst e_r
      subst e_z
      exact J_ireturn rfl rfl dX9_tells_50 ⟨rfl, rfl⟩
  · rw [if_pos q1] at hF
    refine J_aload_n (j := 0) dX9_tells_5 rfl rfl ?_
    refine J_bipush (v := 60) dX9_tells_6 (by decide) ?_
    obtain ⟨m21, h22, hF⟩ := ob_some hF
    refine JM_callVv (As := [.int 60]) (S := []) lkV_WithOneHandModel_349_X9_runs rfl (by decide) dX9_tells_8 c_80 (S_X9_runs (by omega) h22) (by omega) rfl rfl (Nat.le_of_ble_eq_true rfl) rfl ?_
    refine J_aload_n (j := 0) dX9_tells_11 rfl rfl ?_
    refine J_iload_n (j := 1) dX9_tells_12 rfl rfl ?_
    refine J_aload_n (j := 0) dX9_tells_13 rfl rfl ?_
    refine J_iload_n (j := 2) dX9_tells_14 rfl rfl ?_
    refine JM_callVi (As := [.int a2]) (S := [.int a1, .ref 80]) lkV_WithOneHandModel_353_X9_above rfl (by decide) dX9_tells_15 c_80 (S_X9_above (by omega) rfl) (by omega) rfl rfl (Nat.le_of_ble_eq_true rfl) rfl ?_
    refine J_iload_n (j := 3) dX9_tells_18 rfl rfl ?_
    obtain ⟨r23, m24, h25, hF⟩ := ob2_some hF
    refine JM_callVi (As := [.int a1, .int (f_X9_above a2), .int a3]) (S := []) lkV_WithOneHandModel_365_X9_tells rfl (by decide) dX9_tells_19 c_80 (hs_s_X9_tells (d - 1) (by omega) _ _ _ _ _ _ h25) (by omega) rfl rfl (Nat.le_of_ble_eq_true rfl) rfl ?_
    refine J_iconst (v := 5) dX9_tells_22 (by decide) ?_
    refine J_ixor dX9_tells_23 ?_
    obtain ⟨e_r, e_z⟩ := someP hF
    subst e_r
    subst e_z
    exact J_ireturn rfl rfl dX9_tells_24 ⟨rfl, rfl⟩
def G_X9_tells : Nat → (Int32 → Int32 → Int32 → MM → Option (Int32 × MM))
  | 0 => fun _ _ _ _ => none
  | n + 1 => R_X9_tells (G_X9_tells n)
theorem SG_X9_tells {g : GC} {x : MX} : ∀ n : Nat, (∀ (d : Nat), n + 305 ≤ d → ∀ (a1 : Int32) (a2 : Int32) (a3 : Int32) (m : MM) (r : Int32) (z : MM), G_X9_tells n a1 a2 a3 m = some (r, z) → JC g m_X9_tells d 0 0 [.ref 80, .int a1, .int a2, .int a3] (ST x m) (EQ (some (.int r)) (ST x z))) := by
  intro n
  induction n with
  | zero =>
    exact fun d hd _ _ _ _ _ _ hF => absurd hF (fun q => by cases q)
  | succ n ih =>
    exact fun d hd _ _ _ _ _ _  hF => SR_X9_tells (nn := n) (by omega) ih  hF
def f_X9_tells (a1 : Int32) (a2 : Int32) (a3 : Int32) (m : MM) : Option (Int32 × MM) := G_X9_tells RF a1 a2 a3 m
theorem S_X9_tells {g : GC} {d : Nat} {a1 : Int32} {a2 : Int32} {a3 : Int32} {x : MX} {m : MM} {r : Int32} {z : MM} (hd : 405 ≤ d) 
  (hF : f_X9_tells a1 a2 a3 m = some (r, z)) : JC g m_X9_tells d 0 0 [.ref 80, .int a1, .int a2, .int a3] (ST x m) (EQ (some (.int r)) (ST x z)) := (SG_X9_tells RF) d (by unfold RF; omega) _ _ _ _ _ _  hF
def f_X9_act (a1 : Int32) (a2 : Int32) (a3 : Int32) (m : MM) : Option (Int32 × MM) :=
  letx (ms m 80 7 0) (fun m1 =>
  if (f_X9_isIn a1 0 ((mi m1 80 8) - 1)) = true then
  if (f_X9_isIn a2 0 3) = true then
  if inb a1 50 = true then
  if a2 = 0 then
  ob2 (f_X9_rings a1 (mi m1 103 (ix a1)) a3 m1) (fun r17 m18 =>
  some (r17, m18))
  else
  if a2 = 1 then
  ob2 (f_X9_hears a1 (mi m1 103 (ix a1)) a3 m1) (fun r14 m15 =>
  some (r14, m15))
  else
  if a2 = 2 then
  ob2 (f_X9_doing a1 (mi m1 103 (ix a1)) a3 m1) (fun r11 m12 =>
  some (r11, m12))
  else
  ob2 (f_X9_tells a1 (mi m1 103 (ix a1)) a3 m1) (fun r8 m9 =>
  some (r8, m9))
  else none
  else
  some (0, m1)
  else
  some (0, m1))
theorem S_X9_act {g : GC} {d : Nat} {a1 : Int32} {a2 : Int32} {a3 : Int32} {x : MX} {m : MM} {r : Int32} {z : MM} (hd : 406 ≤ d) 
  (hF : f_X9_act a1 a2 a3 m = some (r, z)) : JC g m_X9_act d 0 0 [.ref 80, .int a1, .int a2, .int a3] (ST x m) (EQ (some (.int r)) (ST x z)) := by
  refine JC.of (by decide +kernel) (Nat.le_of_ble_eq_true rfl) ?_
  change J g m_X9_act d 0 0 0 [(0, .ref 80), (1, .int a1), (2, .int a2), (3, .int a3)] [] (ST x m) 0 0 (EQ (some (.int r)) (ST x z))
  unfold f_X9_act at hF
  refine J_aload_n (j := 0) dX9_act_0 rfl rfl ?_
  refine J_iconst (v := 0) dX9_act_1 (by decide) ?_
  obtain ⟨m1, e_m1, hF⟩ := letx_eq hF
  refine JM_putI fl_WithOneHandModel_346_8 dX9_act_2 c_80 rfl rfl rfl ?_
  rw [← e_m1]
  refine J_aload_n (j := 0) dX9_act_5 rfl rfl ?_
  refine J_iload_n (j := 1) dX9_act_6 rfl rfl ?_
  refine J_iconst (v := 0) dX9_act_7 (by decide) ?_
  refine J_aload_n (j := 0) dX9_act_8 rfl rfl ?_
  refine JM_getI fl_WithOneHandModel_343_8 dX9_act_9 c_80 rfl ?_
  refine J_iconst (v := 1) dX9_act_12 (by decide) ?_
  refine J_isub dX9_act_13 ?_
  refine JM_callVi (As := [.int a1, .int 0, .int ((mi m1 80 8) - 1)]) (S := []) lkV_WithOneHandModel_114_X9_isIn rfl (by decide) dX9_act_14 c_80 (S_X9_isIn (by omega) rfl) (by omega) rfl rfl (Nat.le_of_ble_eq_true rfl) rfl ?_
  refine J_ifb_eq (tgt := 30) dX9_act_17 (by decide) (fun q2 => ?_) (fun q2 => ?_)
  · rw [if_neg q2] at hF
    refine J_iconst (v := 0) dX9_act_30 (by decide) ?_
    obtain ⟨e_r, e_z⟩ := someP hF
    subst e_r
    subst e_z
    exact J_ireturn rfl rfl dX9_act_31 ⟨rfl, rfl⟩
  · rw [if_pos q2] at hF
    refine J_aload_n (j := 0) dX9_act_20 rfl rfl ?_
    refine J_iload_n (j := 2) dX9_act_21 rfl rfl ?_
    refine J_iconst (v := 0) dX9_act_22 (by decide) ?_
    refine J_iconst (v := 3) dX9_act_23 (by decide) ?_
    refine JM_callVi (As := [.int a2, .int 0, .int 3]) (S := []) lkV_WithOneHandModel_114_X9_isIn rfl (by decide) dX9_act_24 c_80 (S_X9_isIn (by omega) rfl) (by omega) rfl rfl (Nat.le_of_ble_eq_true rfl) rfl ?_
    refine J_ifb_ne (tgt := 32) dX9_act_27 (by decide) (fun q3 => ?_) (fun q3 => ?_)
    · rw [if_pos q3] at hF
      refine J_aload_n (j := 0) dX9_act_32 rfl rfl ?_
      refine JM_getR (r := 103) fl_WithOneHandModel_83_8 dX9_act_33 c_80 rfl rfl ?_
      refine J_iload_n (j := 1) dX9_act_36 rfl rfl ?_
      obtain ⟨b4, hF⟩ := chk hF
      refine JM_iald (j := ix a1) dX9_act_37 c_103 (inb_vp b4) rfl ?_
      refine J_istore (L' := [(4, .int (mi m1 103 (ix a1))), (0, .ref 80), (1, .int a1), (2, .int a2), (3, .int a3)]) dX9_act_38 (by decide) rfl ?_
      refine J_iload_n (j := 3) dX9_act_40 rfl rfl ?_
      refine J_if_ne (tgt := 55) dX9_act_41 (by decide) (fun q5 => ?_) (fun q5 => ?_)
      · rw [if_neg q5] at hF
        refine J_iload_n (j := 3) dX9_act_55 rfl rfl ?_
        refine J_iconst (v := 1) dX9_act_56 (by decide) ?_
        refine J_icmp_ne (tgt := 71) dX9_act_57 (by decide) (fun q6 => ?_) (fun q6 => ?_)
        · rw [if_neg q6] at hF
          refine J_iload_n (j := 3) dX9_act_71 rfl rfl ?_
          refine J_iconst (v := 2) dX9_act_72 (by decide) ?_
          refine J_icmp_ne (tgt := 87) dX9_act_73 (by decide) (fun q7 => ?_) (fun q7 => ?_)
          · rw [if_neg q7] at hF
            refine J_aload_n (j := 1) dX9_act_87 rfl rfl ?_
            refine J_iload_n (j := 2) dX9_act_88 rfl rfl ?_
            refine J_iload (j := 0) dX9_act_89 rfl ?_
            refine J_iload_n (j := 4) dX9_act_91 rfl rfl ?_
            obtain ⟨r8, m9, h10, hF⟩ := ob2_some hF
            refine JM_callVi (As := [.int a1, .int (mi m1 103 (ix a1)), .int a3]) (S := []) lkV_WithOneHandModel_365_X9_tells rfl (by decide) dX9_act_92 c_80 (S_X9_tells (by omega) h10) (by omega) rfl rfl (Nat.le_of_ble_eq_true rfl) rfl ?_
            obtain ⟨e_r, e_z⟩ := someP hF
            subst e_r
            subst e_z
            exact J_ireturn rfl rfl dX9_act_95 ⟨rfl, rfl⟩
          · rw [if_pos q7] at hF
            refine J_aload_n (j := 1) dX9_act_76 rfl rfl ?_
            refine J_iload_n (j := 2) dX9_act_77 rfl rfl ?_
            refine J_iload (j := 0) dX9_act_78 rfl ?_
            refine J_iload_n (j := 4) dX9_act_80 rfl rfl ?_
            obtain ⟨r11, m12, h13, hF⟩ := ob2_some hF
            refine JM_callVi (As := [.int a1, .int (mi m1 103 (ix a1)), .int a3]) (S := []) lkV_WithOneHandModel_362_X9_doing rfl (by decide) dX9_act_81 c_80 (S_X9_doing (by omega) h13) (by omega) rfl rfl (Nat.le_of_ble_eq_true rfl) rfl ?_
            refine J_goto (tgt := 95) dX9_act_84 (by decide) ?_
            obtain ⟨e_r, e_z⟩ := someP hF
            subst e_r
            subst e_z
            exact J_ireturn rfl rfl dX9_act_95 ⟨rfl, rfl⟩
        · rw [if_pos q6] at hF
          refine J_aload_n (j := 1) dX9_act_60 rfl rfl ?_
          refine J_iload_n (j := 2) dX9_act_61 rfl rfl ?_
          refine J_iload (j := 0) dX9_act_62 rfl ?_
          refine J_iload_n (j := 4) dX9_act_64 rfl rfl ?_
          obtain ⟨r14, m15, h16, hF⟩ := ob2_some hF
          refine JM_callVi (As := [.int a1, .int (mi m1 103 (ix a1)), .int a3]) (S := []) lkV_WithOneHandModel_359_X9_hears rfl (by decide) dX9_act_65 c_80 (S_X9_hears (by omega) h16) (by omega) rfl rfl (Nat.le_of_ble_eq_true rfl) rfl ?_
          refine J_goto (tgt := 95) dX9_act_68 (by decide) ?_
          obtain ⟨e_r, e_z⟩ := someP hF
          subst e_r
          subst e_z
          exact J_ireturn rfl rfl dX9_act_95 ⟨rfl, rfl⟩
      · rw [if_pos q5] at hF
        refine J_aload_n (j := 1) dX9_act_44 rfl rfl ?_
        refine J_iload_n (j := 2) dX9_act_45 rfl rfl ?_
        refine J_iload (j := 0) dX9_act_46 rfl ?_
        refine J_iload_n (j := 4) dX9_act_48 rfl rfl ?_
        obtain ⟨r17, m18, h19, hF⟩ := ob2_some hF
        refine JM_callVi (As := [.int a1, .int (mi m1 103 (ix a1)), .int a3]) (S := []) lkV_WithOneHandModel_356_X9_rings rfl (by decide) dX9_act_49 c_80 (S_X9_rings (by omega) h19) (by omega) rfl rfl (Nat.le_of_ble_eq_true rfl) rfl ?_
        refine J_goto (tgt := 95) dX9_act_52 (by decide) ?_
        obtain ⟨e_r, e_z⟩ := someP hF
        subst e_r
        subst e_z
        exact J_ireturn rfl rfl dX9_act_95 ⟨rfl, rfl⟩
    · rw [if_neg q3] at hF
      refine J_iconst (v := 0) dX9_act_30 (by decide) ?_
      obtain ⟨e_r, e_z⟩ := someP hF
      subst e_r
      subst e_z
      exact J_ireturn rfl rfl dX9_act_31 ⟨rfl, rfl⟩
def f_X8_trace (a1 : Int32) (x : MX) : Option Int32 :=
  if a1 < 0 then
  some (-1)
  else
  if (xi x 51 3) ≤ a1 then
  some (-1)
  else
  if a1 < 24 then
  if inb a1 24 = true then
  some (xi x 53 (ix a1))
  else none
  else
  some (-1)
theorem S_X8_trace {g : GC} {d : Nat} {a1 : Int32} {x : MX} {m : MM} {r : Int32} (hd : 1 ≤ d) 
  (hF : f_X8_trace a1 x = some r) : JC g m_X8_trace d 0 0 [.ref 5, .int a1] (ST x m) (EQ (some (.int r)) (ST x m)) := by
  refine JC.of (by decide +kernel) (Nat.le_of_ble_eq_true rfl) ?_
  change J g m_X8_trace d 0 0 0 [(0, .ref 5), (1, .int a1)] [] (ST x m) 0 0 (EQ (some (.int r)) (ST x m))
  unfold f_X8_trace at hF
  refine J_iload_n (j := 1) dX8_trace_0 rfl rfl ?_
  refine J_if_lt (tgt := 21) dX8_trace_1 (by decide) (fun q1 => ?_) (fun q1 => ?_)
  · rw [if_pos q1] at hF
    refine J_iconst (v := (-1)) dX8_trace_21 (by decide) ?_
    refine J_goto (tgt := 34) dX8_trace_22 (by decide) ?_
    have e_r := Option.some.inj hF
    subst e_r
    exact J_ireturn rfl rfl dX8_trace_34 ⟨rfl, rfl⟩
  · rw [if_neg q1] at hF
    refine J_iload_n (j := 1) dX8_trace_4 rfl rfl ?_
    refine J_aload_n (j := 0) dX8_trace_5 rfl rfl ?_
    refine JX_getR (r := 51) fl_WithOneHand_52_7 dX8_trace_6 c_5 rfl rfl ?_
    refine JX_getI fl_WithOneHand_295_2 dX8_trace_9 c_51 rfl ?_
    refine J_icmp_ge (tgt := 21) dX8_trace_12 (by decide) (fun q2 => ?_) (fun q2 => ?_)
    · rw [if_pos q2] at hF
      refine J_iconst (v := (-1)) dX8_trace_21 (by decide) ?_
      refine J_goto (tgt := 34) dX8_trace_22 (by decide) ?_
      have e_r := Option.some.inj hF
      subst e_r
      exact J_ireturn rfl rfl dX8_trace_34 ⟨rfl, rfl⟩
    · rw [if_neg q2] at hF
      refine J_iload_n (j := 1) dX8_trace_15 rfl rfl ?_
      refine J_bipush (v := 24) dX8_trace_16 (by decide) ?_
      refine J_icmp_lt (tgt := 25) dX8_trace_18 (by decide) (fun q3 => ?_) (fun q3 => ?_)
      · rw [if_pos q3] at hF
        refine J_aload_n (j := 0) dX8_trace_25 rfl rfl ?_
        refine JX_getR (r := 51) fl_WithOneHand_52_7 dX8_trace_26 c_5 rfl rfl ?_
        refine JX_getR (r := 53) fl_WithOneHand_298_2 dX8_trace_29 c_51 rfl rfl ?_
        refine J_iload_n (j := 1) dX8_trace_32 rfl rfl ?_
        obtain ⟨b4, hF⟩ := chk hF
        refine JX_iald (j := ix a1) dX8_trace_33 c_53 (inb_vp b4) rfl ?_
        have e_r := Option.some.inj hF
        subst e_r
        exact J_ireturn rfl rfl dX8_trace_34 ⟨rfl, rfl⟩
      · rw [if_neg q3] at hF
        refine J_iconst (v := (-1)) dX8_trace_21 (by decide) ?_
        refine J_goto (tgt := 34) dX8_trace_22 (by decide) ?_
        have e_r := Option.some.inj hF
        subst e_r
        exact J_ireturn rfl rfl dX8_trace_34 ⟨rfl, rfl⟩
def f_X9_trace (a1 : Int32) (m : MM) : Option Int32 :=
  if a1 < 0 then
  some (-1)
  else
  if 24 ≤ a1 then
  some (-1)
  else
  if (mi m 80 7) ≤ a1 then
  some (-1)
  else
  if inb a1 24 = true then
  some (mi m 104 (ix a1))
  else none
theorem S_X9_trace {g : GC} {d : Nat} {a1 : Int32} {x : MX} {m : MM} {r : Int32} (hd : 1 ≤ d) 
  (hF : f_X9_trace a1 m = some r) : JC g m_X9_trace d 0 0 [.ref 80, .int a1] (ST x m) (EQ (some (.int r)) (ST x m)) := by
  refine JC.of (by decide +kernel) (Nat.le_of_ble_eq_true rfl) ?_
  change J g m_X9_trace d 0 0 0 [(0, .ref 80), (1, .int a1)] [] (ST x m) 0 0 (EQ (some (.int r)) (ST x m))
  unfold f_X9_trace at hF
  refine J_iload_n (j := 1) dX9_trace_0 rfl rfl ?_
  refine J_if_lt (tgt := 27) dX9_trace_1 (by decide) (fun q1 => ?_) (fun q1 => ?_)
  · rw [if_pos q1] at hF
    refine J_iconst (v := (-1)) dX9_trace_27 (by decide) ?_
    have e_r := Option.some.inj hF
    subst e_r
    exact J_ireturn rfl rfl dX9_trace_28 ⟨rfl, rfl⟩
  · rw [if_neg q1] at hF
    refine J_iload_n (j := 1) dX9_trace_4 rfl rfl ?_
    refine J_bipush (v := 24) dX9_trace_5 (by decide) ?_
    refine J_icmp_ge (tgt := 27) dX9_trace_7 (by decide) (fun q2 => ?_) (fun q2 => ?_)
    · rw [if_pos q2] at hF
      refine J_iconst (v := (-1)) dX9_trace_27 (by decide) ?_
      have e_r := Option.some.inj hF
      subst e_r
      exact J_ireturn rfl rfl dX9_trace_28 ⟨rfl, rfl⟩
    · rw [if_neg q2] at hF
      refine J_iload_n (j := 1) dX9_trace_10 rfl rfl ?_
      refine J_aload_n (j := 0) dX9_trace_11 rfl rfl ?_
      refine JM_getI fl_WithOneHandModel_346_8 dX9_trace_12 c_80 rfl ?_
      refine J_icmp_ge (tgt := 27) dX9_trace_15 (by decide) (fun q3 => ?_) (fun q3 => ?_)
      · rw [if_pos q3] at hF
        refine J_iconst (v := (-1)) dX9_trace_27 (by decide) ?_
        have e_r := Option.some.inj hF
        subst e_r
        exact J_ireturn rfl rfl dX9_trace_28 ⟨rfl, rfl⟩
      · rw [if_neg q3] at hF
        refine J_aload_n (j := 0) dX9_trace_18 rfl rfl ?_
        refine JM_getR (r := 104) fl_WithOneHandModel_86_8 dX9_trace_19 c_80 rfl rfl ?_
        refine J_iload_n (j := 1) dX9_trace_22 rfl rfl ?_
        obtain ⟨b4, hF⟩ := chk hF
        refine JM_iald (j := ix a1) dX9_trace_23 c_104 (inb_vp b4) rfl ?_
        refine J_goto (tgt := 28) dX9_trace_24 (by decide) ?_
        have e_r := Option.some.inj hF
        subst e_r
        exact J_ireturn rfl rfl dX9_trace_28 ⟨rfl, rfl⟩
def f_X6_holdHole (h0 : Nat) (a1 : Int32) (x : MX) : Option MX :=
  letx (xs x h0 1 (-1)) (fun x1 =>
  letx (xs x1 h0 2 0) (fun x2 =>
  letx (xs x2 h0 3 a1) (fun x3 =>
  some x3)))
theorem S_X6_holdHole {g : GC} {d : Nat} {h0 : Nat} {a1 : Int32} {x : MX} {m : MM} {z : MX} (hd : 1 ≤ d) (e_h0 : isSh h0)
  (hF : f_X6_holdHole h0 a1 x = some z) : JC g m_X6_holdHole d 0 0 [.ref h0, .int a1] (ST x m) (EQ (none) (ST z m)) := by
  refine JC.of (by decide +kernel) (Nat.le_of_ble_eq_true rfl) ?_
  change J g m_X6_holdHole d 0 0 0 [(0, .ref h0), (1, .int a1)] [] (ST x m) 0 0 (EQ (none) (ST z m))
  unfold f_X6_holdHole at hF
  refine J_aload_n (j := 0) dX6_holdHole_0 rfl rfl ?_
  refine J_iconst (v := (-1)) dX6_holdHole_1 (by decide) ?_
  obtain ⟨x1, e_x1, hF⟩ := letx_eq hF
  refine JX_putI fl_Shelf_15_5 dX6_holdHole_2 (c_sh e_h0) rfl rfl rfl ?_
  rw [← e_x1]
  refine J_aload_n (j := 0) dX6_holdHole_5 rfl rfl ?_
  refine J_iconst (v := 0) dX6_holdHole_6 (by decide) ?_
  obtain ⟨x2, e_x2, hF⟩ := letx_eq hF
  refine JX_putI fl_Shelf_33_5 dX6_holdHole_7 (c_sh e_h0) rfl rfl rfl ?_
  rw [← e_x2]
  refine J_aload_n (j := 0) dX6_holdHole_10 rfl rfl ?_
  refine J_iload_n (j := 1) dX6_holdHole_11 rfl rfl ?_
  obtain ⟨x3, e_x3, hF⟩ := letx_eq hF
  refine JX_putI fl_Shelf_36_5 dX6_holdHole_12 (c_sh e_h0) rfl rfl rfl ?_
  rw [← e_x3]
  have e_r := Option.some.inj hF
  subst e_r
  exact J_return rfl dX6_holdHole_15 ⟨rfl, rfl⟩
def f_X6_holdNothing (h0 : Nat) (x : MX) : Option MX :=
  letx (xs x h0 1 (-2)) (fun x1 =>
  letx (xs x1 h0 2 0) (fun x2 =>
  some x2))
theorem S_X6_holdNothing {g : GC} {d : Nat} {h0 : Nat} {x : MX} {m : MM} {z : MX} (hd : 1 ≤ d) (e_h0 : isSh h0)
  (hF : f_X6_holdNothing h0 x = some z) : JC g m_X6_holdNothing d 0 0 [.ref h0] (ST x m) (EQ (none) (ST z m)) := by
  refine JC.of (by decide +kernel) (Nat.le_of_ble_eq_true rfl) ?_
  change J g m_X6_holdNothing d 0 0 0 [(0, .ref h0)] [] (ST x m) 0 0 (EQ (none) (ST z m))
  unfold f_X6_holdNothing at hF
  refine J_aload_n (j := 0) dX6_holdNothing_0 rfl rfl ?_
  refine J_bipush (v := (-2)) dX6_holdNothing_1 (by decide) ?_
  obtain ⟨x1, e_x1, hF⟩ := letx_eq hF
  refine JX_putI fl_Shelf_15_5 dX6_holdNothing_3 (c_sh e_h0) rfl rfl rfl ?_
  rw [← e_x1]
  refine J_aload_n (j := 0) dX6_holdNothing_6 rfl rfl ?_
  refine J_iconst (v := 0) dX6_holdNothing_7 (by decide) ?_
  obtain ⟨x2, e_x2, hF⟩ := letx_eq hF
  refine JX_putI fl_Shelf_33_5 dX6_holdNothing_8 (c_sh e_h0) rfl rfl rfl ?_
  rw [← e_x2]
  have e_r := Option.some.inj hF
  subst e_r
  exact J_return rfl dX6_holdNothing_11 ⟨rfl, rfl⟩
