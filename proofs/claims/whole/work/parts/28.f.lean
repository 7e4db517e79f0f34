def B_X5_workOut_41_73 (K39 : Int32 → MX → Option MX) (v3 : Int32) (t0 : Int32) (t1 : Int32) (x : MX) : Option MX :=
  if inb t1 64 = true then
  letx (xs x 49 (ix t1) t0) (fun x11 =>
  K39 (v3 + (-1)) x11)
  else none
theorem SB_X5_workOut_41_73 {g : GC} {d : Nat} {K39 : Int32 → MX → Option MX} {v3 : Int32} {t0 : Int32} {t1 : Int32} {x : MX} {m : MM} {z : MX} (hd : 4 ≤ d) (hK39 : ∀ (v3 : Int32) (x : MX) (z : MX), K39 v3 x = some z → J g m_X5_workOut d 0 0 39 [(0, .ref 41), (3, .int v3)] [] (ST x m) 0 0 (EQ (none) (ST z m)))
  (hF : B_X5_workOut_41_73 K39 v3 t0 t1 x = some z) : J g m_X5_workOut d 0 0 73 [(0, .ref 41), (3, .int v3)] [.int t0, .int t1, .ref 49] (ST x m) 0 0 (EQ (none) (ST z m)) := by
  unfold B_X5_workOut_41_73 at hF
  obtain ⟨b10, hF⟩ := chk hF
  obtain ⟨x11, e_x11, hF⟩ := letx_eq hF
  refine JX_iast (j := ix t1) dX5_workOut_73 c_49 (inb_vp b10) rfl ?_
  rw [← e_x11]
  refine J_iinc (j := 1) (v := v3 + (-1)) (L' := [(3, .int (v3 + (-1))), (0, .ref 41)]) dX5_workOut_74 rfl rfl (by decide) rfl ?_
  refine J_goto (tgt := 39) dX5_workOut_77 (by decide) ?_
  refine J_sub [1, 0] rfl ?_
  exact hK39 _ _ _  hF
def B_X5_workOut_41_39 (K39 : Int32 → MX → Option MX) (v3 : Int32) (x : MX) : Option MX :=
  if v3 < 0 then
  some x
  else
  if (f_J6_bitCount_0f7a4 v3) < (xi x 41 3) then
  ob (f_X5_firstBest_41 v3 x) (fun r6 =>
  ob (f_X5_sumWith_41 v3 r6 x) (fun r8 =>
  B_X5_workOut_41_73 K39 v3 r8 v3 x))
  else
  B_X5_workOut_41_73 K39 v3 0 v3 x
theorem SB_X5_workOut_41_39 {g : GC} {d : Nat} {K39 : Int32 → MX → Option MX} {v3 : Int32} {x : MX} {m : MM} {z : MX} (hd : 4 ≤ d) (hK39 : ∀ (v3 : Int32) (x : MX) (z : MX), K39 v3 x = some z → J g m_X5_workOut d 0 0 39 [(0, .ref 41), (3, .int v3)] [] (ST x m) 0 0 (EQ (none) (ST z m)))
  (hF : B_X5_workOut_41_39 K39 v3 x = some z) : J g m_X5_workOut d 0 0 39 [(0, .ref 41), (3, .int v3)] [] (ST x m) 0 0 (EQ (none) (ST z m)) := by
  unfold B_X5_workOut_41_39 at hF
  refine J_iload_n (j := 1) dX5_workOut_39 rfl rfl ?_
  refine J_if_lt (tgt := 80) dX5_workOut_40 (by decide) (fun q4 => ?_) (fun q4 => ?_)
  · rw [if_pos q4] at hF
    have e_r := Option.some.inj hF
    subst e_r
    exact J_return rfl dX5_workOut_80 ⟨rfl, rfl⟩
  · rw [if_neg q4] at hF
    refine J_aload_n (j := 0) dX5_workOut_43 rfl rfl ?_
    refine JX_getR (r := 49) fl_Plan_14_6 dX5_workOut_44 c_41 rfl rfl ?_
    refine J_iload_n (j := 1) dX5_workOut_47 rfl rfl ?_
    refine J_iload_n (j := 1) dX5_workOut_48 rfl rfl ?_
    refine J_callSi (As := [.int v3]) (S := [.int v3, .ref 49]) lkS_Plan_34_J6_bitCount_0f7a4 dX5_workOut_49 (S_J6_bitCount_0f7a4 (by omega) rfl) (by omega) rfl rfl (Nat.le_of_ble_eq_true rfl) rfl ?_
    refine J_aload_n (j := 0) dX5_workOut_52 rfl rfl ?_
    refine JX_getI fl_Plan_31_6 dX5_workOut_53 c_41 rfl ?_
    refine J_icmp_lt (tgt := 63) dX5_workOut_56 (by decide) (fun q5 => ?_) (fun q5 => ?_)
    · rw [if_pos q5] at hF
      refine J_aload_n (j := 0) dX5_workOut_63 rfl rfl ?_
      refine J_iload_n (j := 1) dX5_workOut_64 rfl rfl ?_
      refine J_aload_n (j := 0) dX5_workOut_65 rfl rfl ?_
      refine J_iload_n (j := 1) dX5_workOut_66 rfl rfl ?_
      obtain ⟨r6, h7, hF⟩ := ob_some hF
      refine JX_callUi (As := [.int v3]) (S := [.int v3, .ref 41, .int v3, .ref 49]) lkU_Plan_40_X5_firstBest_6 rfl (by decide) dX5_workOut_67 c_41 (S_X5_firstBest_41 (by omega) h7) (by omega) rfl rfl (Nat.le_of_ble_eq_true rfl) rfl ?_
      obtain ⟨r8, h9, hF⟩ := ob_some hF
      refine JX_callUi (As := [.int v3, .int r6]) (S := [.int v3, .ref 49]) lkU_Plan_43_X5_sumWith_6 rfl (by decide) dX5_workOut_70 c_41 (S_X5_sumWith_41 (by omega) h9) (by omega) rfl rfl (Nat.le_of_ble_eq_true rfl) rfl ?_
      exact SB_X5_workOut_41_73 hd hK39 hF
    · rw [if_neg q5] at hF
      refine J_iconst (v := 0) dX5_workOut_59 (by decide) ?_
      refine J_goto (tgt := 73) dX5_workOut_60 (by decide) ?_
      exact SB_X5_workOut_41_73 hd hK39 hF
def f_X5_workOut_41_39  : Nat → Int32 → MX → Option MX
  | 0 => fun _ _ => none
  | n + 1 => fun v3 x => B_X5_workOut_41_39 (f_X5_workOut_41_39  n) v3 x
theorem Sf_X5_workOut_41_39 {g : GC} {d : Nat} {m : MM} (hd : 4 ≤ d)  : ∀ (n : Nat) (v3 : Int32) (x : MX) (z : MX), f_X5_workOut_41_39  n v3 x = some z → J g m_X5_workOut d 0 0 39 [(0, .ref 41), (3, .int v3)] [] (ST x m) 0 0 (EQ (none) (ST z m)) := by
  intro n
  induction n with
  | zero => intro v3 x z  hF; exact absurd hF (fun q => by cases q)
  | succ n ih =>
    intro v3 x z  hF
    exact SB_X5_workOut_41_39 hd (fun v3 x z  hF => ih v3 x z  hF) hF
def f_X5_workOut_41 (a1 : Int32) (a2 : Int32) (x : MX) : Option MX :=
  letx (xs x 41 2 (imax 0 (imin 6 a1))) (fun x1 =>
  letx (xs x1 41 3 (imax 0 (imin (xi x1 41 2) a2))) (fun x2 =>
  letx (((1 : Int32) <<< ((xi x2 41 2) &&& 31)) - 1) (fun y3 =>
  f_X5_workOut_41_39 LF y3 x2)))
theorem S_X5_workOut_41 {g : GC} {d : Nat} {a1 : Int32} {a2 : Int32} {x : MX} {m : MM} {z : MX} (hd : 4 ≤ d) 
  (hF : f_X5_workOut_41 a1 a2 x = some z) : JC g m_X5_workOut d 0 0 [.ref 41, .int a1, .int a2] (ST x m) (EQ (none) (ST z m)) := by
  refine JC.of (by decide +kernel) (Nat.le_of_ble_eq_true rfl) ?_
  change J g m_X5_workOut d 0 0 0 [(0, .ref 41), (1, .int a1), (2, .int a2)] [] (ST x m) 0 0 (EQ (none) (ST z m))
  unfold f_X5_workOut_41 at hF
  refine J_aload_n (j := 0) dX5_workOut_0 rfl rfl ?_
  refine J_iconst (v := 0) dX5_workOut_1 (by decide) ?_
  refine J_bipush (v := 6) dX5_workOut_2 (by decide) ?_
  refine J_iload_n (j := 1) dX5_workOut_4 rfl rfl ?_
  refine J_mmin (S := [.int 0, .ref 41]) (tb 560 (by decide +kernel)) dX5_workOut_5 (Nat.le_of_ble_eq_true rfl) ?_
  refine J_mmax (S := [.ref 41]) (tb 561 (by decide +kernel)) dX5_workOut_8 (Nat.le_of_ble_eq_true rfl) ?_
  obtain ⟨x1, e_x1, hF⟩ := letx_eq hF
  refine JX_putI fl_Plan_27_6 dX5_workOut_11 c_41 rfl rfl rfl ?_
  rw [← e_x1]
  refine J_aload_n (j := 0) dX5_workOut_14 rfl rfl ?_
  refine J_iconst (v := 0) dX5_workOut_15 (by decide) ?_
  refine J_aload_n (j := 0) dX5_workOut_16 rfl rfl ?_
  refine JX_getI fl_Plan_27_6 dX5_workOut_17 c_41 rfl ?_
  refine J_iload_n (j := 2) dX5_workOut_20 rfl rfl ?_
  refine J_mmin (S := [.int 0, .ref 41]) (tb 560 (by decide +kernel)) dX5_workOut_21 (Nat.le_of_ble_eq_true rfl) ?_
  refine J_mmax (S := [.ref 41]) (tb 561 (by decide +kernel)) dX5_workOut_24 (Nat.le_of_ble_eq_true rfl) ?_
  obtain ⟨x2, e_x2, hF⟩ := letx_eq hF
  refine JX_putI fl_Plan_31_6 dX5_workOut_27 c_41 rfl rfl rfl ?_
  rw [← e_x2]
  refine J_iconst (v := 1) dX5_workOut_30 (by decide) ?_
  refine J_aload_n (j := 0) dX5_workOut_31 rfl rfl ?_
  refine JX_getI fl_Plan_27_6 dX5_workOut_32 c_41 rfl ?_
  refine J_ishl dX5_workOut_35 ?_
  refine J_iconst (v := 1) dX5_workOut_36 (by decide) ?_
  refine J_isub dX5_workOut_37 ?_
  obtain ⟨y3, e_y3, hF⟩ := letx_eq hF
  rw [← e_y3]
  refine J_istore_n (L' := [(3, .int y3), (0, .ref 41), (1, .int a1), (2, .int a2)]) dX5_workOut_38 rfl (by decide) rfl ?_
  refine J_sub [1, 0] rfl ?_
  exact Sf_X5_workOut_41_39 hd _ _ _ _ hF
def f_X5_manyItems_41 (x : MX) : Int32 :=
  xi x 41 2
theorem S_X5_manyItems_41 {g : GC} {d : Nat}  {x : MX} {m : MM} {r : Int32} (hd : 1 ≤ d) 
  (hF : f_X5_manyItems_41 x = r) : JC g m_X5_manyItems d 0 0 [.ref 41] (ST x m) (EQ (some (.int r)) (ST x m)) := by
  refine JC.of (by decide +kernel) (Nat.le_of_ble_eq_true rfl) ?_
  change J g m_X5_manyItems d 0 0 0 [(0, .ref 41)] [] (ST x m) 0 0 (EQ (some (.int r)) (ST x m))
  unfold f_X5_manyItems_41 at hF
  refine J_aload_n (j := 0) dX5_manyItems_0 rfl rfl ?_
  refine JX_getI fl_Plan_27_6 dX5_manyItems_1 c_41 rfl ?_
  subst hF
  exact J_ireturn rfl rfl dX5_manyItems_4 ⟨rfl, rfl⟩
def B_X7_hardestOutside_41_45 (K4 : Int32 → Int32 → Int32 → Option Int32) (v1 : Int32) (v2 : Int32) (v3 : Int32) (x : MX) : Option Int32 :=
  K4 v1 v2 (v3 + 1)
theorem SB_X7_hardestOutside_41_45 {g : GC} {d : Nat} {K4 : Int32 → Int32 → Int32 → Option Int32} {v1 : Int32} {v2 : Int32} {v3 : Int32} {x : MX} {m : MM} {r : Int32} (hd : 2 ≤ d) (hK4 : ∀ (v1 : Int32) (v2 : Int32) (v3 : Int32) (r : Int32), K4 v1 v2 v3 = some r → J g m_X7_hardestOutside d 0 0 4 [(0, .ref 41), (1, .int v1), (2, .int v2), (3, .int v3)] [] (ST x m) 0 0 (EQ (some (.int r)) (ST x m)))
  (hF : B_X7_hardestOutside_41_45 K4 v1 v2 v3 x = some r) : J g m_X7_hardestOutside d 0 0 45 [(0, .ref 41), (1, .int v1), (2, .int v2), (3, .int v3)] [] (ST x m) 0 0 (EQ (some (.int r)) (ST x m)) := by
  unfold B_X7_hardestOutside_41_45 at hF
  refine J_iinc (j := 3) (v := v3 + 1) (L' := [(3, .int (v3 + 1)), (0, .ref 41), (1, .int v1), (2, .int v2)]) dX7_hardestOutside_45 rfl rfl (by decide) rfl ?_
  refine J_goto (tgt := 4) dX7_hardestOutside_48 (by decide) ?_
  refine J_sub [1, 2, 3, 0] rfl ?_
  exact hK4 _ _ _ _  hF
def B_X7_hardestOutside_41_43 (K4 : Int32 → Int32 → Int32 → Option Int32) (v1 : Int32) (v3 : Int32) (x : MX) : Option Int32 :=
  B_X7_hardestOutside_41_45 K4 v1 v3 v3 x
theorem SB_X7_hardestOutside_41_43 {g : GC} {d : Nat} {K4 : Int32 → Int32 → Int32 → Option Int32} {v1 : Int32} {v3 : Int32} {x : MX} {m : MM} {r : Int32} (hd : 2 ≤ d) (hK4 : ∀ (v1 : Int32) (v2 : Int32) (v3 : Int32) (r : Int32), K4 v1 v2 v3 = some r → J g m_X7_hardestOutside d 0 0 4 [(0, .ref 41), (1, .int v1), (2, .int v2), (3, .int v3)] [] (ST x m) 0 0 (EQ (some (.int r)) (ST x m)))
  (hF : B_X7_hardestOutside_41_43 K4 v1 v3 x = some r) : J g m_X7_hardestOutside d 0 0 43 [(0, .ref 41), (1, .int v1), (3, .int v3)] [] (ST x m) 0 0 (EQ (some (.int r)) (ST x m)) := by
  unfold B_X7_hardestOutside_41_43 at hF
  refine J_iload_n (j := 2) dX7_hardestOutside_43 rfl rfl ?_
  refine J_istore_n (L' := [(2, .int v3), (0, .ref 41), (1, .int v1), (3, .int v3)]) dX7_hardestOutside_44 rfl (by decide) rfl ?_
  refine J_sub [1, 2, 0, 3] rfl ?_
  exact SB_X7_hardestOutside_41_45 hd hK4 hF
def B_X7_hardestOutside_41_4 (K4 : Int32 → Int32 → Int32 → Option Int32) (v1 : Int32) (v2 : Int32) (v3 : Int32) (x : MX) : Option Int32 :=
  if (f_X5_manyItems_41 x) ≤ v3 then
  some v2
  else
  if ((v1 >>> (v3 &&& 31)) &&& 1) = 0 then
  if v2 < 0 then
  B_X7_hardestOutside_41_43 K4 v1 v3 x
  else
  if inb v3 6 = true then
  if inb v2 6 = true then
  if (xi x (43 + ix v3) 0) ≤ (xi x (43 + ix v2) 0) then
  B_X7_hardestOutside_41_45 K4 v1 v2 v3 x
  else
  B_X7_hardestOutside_41_43 K4 v1 v3 x
  else none
  else none
  else
  B_X7_hardestOutside_41_45 K4 v1 v2 v3 x
theorem SB_X7_hardestOutside_41_4 {g : GC} {d : Nat} {K4 : Int32 → Int32 → Int32 → Option Int32} {v1 : Int32} {v2 : Int32} {v3 : Int32} {x : MX} {m : MM} {r : Int32} (hd : 2 ≤ d) (hK4 : ∀ (v1 : Int32) (v2 : Int32) (v3 : Int32) (r : Int32), K4 v1 v2 v3 = some r → J g m_X7_hardestOutside d 0 0 4 [(0, .ref 41), (1, .int v1), (2, .int v2), (3, .int v3)] [] (ST x m) 0 0 (EQ (some (.int r)) (ST x m)))
  (hF : B_X7_hardestOutside_41_4 K4 v1 v2 v3 x = some r) : J g m_X7_hardestOutside d 0 0 4 [(0, .ref 41), (1, .int v1), (2, .int v2), (3, .int v3)] [] (ST x m) 0 0 (EQ (some (.int r)) (ST x m)) := by
  unfold B_X7_hardestOutside_41_4 at hF
  refine J_iload_n (j := 3) dX7_hardestOutside_4 rfl rfl ?_
  refine J_aload_n (j := 0) dX7_hardestOutside_5 rfl rfl ?_
  refine JX_callUi (As := []) (S := [.int v3]) lkU_Turns_17_X5_manyItems_6 rfl (by decide) dX7_hardestOutside_6 c_41 (S_X5_manyItems_41 (by omega) rfl) (by omega) rfl rfl (Nat.le_of_ble_eq_true rfl) rfl ?_
  refine J_icmp_ge (tgt := 51) dX7_hardestOutside_9 (by decide) (fun q1 => ?_) (fun q1 => ?_)
  · rw [if_pos q1] at hF
    refine J_iload_n (j := 2) dX7_hardestOutside_51 rfl rfl ?_
    have e_r := Option.some.inj hF
    subst e_r
    exact J_ireturn rfl rfl dX7_hardestOutside_52 ⟨rfl, rfl⟩
  · rw [if_neg q1] at hF
    refine J_iload_n (j := 1) dX7_hardestOutside_12 rfl rfl ?_
    refine J_iload_n (j := 3) dX7_hardestOutside_13 rfl rfl ?_
    refine J_ishr dX7_hardestOutside_14 ?_
    refine J_iconst (v := 1) dX7_hardestOutside_15 (by decide) ?_
    refine J_iand dX7_hardestOutside_16 ?_
    refine J_if_ne (tgt := 45) dX7_hardestOutside_17 (by decide) (fun q2 => ?_) (fun q2 => ?_)
    · rw [if_neg q2] at hF
      exact SB_X7_hardestOutside_41_45 hd hK4 hF
    · rw [if_pos q2] at hF
      refine J_iload_n (j := 2) dX7_hardestOutside_20 rfl rfl ?_
      refine J_if_lt (tgt := 43) dX7_hardestOutside_21 (by decide) (fun q3 => ?_) (fun q3 => ?_)
      · rw [if_pos q3] at hF
        refine J_sub [0, 1, 3] rfl ?_
        exact SB_X7_hardestOutside_41_43 hd hK4 hF
      · rw [if_neg q3] at hF
        refine J_aload_n (j := 0) dX7_hardestOutside_24 rfl rfl ?_
        refine JX_getR (r := 42) fl_Turns_13_6 dX7_hardestOutside_25 c_41 rfl rfl ?_
        refine J_iload_n (j := 3) dX7_hardestOutside_28 rfl rfl ?_
        obtain ⟨b4, hF⟩ := chk hF
        refine JX_aald (j := ix v3) (r := 43 + ix v3) (by decide) dX7_hardestOutside_29 c_42 (inb_vp b4) rfl (rw_42 _ (inb_lt b4)) ?_
        refine J_iconst (v := 0) dX7_hardestOutside_30 (by decide) ?_
        refine JX_iald (j := 0) dX7_hardestOutside_31 (cr_42 (inb_lt b4)) (by unfold vp_in; decide) (by decide) ?_
        refine J_aload_n (j := 0) dX7_hardestOutside_32 rfl rfl ?_
        refine JX_getR (r := 42) fl_Turns_13_6 dX7_hardestOutside_33 c_41 rfl rfl ?_
        refine J_iload_n (j := 2) dX7_hardestOutside_36 rfl rfl ?_
        obtain ⟨b5, hF⟩ := chk hF
        refine JX_aald (j := ix v2) (r := 43 + ix v2) (by decide) dX7_hardestOutside_37 c_42 (inb_vp b5) rfl (rw_42 _ (inb_lt b5)) ?_
        refine J_iconst (v := 0) dX7_hardestOutside_38 (by decide) ?_
        refine JX_iald (j := 0) dX7_hardestOutside_39 (cr_42 (inb_lt b5)) (by unfold vp_in; decide) (by decide) ?_
        refine J_icmp_le (tgt := 45) dX7_hardestOutside_40 (by decide) (fun q6 => ?_) (fun q6 => ?_)
        · rw [if_pos q6] at hF
          exact SB_X7_hardestOutside_41_45 hd hK4 hF
        · rw [if_neg q6] at hF
          refine J_sub [0, 1, 3] rfl ?_
          exact SB_X7_hardestOutside_41_43 hd hK4 hF
def f_X7_hardestOutside_41_4 (x : MX) : Nat → Int32 → Int32 → Int32 → Option Int32
  | 0 => fun _ _ _ => none
  | n + 1 => fun v1 v2 v3 => B_X7_hardestOutside_41_4 (f_X7_hardestOutside_41_4 x n) v1 v2 v3 x
theorem Sf_X7_hardestOutside_41_4 {g : GC} {d : Nat} {x : MX} {m : MM} (hd : 2 ≤ d)  : ∀ (n : Nat) (v1 : Int32) (v2 : Int32) (v3 : Int32) (r : Int32), f_X7_hardestOutside_41_4 x n v1 v2 v3 = some r → J g m_X7_hardestOutside d 0 0 4 [(0, .ref 41), (1, .int v1), (2, .int v2), (3, .int v3)] [] (ST x m) 0 0 (EQ (some (.int r)) (ST x m)) := by
  intro n
  induction n with
  | zero => intro v1 v2 v3 r  hF; exact absurd hF (fun q => by cases q)
  | succ n ih =>
    intro v1 v2 v3 r  hF
    exact SB_X7_hardestOutside_41_4 hd (fun v1 v2 v3 r  hF => ih v1 v2 v3 r  hF) hF
def f_X7_hardestOutside_41 (a1 : Int32) (x : MX) : Option Int32 :=
  f_X7_hardestOutside_41_4 x LF a1 (-1) 0
theorem S_X7_hardestOutside_41 {g : GC} {d : Nat} {a1 : Int32} {x : MX} {m : MM} {r : Int32} (hd : 2 ≤ d) 
  (hF : f_X7_hardestOutside_41 a1 x = some r) : JC g m_X7_hardestOutside d 0 0 [.ref 41, .int a1] (ST x m) (EQ (some (.int r)) (ST x m)) := by
  refine JC.of (by decide +kernel) (Nat.le_of_ble_eq_true rfl) ?_
  change J g m_X7_hardestOutside d 0 0 0 [(0, .ref 41), (1, .int a1)] [] (ST x m) 0 0 (EQ (some (.int r)) (ST x m))
  unfold f_X7_hardestOutside_41 at hF
  refine J_iconst (v := (-1)) dX7_hardestOutside_0 (by decide) ?_
  refine J_istore_n (L' := [(2, .int (-1)), (0, .ref 41), (1, .int a1)]) dX7_hardestOutside_1 rfl (by decide) rfl ?_
  refine J_iconst (v := 0) dX7_hardestOutside_2 (by decide) ?_
  refine J_istore_n (L' := [(3, .int 0), (2, .int (-1)), (0, .ref 41), (1, .int a1)]) dX7_hardestOutside_3 rfl (by decide) rfl ?_
  refine J_sub [2, 3, 1, 0] rfl ?_
  exact Sf_X7_hardestOutside_41_4 hd _ _ _ _ _ hF
def B_X7_sumOfHardFirst_41_6 (K6 : Int32 → Int32 → Int32 → Option Int32) (v1 : Int32) (v2 : Int32) (v3 : Int32) (x : MX) : Option Int32 :=
  if (f_X5_manyItems_41 x) ≤ v3 then
  some v1
  else
  ob (f_X7_hardestOutside_41 v2 x) (fun r2 =>
  if 0 ≤ r2 then
  ob (f_X7_takesBehind_41 v2 r2 x) (fun r5 =>
  letx (v2 ||| ((1 : Int32) <<< (r2 &&& 31))) (fun y7 =>
  K6 (v1 + r5) y7 (v3 + 1)))
  else
  some v1)
theorem SB_X7_sumOfHardFirst_41_6 {g : GC} {d : Nat} {K6 : Int32 → Int32 → Int32 → Option Int32} {v1 : Int32} {v2 : Int32} {v3 : Int32} {x : MX} {m : MM} {r : Int32} (hd : 3 ≤ d) (hK6 : ∀ (v1 : Int32) (v2 : Int32) (v3 : Int32) (r : Int32), K6 v1 v2 v3 = some r → J g m_X7_sumOfHardFirst d 0 0 6 [(0, .ref 41), (1, .int v1), (2, .int v2), (3, .int v3)] [] (ST x m) 0 0 (EQ (some (.int r)) (ST x m)))
  (hF : B_X7_sumOfHardFirst_41_6 K6 v1 v2 v3 x = some r) : J g m_X7_sumOfHardFirst d 0 0 6 [(0, .ref 41), (1, .int v1), (2, .int v2), (3, .int v3)] [] (ST x m) 0 0 (EQ (some (.int r)) (ST x m)) := by
  unfold B_X7_sumOfHardFirst_41_6 at hF
  refine J_iload_n (j := 3) dX7_sumOfHardFirst_6 rfl rfl ?_
  refine J_aload_n (j := 0) dX7_sumOfHardFirst_7 rfl rfl ?_
  refine JX_callUi (As := []) (S := [.int v3]) lkU_Turns_17_X5_manyItems_6 rfl (by decide) dX7_sumOfHardFirst_8 c_41 (S_X5_manyItems_41 (by omega) rfl) (by omega) rfl rfl (Nat.le_of_ble_eq_true rfl) rfl ?_
  refine J_icmp_ge (tgt := 51) dX7_sumOfHardFirst_11 (by decide) (fun q1 => ?_) (fun q1 => ?_)
  · rw [if_pos q1] at hF
    refine J_iload_n (j := 1) dX7_sumOfHardFirst_51 rfl rfl ?_
    have e_r := Option.some.inj hF
    subst e_r
    exact J_ireturn rfl rfl dX7_sumOfHardFirst_52 ⟨rfl, rfl⟩
  · rw [if_neg q1] at hF
    refine J_aload_n (j := 0) dX7_sumOfHardFirst_14 rfl rfl ?_
    refine J_iload_n (j := 2) dX7_sumOfHardFirst_15 rfl rfl ?_
    obtain ⟨r2, h3, hF⟩ := ob_some hF
    refine JX_callVi (As := [.int v2]) (S := []) lkV_Turns_21_X7_hardestOutside rfl (by decide) dX7_sumOfHardFirst_16 c_41 (S_X7_hardestOutside_41 (by omega) h3) (by omega) rfl rfl (Nat.le_of_ble_eq_true rfl) rfl ?_
    refine J_istore (L' := [(4, .int r2), (0, .ref 41), (1, .int v1), (2, .int v2), (3, .int v3)]) dX7_sumOfHardFirst_19 (by decide) rfl ?_
    refine J_iload (j := 0) dX7_sumOfHardFirst_21 rfl ?_
    refine J_if_ge (tgt := 28) dX7_sumOfHardFirst_23 (by decide) (fun q4 => ?_) (fun q4 => ?_)
    · rw [if_pos q4] at hF
      refine J_iload_n (j := 2) dX7_sumOfHardFirst_28 rfl rfl ?_
      refine J_aload_n (j := 1) dX7_sumOfHardFirst_29 rfl rfl ?_
      refine J_iload_n (j := 3) dX7_sumOfHardFirst_30 rfl rfl ?_
      refine J_iload (j := 0) dX7_sumOfHardFirst_31 rfl ?_
      obtain ⟨r5, h6, hF⟩ := ob_some hF
      refine JX_callVi (As := [.int v2, .int r2]) (S := [.int v1]) lkV_Turns_25_X7_takesBehind rfl (by decide) dX7_sumOfHardFirst_33 c_41 (S_X7_takesBehind_41 (by omega) h6) (by omega) rfl rfl (Nat.le_of_ble_eq_true rfl) rfl ?_
      refine J_iadd dX7_sumOfHardFirst_36 ?_
      refine J_istore_n (L' := [(1, .int (v1 + r5)), (4, .int r2), (0, .ref 41), (2, .int v2), (3, .int v3)]) dX7_sumOfHardFirst_37 rfl (by decide) rfl ?_
      refine J_iload_n (j := 3) dX7_sumOfHardFirst_38 rfl rfl ?_
      refine J_iconst (v := 1) dX7_sumOfHardFirst_39 (by decide) ?_
      refine J_iload (j := 1) dX7_sumOfHardFirst_40 rfl ?_
      refine J_ishl dX7_sumOfHardFirst_42 ?_
      refine J_ior dX7_sumOfHardFirst_43 ?_
      obtain ⟨y7, e_y7, hF⟩ := letx_eq hF
      rw [← e_y7]
      refine J_istore_n (L' := [(2, .int y7), (1, .int (v1 + r5)), (4, .int r2), (0, .ref 41), (3, .int v3)]) dX7_sumOfHardFirst_44 rfl (by decide) rfl ?_
      refine J_iinc (j := 4) (v := v3 + 1) (L' := [(3, .int (v3 + 1)), (2, .int y7), (1, .int (v1 + r5)), (4, .int r2), (0, .ref 41)]) dX7_sumOfHardFirst_45 rfl rfl (by decide) rfl ?_
      refine J_goto (tgt := 6) dX7_sumOfHardFirst_48 (by decide) ?_
      refine J_sub [4, 2, 1, 0] rfl ?_
      exact hK6 _ _ _ _  hF
    · rw [if_neg q4] at hF
      refine J_iload_n (j := 2) dX7_sumOfHardFirst_26 rfl rfl ?_
      have e_r := Option.some.inj hF
      subst e_r
      exact J_ireturn rfl rfl dX7_sumOfHardFirst_27 ⟨rfl, rfl⟩
def f_X7_sumOfHardFirst_41_6 (x : MX) : Nat → Int32 → Int32 → Int32 → Option Int32
  | 0 => fun _ _ _ => none
  | n + 1 => fun v1 v2 v3 => B_X7_sumOfHardFirst_41_6 (f_X7_sumOfHardFirst_41_6 x n) v1 v2 v3 x
theorem Sf_X7_sumOfHardFirst_41_6 {g : GC} {d : Nat} {x : MX} {m : MM} (hd : 3 ≤ d)  : ∀ (n : Nat) (v1 : Int32) (v2 : Int32) (v3 : Int32) (r : Int32), f_X7_sumOfHardFirst_41_6 x n v1 v2 v3 = some r → J g m_X7_sumOfHardFirst d 0 0 6 [(0, .ref 41), (1, .int v1), (2, .int v2), (3, .int v3)] [] (ST x m) 0 0 (EQ (some (.int r)) (ST x m)) := by
  intro n
  induction n with
  | zero => intro v1 v2 v3 r  hF; exact absurd hF (fun q => by cases q)
  | succ n ih =>
    intro v1 v2 v3 r  hF
    exact SB_X7_sumOfHardFirst_41_6 hd (fun v1 v2 v3 r  hF => ih v1 v2 v3 r  hF) hF
def f_X7_sumOfHardFirst_41 (x : MX) : Option Int32 :=
  f_X7_sumOfHardFirst_41_6 x LF 0 0 0
theorem S_X7_sumOfHardFirst_41 {g : GC} {d : Nat}  {x : MX} {m : MM} {r : Int32} (hd : 3 ≤ d) 
  (hF : f_X7_sumOfHardFirst_41 x = some r) : JC g m_X7_sumOfHardFirst d 0 0 [.ref 41] (ST x m) (EQ (some (.int r)) (ST x m)) := by
  refine JC.of (by decide +kernel) (Nat.le_of_ble_eq_true rfl) ?_
  change J g m_X7_sumOfHardFirst d 0 0 0 [(0, .ref 41)] [] (ST x m) 0 0 (EQ (some (.int r)) (ST x m))
  unfold f_X7_sumOfHardFirst_41 at hF
  refine J_iconst (v := 0) dX7_sumOfHardFirst_0 (by decide) ?_
  refine J_istore_n (L' := [(1, .int 0), (0, .ref 41)]) dX7_sumOfHardFirst_1 rfl (by decide) rfl ?_
  refine J_iconst (v := 0) dX7_sumOfHardFirst_2 (by decide) ?_
  refine J_istore_n (L' := [(2, .int 0), (1, .int 0), (0, .ref 41)]) dX7_sumOfHardFirst_3 rfl (by decide) rfl ?_
  refine J_iconst (v := 0) dX7_sumOfHardFirst_4 (by decide) ?_
  refine J_istore_n (L' := [(3, .int 0), (2, .int 0), (1, .int 0), (0, .ref 41)]) dX7_sumOfHardFirst_5 rfl (by decide) rfl ?_
  refine J_sub [3, 2, 1, 0] rfl ?_
  exact Sf_X7_sumOfHardFirst_41_6 hd _ _ _ _ _ hF
def f_X5_leastSum_41 (x : MX) : Option Int32 :=
  some (xi x 49 0)
theorem S_X5_leastSum_41 {g : GC} {d : Nat}  {x : MX} {m : MM} {r : Int32} (hd : 1 ≤ d) 
  (hF : f_X5_leastSum_41 x = some r) : JC g m_X5_leastSum d 0 0 [.ref 41] (ST x m) (EQ (some (.int r)) (ST x m)) := by
  refine JC.of (by decide +kernel) (Nat.le_of_ble_eq_true rfl) ?_
  change J g m_X5_leastSum d 0 0 0 [(0, .ref 41)] [] (ST x m) 0 0 (EQ (some (.int r)) (ST x m))
  unfold f_X5_leastSum_41 at hF
  refine J_aload_n (j := 0) dX5_leastSum_0 rfl rfl ?_
  refine JX_getR (r := 49) fl_Plan_14_6 dX5_leastSum_1 c_41 rfl rfl ?_
  refine J_iconst (v := 0) dX5_leastSum_4 (by decide) ?_
  refine JX_iald (j := 0) dX5_leastSum_5 c_49 (by unfold vp_in; decide) (by decide) ?_
  have e_r := Option.some.inj hF
  subst e_r
  exact J_ireturn rfl rfl dX5_leastSum_6 ⟨rfl, rfl⟩
def B_X5_chosen_41_7 (K7 : Int32 → Int32 → Int32 → Int32 → Option Int32) (v1 : Int32) (v2 : Int32) (v3 : Int32) (v4 : Int32) (x : MX) : Option Int32 :=
  if v1 < v4 then
  some v3
  else
  if (xi x 41 3) ≤ v4 then
  some v3
  else
  ob (f_X5_firstBest_41 v2 x) (fun r3 =>
  if 0 ≤ r3 then
  letx (v2 ||| ((1 : Int32) <<< (r3 &&& 31))) (fun y6 =>
  K7 v1 y6 r3 (v4 + 1))
  else
  some r3)
theorem SB_X5_chosen_41_7 {g : GC} {d : Nat} {K7 : Int32 → Int32 → Int32 → Int32 → Option Int32} {v1 : Int32} {v2 : Int32} {v3 : Int32} {v4 : Int32} {x : MX} {m : MM} {r : Int32} (hd : 4 ≤ d) (hK7 : ∀ (v1 : Int32) (v2 : Int32) (v3 : Int32) (v4 : Int32) (r : Int32), K7 v1 v2 v3 v4 = some r → J g m_X5_chosen d 0 0 7 [(0, .ref 41), (1, .int v1), (2, .int v2), (3, .int v3), (4, .int v4)] [] (ST x m) 0 0 (EQ (some (.int r)) (ST x m)))
  (hF : B_X5_chosen_41_7 K7 v1 v2 v3 v4 x = some r) : J g m_X5_chosen d 0 0 7 [(0, .ref 41), (1, .int v1), (2, .int v2), (3, .int v3), (4, .int v4)] [] (ST x m) 0 0 (EQ (some (.int r)) (ST x m)) := by
  unfold B_X5_chosen_41_7 at hF
  refine J_iload (j := 4) dX5_chosen_7 rfl ?_
  refine J_iload_n (j := 1) dX5_chosen_9 rfl rfl ?_
  refine J_icmp_gt (tgt := 46) dX5_chosen_10 (by decide) (fun q1 => ?_) (fun q1 => ?_)
  · rw [if_pos q1] at hF
    refine J_iload_n (j := 3) dX5_chosen_46 rfl rfl ?_
    have e_r := Option.some.inj hF
    subst e_r
    exact J_ireturn rfl rfl dX5_chosen_47 ⟨rfl, rfl⟩
  · rw [if_neg q1] at hF
    refine J_iload (j := 4) dX5_chosen_13 rfl ?_
    refine J_aload_n (j := 0) dX5_chosen_15 rfl rfl ?_
    refine JX_getI fl_Plan_31_6 dX5_chosen_16 c_41 rfl ?_
    refine J_icmp_ge (tgt := 46) dX5_chosen_19 (by decide) (fun q2 => ?_) (fun q2 => ?_)
    · rw [if_pos q2] at hF
      refine J_iload_n (j := 3) dX5_chosen_46 rfl rfl ?_
      have e_r := Option.some.inj hF
      subst e_r
      exact J_ireturn rfl rfl dX5_chosen_47 ⟨rfl, rfl⟩
    · rw [if_neg q2] at hF
      refine J_aload_n (j := 0) dX5_chosen_22 rfl rfl ?_
      refine J_iload_n (j := 2) dX5_chosen_23 rfl rfl ?_
      obtain ⟨r3, h4, hF⟩ := ob_some hF
      refine JX_callUi (As := [.int v2]) (S := []) lkU_Plan_40_X5_firstBest_6 rfl (by decide) dX5_chosen_24 c_41 (S_X5_firstBest_41 (by omega) h4) (by omega) rfl rfl (Nat.le_of_ble_eq_true rfl) rfl ?_
      refine J_istore_n (L' := [(3, .int r3), (0, .ref 41), (1, .int v1), (2, .int v2), (4, .int v4)]) dX5_chosen_27 rfl (by decide) rfl ?_
      refine J_iload_n (j := 0) dX5_chosen_28 rfl rfl ?_
      refine J_if_ge (tgt := 34) dX5_chosen_29 (by decide) (fun q5 => ?_) (fun q5 => ?_)
      · rw [if_pos q5] at hF
        refine J_iload_n (j := 3) dX5_chosen_34 rfl rfl ?_
        refine J_iconst (v := 1) dX5_chosen_35 (by decide) ?_
        refine J_iload_n (j := 0) dX5_chosen_36 rfl rfl ?_
        refine J_ishl dX5_chosen_37 ?_
        refine J_ior dX5_chosen_38 ?_
        obtain ⟨y6, e_y6, hF⟩ := letx_eq hF
        rw [← e_y6]
        refine J_istore_n (L' := [(2, .int y6), (3, .int r3), (0, .ref 41), (1, .int v1), (4, .int v4)]) dX5_chosen_39 rfl (by decide) rfl ?_
        refine J_iinc (j := 4) (v := v4 + 1) (L' := [(4, .int (v4 + 1)), (2, .int y6), (3, .int r3), (0, .ref 41), (1, .int v1)]) dX5_chosen_40 rfl rfl (by decide) rfl ?_
        refine J_goto (tgt := 7) dX5_chosen_43 (by decide) ?_
        refine J_sub [3, 4, 1, 2, 0] rfl ?_
        exact hK7 _ _ _ _ _  hF
      · rw [if_neg q5] at hF
        refine J_iload_n (j := 0) dX5_chosen_32 rfl rfl ?_
        have e_r := Option.some.inj hF
        subst e_r
        exact J_ireturn rfl rfl dX5_chosen_33 ⟨rfl, rfl⟩
def f_X5_chosen_41_7 (x : MX) : Nat → Int32 → Int32 → Int32 → Int32 → Option Int32
  | 0 => fun _ _ _ _ => none
  | n + 1 => fun v1 v2 v3 v4 => B_X5_chosen_41_7 (f_X5_chosen_41_7 x n) v1 v2 v3 v4 x
theorem Sf_X5_chosen_41_7 {g : GC} {d : Nat} {x : MX} {m : MM} (hd : 4 ≤ d)  : ∀ (n : Nat) (v1 : Int32) (v2 : Int32) (v3 : Int32) (v4 : Int32) (r : Int32), f_X5_chosen_41_7 x n v1 v2 v3 v4 = some r → J g m_X5_chosen d 0 0 7 [(0, .ref 41), (1, .int v1), (2, .int v2), (3, .int v3), (4, .int v4)] [] (ST x m) 0 0 (EQ (some (.int r)) (ST x m)) := by
  intro n
  induction n with
  | zero => intro v1 v2 v3 v4 r  hF; exact absurd hF (fun q => by cases q)
  | succ n ih =>
    intro v1 v2 v3 v4 r  hF
    exact SB_X5_chosen_41_7 hd (fun v1 v2 v3 v4 r  hF => ih v1 v2 v3 v4 r  hF) hF
def f_X5_chosen_41 (a1 : Int32) (x : MX) : Option Int32 :=
  f_X5_chosen_41_7 x LF a1 0 (-1) 0
theorem S_X5_chosen_41 {g : GC} {d : Nat} {a1 : Int32} {x : MX} {m : MM} {r : Int32} (hd : 4 ≤ d) 
  (hF : f_X5_chosen_41 a1 x = some r) : JC g m_X5_chosen d 0 0 [.ref 41, .int a1] (ST x m) (EQ (some (.int r)) (ST x m)) := by
  refine JC.of (by decide +kernel) (Nat.le_of_ble_eq_true rfl) ?_
  change J g m_X5_chosen d 0 0 0 [(0, .ref 41), (1, .int a1)] [] (ST x m) 0 0 (EQ (some (.int r)) (ST x m))
  unfold f_X5_chosen_41 at hF
  refine J_iconst (v := 0) dX5_chosen_0 (by decide) ?_
  refine J_istore_n (L' := [(2, .int 0), (0, .ref 41), (1, .int a1)]) dX5_chosen_1 rfl (by decide) rfl ?_
  refine J_iconst (v := (-1)) dX5_chosen_2 (by decide) ?_
  refine J_istore_n (L' := [(3, .int (-1)), (2, .int 0), (0, .ref 41), (1, .int a1)]) dX5_chosen_3 rfl (by decide) rfl ?_
  refine J_iconst (v := 0) dX5_chosen_4 (by decide) ?_
  refine J_istore (L' := [(4, .int 0), (3, .int (-1)), (2, .int 0), (0, .ref 41), (1, .int a1)]) dX5_chosen_5 (by decide) rfl ?_
  refine J_sub [3, 4, 2, 1, 0] rfl ?_
  exact Sf_X5_chosen_41_7 hd _ _ _ _ _ _ hF
def B_X8_order_48 (K23 : Int32 → Int32 → Int32 → MX → Option (Int32 × MX)) (K48 : Int32 → Int32 → Int32 → Int32 → MX → Option (Int32 × MX)) (v1 : Int32) (v2 : Int32) (v3 : Int32) (v4 : Int32) (x : MX) : Option (Int32 × MX) :=
  if v2 ≤ v4 then
  K23 v1 v2 (v3 + 1) x
  else
  if inb v3 6 = true then
  if inb v3 8 = true then
  ob2 (f_X8_takesByHand v3 v3 (xi x 11 (ix v3)) v4 x) (fun r22 x23 =>
  if inb v4 6 = true then
  letx (xs x23 (43 + ix v3) (ix v4) r22) (fun x26 =>
  K48 v1 v2 v3 (v4 + 1) x26)
  else none)
  else none
  else none
theorem SB_X8_order_48 {g : GC} {d : Nat} {K23 : Int32 → Int32 → Int32 → MX → Option (Int32 × MX)} {K48 : Int32 → Int32 → Int32 → Int32 → MX → Option (Int32 × MX)} {v1 : Int32} {v2 : Int32} {v3 : Int32} {v4 : Int32} {x : MX} {m : MM} {r : Int32} {z : MX} (hd : 5 ≤ d) (hK23 : ∀ (v1 : Int32) (v2 : Int32) (v3 : Int32) (x : MX) (r : Int32) (z : MX), K23 v1 v2 v3 x = some (r, z) → J g m_X8_order d 0 0 23 [(0, .ref 5), (1, .int v1), (2, .int v2), (3, .int v3)] [] (ST x m) 0 0 (EQ (some (.int r)) (ST z m))) (hK48 : ∀ (v1 : Int32) (v2 : Int32) (v3 : Int32) (v4 : Int32) (x : MX) (r : Int32) (z : MX), K48 v1 v2 v3 v4 x = some (r, z) → J g m_X8_order d 0 0 48 [(0, .ref 5), (1, .int v1), (2, .int v2), (3, .int v3), (4, .int v4)] [] (ST x m) 0 0 (EQ (some (.int r)) (ST z m)))
  (hF : B_X8_order_48 K23 K48 v1 v2 v3 v4 x = some (r, z)) : J g m_X8_order d 0 0 48 [(0, .ref 5), (1, .int v1), (2, .int v2), (3, .int v3), (4, .int v4)] [] (ST x m) 0 0 (EQ (some (.int r)) (ST z m)) := by
  unfold B_X8_order_48 at hF
  refine J_iload (j := 4) dX8_order_48 rfl ?_
  refine J_iload_n (j := 2) dX8_order_50 rfl rfl ?_
  refine J_icmp_ge (tgt := 88) dX8_order_51 (by decide) (fun q19 => ?_) (fun q19 => ?_)
  · rw [if_pos q19] at hF
    refine J_iinc (j := 3) (v := v3 + 1) (L' := [(3, .int (v3 + 1)), (0, .ref 5), (1, .int v1), (2, .int v2), (4, .int v4)]) dX8_order_88 rfl rfl (by decide) rfl ?_
    refine J_goto (tgt := 23) dX8_order_91 (by decide) ?_
    refine J_sub [1, 2, 3, 0] rfl ?_
    exact hK23 _ _ _ _ _ _  hF
  · rw [if_neg q19] at hF
    refine J_aload_n (j := 0) dX8_order_54 rfl rfl ?_
    refine JX_getR (r := 41) fl_WithOneHand_45_7 dX8_order_55 c_5 rfl rfl ?_
    refine JX_getR (r := 42) fl_WithOneHand_168_6 dX8_order_58 c_41 rfl rfl ?_
    refine J_iload_n (j := 3) dX8_order_61 rfl rfl ?_
    obtain ⟨b20, hF⟩ := chk hF
    refine JX_aald (j := ix v3) (r := 43 + ix v3) (by decide) dX8_order_62 c_42 (inb_vp b20) rfl (rw_42 _ (inb_lt b20)) ?_
    refine J_iload (j := 4) dX8_order_63 rfl ?_
    refine J_aload_n (j := 0) dX8_order_65 rfl rfl ?_
    refine J_iload_n (j := 3) dX8_order_66 rfl rfl ?_
    refine J_iload_n (j := 3) dX8_order_67 rfl rfl ?_
    refine J_aload_n (j := 0) dX8_order_68 rfl rfl ?_
    refine JX_getR (r := 6) fl_WithOneHand_11_7 dX8_order_69 c_5 rfl rfl ?_
    refine J_iconst (v := 4) dX8_order_72 (by decide) ?_
    refine JX_aald (j := 4) (r := 11) (by decide) dX8_order_73 c_6 (by unfold vp_in; decide) (by decide) rfl ?_
    refine J_iload_n (j := 3) dX8_order_74 rfl rfl ?_
    obtain ⟨b21, hF⟩ := chk hF
    refine JX_iald (j := ix v3) dX8_order_75 c_11 (inb_vp b21) rfl ?_
    refine J_iload (j := 4) dX8_order_76 rfl ?_
    obtain ⟨r22, x23, h24, hF⟩ := ob2_some hF
    refine JX_callVi (As := [.int v3, .int v3, .int (xi x 11 (ix v3)), .int v4]) (S := [.int v4, .ref (43 + ix v3)]) lkV_WithOneHand_169_X8_takesByHand rfl (by decide) dX8_order_78 c_5 (S_X8_takesByHand (by omega) h24) (by omega) rfl rfl (Nat.le_of_ble_eq_true rfl) rfl ?_
    obtain ⟨b25, hF⟩ := chk hF
    obtain ⟨x26, e_x26, hF⟩ := letx_eq hF
    refine JX_iast (j := ix v4) dX8_order_81 (cr_42 (inb_lt b20)) (inb_vp b25) rfl ?_
    rw [← e_x26]
    refine J_iinc (j := 4) (v := v4 + 1) (L' := [(4, .int (v4 + 1)), (0, .ref 5), (1, .int v1), (2, .int v2), (3, .int v3)]) dX8_order_82 rfl rfl (by decide) rfl ?_
    refine J_goto (tgt := 48) dX8_order_85 (by decide) ?_
    refine J_sub [1, 2, 3, 4, 0] rfl ?_
    exact hK48 _ _ _ _ _ _ _  hF
def f_X8_order_48 (K23 : Int32 → Int32 → Int32 → MX → Option (Int32 × MX)) : Nat → Int32 → Int32 → Int32 → Int32 → MX → Option (Int32 × MX)
  | 0 => fun _ _ _ _ _ => none
  | n + 1 => fun v1 v2 v3 v4 x => B_X8_order_48 K23 (f_X8_order_48 K23 n) v1 v2 v3 v4 x
theorem Sf_X8_order_48 {g : GC} {d : Nat} {m : MM} {K23 : Int32 → Int32 → Int32 → MX → Option (Int32 × MX)} (hd : 5 ≤ d) (hK23 : ∀ (v1 : Int32) (v2 : Int32) (v3 : Int32) (x : MX) (r : Int32) (z : MX), K23 v1 v2 v3 x = some (r, z) → J g m_X8_order d 0 0 23 [(0, .ref 5), (1, .int v1), (2, .int v2), (3, .int v3)] [] (ST x m) 0 0 (EQ (some (.int r)) (ST z m))) : ∀ (n : Nat) (v1 : Int32) (v2 : Int32) (v3 : Int32) (v4 : Int32) (x : MX) (r : Int32) (z : MX), f_X8_order_48 K23 n v1 v2 v3 v4 x = some (r, z) → J g m_X8_order d 0 0 48 [(0, .ref 5), (1, .int v1), (2, .int v2), (3, .int v3), (4, .int v4)] [] (ST x m) 0 0 (EQ (some (.int r)) (ST z m)) := by
  intro n
  induction n with
  | zero => intro v1 v2 v3 v4 x r z  hF; exact absurd hF (fun q => by cases q)
  | succ n ih =>
    intro v1 v2 v3 v4 x r z  hF
    exact SB_X8_order_48 hd hK23 (fun v1 v2 v3 v4 x r z  hF => ih v1 v2 v3 v4 x r z  hF) hF
def B_X8_order_23 (K23 : Int32 → Int32 → Int32 → MX → Option (Int32 × MX)) (v1 : Int32) (v2 : Int32) (v3 : Int32) (x : MX) : Option (Int32 × MX) :=
  if v2 ≤ v3 then
  ob (f_X5_workOut_41 v2 v2 x) (fun x4 =>
  if v1 < 0 then
  if v1 = (-1) then
  ob (f_X5_leastSum_41 x4) (fun r12 =>
  some (r12, x4))
  else
  ob (f_X7_sumOfHardFirst_41 x4) (fun r8 =>
  ob (f_X5_leastSum_41 x4) (fun r10 =>
  some (r8 - r10, x4)))
  else
  ob (f_X5_chosen_41 v1 x4) (fun r14 =>
  some (r14, x4)))
  else
  if inb v3 8 = true then
  if inb v3 6 = true then
  letx (xs x 50 (ix v3) (xi x 11 (ix v3))) (fun x18 =>
  f_X8_order_48 K23 LF v1 v2 v3 0 x18)
  else none
  else none
theorem SB_X8_order_23 {g : GC} {d : Nat} {K23 : Int32 → Int32 → Int32 → MX → Option (Int32 × MX)} {v1 : Int32} {v2 : Int32} {v3 : Int32} {x : MX} {m : MM} {r : Int32} {z : MX} (hd : 5 ≤ d) (hK23 : ∀ (v1 : Int32) (v2 : Int32) (v3 : Int32) (x : MX) (r : Int32) (z : MX), K23 v1 v2 v3 x = some (r, z) → J g m_X8_order d 0 0 23 [(0, .ref 5), (1, .int v1), (2, .int v2), (3, .int v3)] [] (ST x m) 0 0 (EQ (some (.int r)) (ST z m)))
  (hF : B_X8_order_23 K23 v1 v2 v3 x = some (r, z)) : J g m_X8_order d 0 0 23 [(0, .ref 5), (1, .int v1), (2, .int v2), (3, .int v3)] [] (ST x m) 0 0 (EQ (some (.int r)) (ST z m)) := by
  unfold B_X8_order_23 at hF
  refine J_iload_n (j := 3) dX8_order_23 rfl rfl ?_
  refine J_iload_n (j := 2) dX8_order_24 rfl rfl ?_
  refine J_icmp_ge (tgt := 94) dX8_order_25 (by decide) (fun q3 => ?_) (fun q3 => ?_)
  · rw [if_pos q3] at hF
    refine J_aload_n (j := 0) dX8_order_94 rfl rfl ?_
    refine JX_getR (r := 41) fl_WithOneHand_45_7 dX8_order_95 c_5 rfl rfl ?_
    refine J_iload_n (j := 2) dX8_order_98 rfl rfl ?_
    refine J_iload_n (j := 2) dX8_order_99 rfl rfl ?_
    obtain ⟨x4, h5, hF⟩ := ob_some hF
    refine JX_callUv (As := [.int v2, .int v2]) (S := []) lkU_WithOneHand_173_X5_workOut_6 rfl (by decide) dX8_order_100 c_41 (S_X5_workOut_41 (by omega) h5) (by omega) rfl rfl (Nat.le_of_ble_eq_true rfl) rfl ?_
    refine J_iload_n (j := 1) dX8_order_103 rfl rfl ?_
    refine J_if_lt (tgt := 116) dX8_order_104 (by decide) (fun q6 => ?_) (fun q6 => ?_)
    · rw [if_pos q6] at hF
      refine J_iload_n (j := 1) dX8_order_116 rfl rfl ?_
      refine J_iconst (v := (-1)) dX8_order_117 (by decide) ?_
      refine J_icmp_ne (tgt := 131) dX8_order_118 (by decide) (fun q7 => ?_) (fun q7 => ?_)
      · rw [if_neg q7] at hF
        refine J_aload_n (j := 0) dX8_order_131 rfl rfl ?_
        refine JX_getR (r := 41) fl_WithOneHand_45_7 dX8_order_132 c_5 rfl rfl ?_
        obtain ⟨r8, h9, hF⟩ := ob_some hF
        refine JX_callVi (As := []) (S := []) lkV_WithOneHand_176_X7_sumOfHardFirst rfl (by decide) dX8_order_135 c_41 (S_X7_sumOfHardFirst_41 (by omega) h9) (by omega) rfl rfl (Nat.le_of_ble_eq_true rfl) rfl ?_
        refine J_aload_n (j := 0) dX8_order_138 rfl rfl ?_
        refine JX_getR (r := 41) fl_WithOneHand_45_7 dX8_order_139 c_5 rfl rfl ?_
        obtain ⟨r10, h11, hF⟩ := ob_some hF
        refine JX_callUi (As := []) (S := [.int r8]) lkU_WithOneHand_175_X5_leastSum_6 rfl (by decide) dX8_order_142 c_41 (S_X5_leastSum_41 (by omega) h11) (by omega) rfl rfl (Nat.le_of_ble_eq_true rfl) rfl ?_
        refine J_isub dX8_order_145 ?_
        obtain ⟨e_r, e_z⟩ := someP hF
        subst e_r
        subst e_z
        exact J_ireturn rfl rfl dX8_order_146 ⟨rfl, rfl⟩
      · rw [if_pos q7] at hF
        refine J_aload_n (j := 0) dX8_order_121 rfl rfl ?_
        refine JX_getR (r := 41) fl_WithOneHand_45_7 dX8_order_122 c_5 rfl rfl ?_
        obtain ⟨r12, h13, hF⟩ := ob_some hF
        refine JX_callUi (As := []) (S := []) lkU_WithOneHand_175_X5_leastSum_6 rfl (by decide) dX8_order_125 c_41 (S_X5_leastSum_41 (by omega) h13) (by omega) rfl rfl (Nat.le_of_ble_eq_true rfl) rfl ?_
        refine J_goto (tgt := 146) dX8_order_128 (by decide) ?_
        obtain ⟨e_r, e_z⟩ := someP hF
        subst e_r
        subst e_z
        exact J_ireturn rfl rfl dX8_order_146 ⟨rfl, rfl⟩
    · rw [if_neg q6] at hF
      refine J_aload_n (j := 0) dX8_order_107 rfl rfl ?_
      refine JX_getR (r := 41) fl_WithOneHand_45_7 dX8_order_108 c_5 rfl rfl ?_
      refine J_iload_n (j := 1) dX8_order_111 rfl rfl ?_
      obtain ⟨r14, h15, hF⟩ := ob_some hF
      refine JX_callUi (As := [.int v1]) (S := []) lkU_WithOneHand_174_X5_chosen_6 rfl (by decide) dX8_order_112 c_41 (S_X5_chosen_41 (by omega) h15) (by omega) rfl rfl (Nat.le_of_ble_eq_true rfl) rfl ?_
      obtain ⟨e_r, e_z⟩ := someP hF
      subst e_r
      subst e_z
      exact J_ireturn rfl rfl dX8_order_115 ⟨rfl, rfl⟩
  · rw [if_neg q3] at hF
    refine J_aload_n (j := 0) dX8_order_28 rfl rfl ?_
    refine JX_getR (r := 41) fl_WithOneHand_45_7 dX8_order_29 c_5 rfl rfl ?_
    refine JX_getR (r := 50) fl_WithOneHand_165_6 dX8_order_32 c_41 rfl rfl ?_
    refine J_iload_n (j := 3) dX8_order_35 rfl rfl ?_
    refine J_aload_n (j := 0) dX8_order_36 rfl rfl ?_
    refine JX_getR (r := 6) fl_WithOneHand_11_7 dX8_order_37 c_5 rfl rfl ?_
    refine J_iconst (v := 4) dX8_order_40 (by decide) ?_
    refine JX_aald (j := 4) (r := 11) (by decide) dX8_order_41 c_6 (by unfold vp_in; decide) (by decide) rfl ?_
    refine J_iload_n (j := 3) dX8_order_42 rfl rfl ?_
    obtain ⟨b16, hF⟩ := chk hF
    refine JX_iald (j := ix v3) dX8_order_43 c_11 (inb_vp b16) rfl ?_
    obtain ⟨b17, hF⟩ := chk hF
    obtain ⟨x18, e_x18, hF⟩ := letx_eq hF
    refine JX_iast (j := ix v3) dX8_order_44 c_50 (inb_vp b17) rfl ?_
    rw [← e_x18]
    refine J_iconst (v := 0) dX8_order_45 (by decide) ?_
    refine J_istore (L' := [(4, .int 0), (0, .ref 5), (1, .int v1), (2, .int v2), (3, .int v3)]) dX8_order_46 (by decide) rfl ?_
    refine J_sub [1, 2, 3, 4, 0] rfl ?_
    exact Sf_X8_order_48 hd hK23 _ _ _ _ _ _ _ _ hF
def f_X8_order_23  : Nat → Int32 → Int32 → Int32 → MX → Option (Int32 × MX)
  | 0 => fun _ _ _ _ => none
  | n + 1 => fun v1 v2 v3 x => B_X8_order_23 (f_X8_order_23  n) v1 v2 v3 x
theorem Sf_X8_order_23 {g : GC} {d : Nat} {m : MM} (hd : 5 ≤ d)  : ∀ (n : Nat) (v1 : Int32) (v2 : Int32) (v3 : Int32) (x : MX) (r : Int32) (z : MX), f_X8_order_23  n v1 v2 v3 x = some (r, z) → J g m_X8_order d 0 0 23 [(0, .ref 5), (1, .int v1), (2, .int v2), (3, .int v3)] [] (ST x m) 0 0 (EQ (some (.int r)) (ST z m)) := by
  intro n
  induction n with
  | zero => intro v1 v2 v3 x r z  hF; exact absurd hF (fun q => by cases q)
  | succ n ih =>
    intro v1 v2 v3 x r z  hF
    exact SB_X8_order_23 hd (fun v1 v2 v3 x r z  hF => ih v1 v2 v3 x r z  hF) hF
def f_X8_order (a1 : Int32) (x : MX) : Option (Int32 × MX) :=
  if (-2) ≤ a1 then
  if a1 < (f_X8_bothCount x) then
  f_X8_order_23 LF a1 (f_X8_bothCount x) 0 x
  else
  some ((-2), x)
  else
  some ((-1), x)
theorem S_X8_order {g : GC} {d : Nat} {a1 : Int32} {x : MX} {m : MM} {r : Int32} {z : MX} (hd : 5 ≤ d) 
  (hF : f_X8_order a1 x = some (r, z)) : JC g m_X8_order d 0 0 [.ref 5, .int a1] (ST x m) (EQ (some (.int r)) (ST z m)) := by
  refine JC.of (by decide +kernel) (Nat.le_of_ble_eq_true rfl) ?_
  change J g m_X8_order d 0 0 0 [(0, .ref 5), (1, .int a1)] [] (ST x m) 0 0 (EQ (some (.int r)) (ST z m))
  unfold f_X8_order at hF
  refine J_iload_n (j := 1) dX8_order_0 rfl rfl ?_
  refine J_bipush (v := (-2)) dX8_order_1 (by decide) ?_
  refine J_icmp_ge (tgt := 8) dX8_order_3 (by decide) (fun q1 => ?_) (fun q1 => ?_)
  · rw [if_pos q1] at hF
    refine J_aload_n (j := 0) dX8_order_8 rfl rfl ?_
    refine JX_callVi (As := []) (S := []) lkV_WithOneHand_162_X8_bothCount rfl (by decide) dX8_order_9 c_5 (S_X8_bothCount (by omega) rfl) (by omega) rfl rfl (Nat.le_of_ble_eq_true rfl) rfl ?_
    refine J_istore_n (L' := [(2, .int (f_X8_bothCount x)), (0, .ref 5), (1, .int a1)]) dX8_order_12 rfl (by decide) rfl ?_
    refine J_iload_n (j := 2) dX8_order_13 rfl rfl ?_
    refine J_iload_n (j := 0) dX8_order_14 rfl rfl ?_
    refine J_icmp_lt (tgt := 21) dX8_order_15 (by decide) (fun q2 => ?_) (fun q2 => ?_)
    · rw [if_pos q2] at hF
      refine J_iconst (v := 0) dX8_order_21 (by decide) ?_
      refine J_istore_n (L' := [(3, .int 0), (2, .int (f_X8_bothCount x)), (0, .ref 5), (1, .int a1)]) dX8_order_22 rfl (by decide) rfl ?_
      refine J_sub [2, 3, 1, 0] rfl ?_
      exact Sf_X8_order_23 hd _ _ _ _ _ _ _ hF
    · rw [if_neg q2] at hF
      refine J_bipush (v := (-2)) dX8_order_18 (by decide) ?_
      obtain ⟨e_r, e_z⟩ := someP hF
      subst e_r
      subst e_z
      exact J_ireturn rfl rfl dX8_order_20 ⟨rfl, rfl⟩
  · rw [if_neg q1] at hF
    refine J_iconst (v := (-1)) dX8_order_6 (by decide) ?_
    obtain ⟨e_r, e_z⟩ := someP hF
    subst e_r
    subst e_z
    exact J_ireturn rfl rfl dX8_order_7 ⟨rfl, rfl⟩
def f_X9_both (m : MM) : Int32 :=
  if (mi m 80 1) ≤ (mi m 80 0) then
  mi m 80 1
  else
  mi m 80 0
theorem S_X9_both {g : GC} {d : Nat}  {x : MX} {m : MM} {r : Int32} (hd : 1 ≤ d) 
  (hF : f_X9_both m = r) : JC g m_X9_both d 0 0 [.ref 80] (ST x m) (EQ (some (.int r)) (ST x m)) := by
  refine JC.of (by decide +kernel) (Nat.le_of_ble_eq_true rfl) ?_
  change J g m_X9_both d 0 0 0 [(0, .ref 80)] [] (ST x m) 0 0 (EQ (some (.int r)) (ST x m))
  unfold f_X9_both at hF
  refine J_aload_n (j := 0) dX9_both_0 rfl rfl ?_
  refine JM_getI fl_WithOneHandModel_108_8 dX9_both_1 c_80 rfl ?_
  refine J_aload_n (j := 0) dX9_both_4 rfl rfl ?_
  refine JM_getI fl_WithOneHandModel_111_8 dX9_both_5 c_80 rfl ?_
  refine J_icmp_ge (tgt := 18) dX9_both_8 (by decide) (fun q1 => ?_) (fun q1 => ?_)
  · rw [if_pos q1] at hF
    refine J_aload_n (j := 0) dX9_both_18 rfl rfl ?_
    refine JM_getI fl_WithOneHandModel_111_8 dX9_both_19 c_80 rfl ?_
    subst hF
    exact J_ireturn rfl rfl dX9_both_22 ⟨rfl, rfl⟩
  · rw [if_neg q1] at hF
    refine J_aload_n (j := 0) dX9_both_11 rfl rfl ?_
    refine JM_getI fl_WithOneHandModel_108_8 dX9_both_12 c_80 rfl ?_
    refine J_goto (tgt := 22) dX9_both_15 (by decide) ?_
    subst hF
    exact J_ireturn rfl rfl dX9_both_22 ⟨rfl, rfl⟩
def B_X9_orders_174 (s_X9_orders : Int32 → Int32 → Int32 → Int32 → Int32 → Int32 → MM → Option MM) (K61 : Int32 → Int32 → Int32 → Int32 → Int32 → Int32 → Int32 → MM → Option MM) (v1 : Int32) (v2 : Int32) (v3 : Int32) (v4 : Int32) (v5 : Int32) (v6 : Int32) (v7 : Int32) (m : MM) : Option MM :=
  K61 v1 v2 v3 v4 v5 v6 (v7 + 1) m
theorem SB_X9_orders_174 {g : GC} {nn d : Nat} {s_X9_orders : Int32 → Int32 → Int32 → Int32 → Int32 → Int32 → MM → Option MM} {K61 : Int32 → Int32 → Int32 → Int32 → Int32 → Int32 → Int32 → MM → Option MM} {v1 : Int32} {v2 : Int32} {v3 : Int32} {v4 : Int32} {v5 : Int32} {v6 : Int32} {v7 : Int32} {x : MX} {m : MM} {z : MM} (hd : nn + 108 ≤ d) (hs_s_X9_orders : ∀ (d : Nat), nn + 107 ≤ d → ∀ (a1 : Int32) (a2 : Int32) (a3 : Int32) (a4 : Int32) (a5 : Int32) (a6 : Int32) (m : MM) (z : MM), s_X9_orders a1 a2 a3 a4 a5 a6 m = some z → JC g m_X9_orders d 0 0 [.ref 80, .int a1, .int a2, .int a3, .int a4, .int a5, .int a6] (ST x m) (EQ (none) (ST x z))) (hK61 : ∀ (v1 : Int32) (v2 : Int32) (v3 : Int32) (v4 : Int32) (v5 : Int32) (v6 : Int32) (v7 : Int32) (m : MM) (z : MM), K61 v1 v2 v3 v4 v5 v6 v7 m = some z → J g m_X9_orders d 0 0 61 [(0, .ref 80), (1, .int v1), (2, .int v2), (3, .int v3), (4, .int v4), (5, .int v5), (6, .int v6), (7, .int v7)] [] (ST x m) 0 0 (EQ (none) (ST x z)))
  (hF : B_X9_orders_174 s_X9_orders K61 v1 v2 v3 v4 v5 v6 v7 m = some z) : J g m_X9_orders d 0 0 174 [(0, .ref 80), (1, .int v1), (2, .int v2), (3, .int v3), (4, .int v4), (5, .int v5), (6, .int v6), (7, .int v7)] [] (ST x m) 0 0 (EQ (none) (ST x z)) := by
  unfold B_X9_orders_174 at hF
  refine J_iinc (j := 7) (v := v7 + 1) (L' := [(7, .int (v7 + 1)), (0, .ref 80), (1, .int v1), (2, .int v2), (3, .int v3), (4, .int v4), (5, .int v5), (6, .int v6)]) dX9_orders_174 rfl rfl (by decide) rfl ?_
  refine J_goto (tgt := 61) dX9_orders_177 (by decide) ?_
  refine J_sub [1, 2, 3, 4, 5, 6, 7, 0] rfl ?_
  exact hK61 _ _ _ _ _ _ _ _ _  hF
def B_X9_orders_171 (s_X9_orders : Int32 → Int32 → Int32 → Int32 → Int32 → Int32 → MM → Option MM) (K61 : Int32 → Int32 → Int32 → Int32 → Int32 → Int32 → Int32 → MM → Option MM) (v1 : Int32) (v2 : Int32) (v3 : Int32) (v4 : Int32) (v5 : Int32) (v6 : Int32) (v7 : Int32) (t0 : Int32) (t1 : Int32) (t2 : Int32) (t3 : Int32) (t4 : Int32) (t5 : Int32) (m : MM) : Option MM :=
  ob (s_X9_orders t5 t4 t3 t2 t1 t0 m) (fun m14 =>
  B_X9_orders_174 s_X9_orders K61 v1 v2 v3 v4 v5 v6 v7 m14)
theorem SB_X9_orders_171 {g : GC} {nn d : Nat} {s_X9_orders : Int32 → Int32 → Int32 → Int32 → Int32 → Int32 → MM → Option MM} {K61 : Int32 → Int32 → Int32 → Int32 → Int32 → Int32 → Int32 → MM → Option MM} {v1 : Int32} {v2 : Int32} {v3 : Int32} {v4 : Int32} {v5 : Int32} {v6 : Int32} {v7 : Int32} {t0 : Int32} {t1 : Int32} {t2 : Int32} {t3 : Int32} {t4 : Int32} {t5 : Int32} {x : MX} {m : MM} {z : MM} (hd : nn + 108 ≤ d) (hs_s_X9_orders : ∀ (d : Nat), nn + 107 ≤ d → ∀ (a1 : Int32) (a2 : Int32) (a3 : Int32) (a4 : Int32) (a5 : Int32) (a6 : Int32) (m : MM) (z : MM), s_X9_orders a1 a2 a3 a4 a5 a6 m = some z → JC g m_X9_orders d 0 0 [.ref 80, .int a1, .int a2, .int a3, .int a4, .int a5, .int a6] (ST x m) (EQ (none) (ST x z))) (hK61 : ∀ (v1 : Int32) (v2 : Int32) (v3 : Int32) (v4 : Int32) (v5 : Int32) (v6 : Int32) (v7 : Int32) (m : MM) (z : MM), K61 v1 v2 v3 v4 v5 v6 v7 m = some z → J g m_X9_orders d 0 0 61 [(0, .ref 80), (1, .int v1), (2, .int v2), (3, .int v3), (4, .int v4), (5, .int v5), (6, .int v6), (7, .int v7)] [] (ST x m) 0 0 (EQ (none) (ST x z)))
  (hF : B_X9_orders_171 s_X9_orders K61 v1 v2 v3 v4 v5 v6 v7 t0 t1 t2 t3 t4 t5 m = some z) : J g m_X9_orders d 0 0 171 [(0, .ref 80), (1, .int v1), (2, .int v2), (3, .int v3), (4, .int v4), (5, .int v5), (6, .int v6), (7, .int v7)] [.int t0, .int t1, .int t2, .int t3, .int t4, .int t5, .ref 80] (ST x m) 0 0 (EQ (none) (ST x z)) := by
  unfold B_X9_orders_171 at hF
  obtain ⟨m14, h15, hF⟩ := ob_some hF
  refine JM_callVv (As := [.int t5, .int t4, .int t3, .int t2, .int t1, .int t0]) (S := []) lkV_WithOneHandModel_283_X9_orders rfl (by decide) dX9_orders_171 c_80 (hs_s_X9_orders (d - 1) (by omega) _ _ _ _ _ _ _ _ h15) (by omega) rfl rfl (Nat.le_of_ble_eq_true rfl) rfl ?_
  exact SB_X9_orders_174 hd hs_s_X9_orders hK61 hF
def B_X9_orders_156 (s_X9_orders : Int32 → Int32 → Int32 → Int32 → Int32 → Int32 → MM → Option MM) (K61 : Int32 → Int32 → Int32 → Int32 → Int32 → Int32 → Int32 → MM → Option MM) (v1 : Int32) (v2 : Int32) (v3 : Int32) (v4 : Int32) (v5 : Int32) (v6 : Int32) (v7 : Int32) (v8 : Int32) (t0 : Int32) (t1 : Int32) (t2 : Int32) (t3 : Int32) (t4 : Int32) (m : MM) : Option MM :=
  if v8 = 1 then
  B_X9_orders_171 s_X9_orders K61 v1 v2 v3 v4 v5 v6 v7 (v6 + 1) t0 t1 t2 t3 t4 m
  else
  B_X9_orders_171 s_X9_orders K61 v1 v2 v3 v4 v5 v6 v7 v6 t0 t1 t2 t3 t4 m
theorem SB_X9_orders_156 {g : GC} {nn d : Nat} {s_X9_orders : Int32 → Int32 → Int32 → Int32 → Int32 → Int32 → MM → Option MM} {K61 : Int32 → Int32 → Int32 → Int32 → Int32 → Int32 → Int32 → MM → Option MM} {v1 : Int32} {v2 : Int32} {v3 : Int32} {v4 : Int32} {v5 : Int32} {v6 : Int32} {v7 : Int32} {v8 : Int32} {t0 : Int32} {t1 : Int32} {t2 : Int32} {t3 : Int32} {t4 : Int32} {x : MX} {m : MM} {z : MM} (hd : nn + 108 ≤ d) (hs_s_X9_orders : ∀ (d : Nat), nn + 107 ≤ d → ∀ (a1 : Int32) (a2 : Int32) (a3 : Int32) (a4 : Int32) (a5 : Int32) (a6 : Int32) (m : MM) (z : MM), s_X9_orders a1 a2 a3 a4 a5 a6 m = some z → JC g m_X9_orders d 0 0 [.ref 80, .int a1, .int a2, .int a3, .int a4, .int a5, .int a6] (ST x m) (EQ (none) (ST x z))) (hK61 : ∀ (v1 : Int32) (v2 : Int32) (v3 : Int32) (v4 : Int32) (v5 : Int32) (v6 : Int32) (v7 : Int32) (m : MM) (z : MM), K61 v1 v2 v3 v4 v5 v6 v7 m = some z → J g m_X9_orders d 0 0 61 [(0, .ref 80), (1, .int v1), (2, .int v2), (3, .int v3), (4, .int v4), (5, .int v5), (6, .int v6), (7, .int v7)] [] (ST x m) 0 0 (EQ (none) (ST x z)))
  (hF : B_X9_orders_156 s_X9_orders K61 v1 v2 v3 v4 v5 v6 v7 v8 t0 t1 t2 t3 t4 m = some z) : J g m_X9_orders d 0 0 156 [(0, .ref 80), (1, .int v1), (2, .int v2), (3, .int v3), (4, .int v4), (5, .int v5), (6, .int v6), (7, .int v7), (8, .int v8)] [.int t0, .int t1, .int t2, .int t3, .int t4, .ref 80] (ST x m) 0 0 (EQ (none) (ST x z)) := by
  unfold B_X9_orders_156 at hF
  refine J_iload (j := 8) dX9_orders_156 rfl ?_
  refine J_iconst (v := 1) dX9_orders_158 (by decide) ?_
  refine J_icmp_ne (tgt := 169) dX9_orders_159 (by decide) (fun q13 => ?_) (fun q13 => ?_)
  · rw [if_neg q13] at hF
    refine J_iload (j := 6) dX9_orders_169 rfl ?_
    refine J_sub [0, 1, 2, 3, 4, 5, 6, 7] rfl ?_
    exact SB_X9_orders_171 hd hs_s_X9_orders hK61 hF
  · rw [if_pos q13] at hF
    refine J_iload (j := 6) dX9_orders_162 rfl ?_
    refine J_iconst (v := 1) dX9_orders_164 (by decide) ?_
    refine J_iadd dX9_orders_165 ?_
    refine J_goto (tgt := 171) dX9_orders_166 (by decide) ?_
    refine J_sub [0, 1, 2, 3, 4, 5, 6, 7] rfl ?_
    exact SB_X9_orders_171 hd hs_s_X9_orders hK61 hF
def B_X9_orders_121 (s_X9_orders : Int32 → Int32 → Int32 → Int32 → Int32 → Int32 → MM → Option MM) (K61 : Int32 → Int32 → Int32 → Int32 → Int32 → Int32 → Int32 → MM → Option MM) (v1 : Int32) (v2 : Int32) (v3 : Int32) (v4 : Int32) (v5 : Int32) (v6 : Int32) (v7 : Int32) (v8 : Int32) (t0 : Int32) (t1 : Int32) (t2 : Int32) (t3 : Int32) (m : MM) : Option MM :=
  ob2 (f_X9_takes t3 t2 t1 t0 m) (fun r9 m10 =>
  if v8 = 0 then
  B_X9_orders_156 s_X9_orders K61 v1 v2 v3 v4 v5 v6 v7 v8 (v5 + 1) (v4 + r9) (v3 ||| ((1 : Int32) <<< (v7 &&& 31))) v2 (v1 + 1) m10
  else
  B_X9_orders_156 s_X9_orders K61 v1 v2 v3 v4 v5 v6 v7 v8 v5 (v4 + r9) (v3 ||| ((1 : Int32) <<< (v7 &&& 31))) v2 (v1 + 1) m10)
theorem SB_X9_orders_121 {g : GC} {nn d : Nat} {s_X9_orders : Int32 → Int32 → Int32 → Int32 → Int32 → Int32 → MM → Option MM} {K61 : Int32 → Int32 → Int32 → Int32 → Int32 → Int32 → Int32 → MM → Option MM} {v1 : Int32} {v2 : Int32} {v3 : Int32} {v4 : Int32} {v5 : Int32} {v6 : Int32} {v7 : Int32} {v8 : Int32} {t0 : Int32} {t1 : Int32} {t2 : Int32} {t3 : Int32} {x : MX} {m : MM} {z : MM} (hd : nn + 108 ≤ d) (hs_s_X9_orders : ∀ (d : Nat), nn + 107 ≤ d → ∀ (a1 : Int32) (a2 : Int32) (a3 : Int32) (a4 : Int32) (a5 : Int32) (a6 : Int32) (m : MM) (z : MM), s_X9_orders a1 a2 a3 a4 a5 a6 m = some z → JC g m_X9_orders d 0 0 [.ref 80, .int a1, .int a2, .int a3, .int a4, .int a5, .int a6] (ST x m) (EQ (none) (ST x z))) (hK61 : ∀ (v1 : Int32) (v2 : Int32) (v3 : Int32) (v4 : Int32) (v5 : Int32) (v6 : Int32) (v7 : Int32) (m : MM) (z : MM), K61 v1 v2 v3 v4 v5 v6 v7 m = some z → J g m_X9_orders d 0 0 61 [(0, .ref 80), (1, .int v1), (2, .int v2), (3, .int v3), (4, .int v4), (5, .int v5), (6, .int v6), (7, .int v7)] [] (ST x m) 0 0 (EQ (none) (ST x z)))
  (hF : B_X9_orders_121 s_X9_orders K61 v1 v2 v3 v4 v5 v6 v7 v8 t0 t1 t2 t3 m = some z) : J g m_X9_orders d 0 0 121 [(0, .ref 80), (1, .int v1), (2, .int v2), (3, .int v3), (4, .int v4), (5, .int v5), (6, .int v6), (7, .int v7), (8, .int v8)] [.int t0, .int t1, .int t2, .int t3, .ref 80] (ST x m) 0 0 (EQ (none) (ST x z)) := by
  unfold B_X9_orders_121 at hF
  obtain ⟨r9, m10, h11, hF⟩ := ob2_some hF
  refine JM_callVi (As := [.int t3, .int t2, .int t1, .int t0]) (S := []) lkV_WithOneHandModel_257_X9_takes rfl (by decide) dX9_orders_121 c_80 (S_X9_takes (by omega) h11) (by omega) rfl rfl (Nat.le_of_ble_eq_true rfl) rfl ?_
  refine J_istore (L' := [(9, .int r9), (0, .ref 80), (1, .int v1), (2, .int v2), (3, .int v3), (4, .int v4), (5, .int v5), (6, .int v6), (7, .int v7), (8, .int v8)]) dX9_orders_124 (by decide) rfl ?_
  refine J_aload_n (j := 1) dX9_orders_126 rfl rfl ?_
  refine J_iload_n (j := 2) dX9_orders_127 rfl rfl ?_
  refine J_iconst (v := 1) dX9_orders_128 (by decide) ?_
  refine J_iadd dX9_orders_129 ?_
  refine J_iload_n (j := 3) dX9_orders_130 rfl rfl ?_
  refine J_iload_n (j := 4) dX9_orders_131 rfl rfl ?_
  refine J_iconst (v := 1) dX9_orders_132 (by decide) ?_
  refine J_iload (j := 8) dX9_orders_133 rfl ?_
  refine J_ishl dX9_orders_135 ?_
  refine J_ior dX9_orders_136 ?_
  refine J_iload (j := 5) dX9_orders_137 rfl ?_
  refine J_iload (j := 0) dX9_orders_139 rfl ?_
  refine J_iadd dX9_orders_141 ?_
  refine J_iload (j := 9) dX9_orders_142 rfl ?_
  refine J_if_ne (tgt := 154) dX9_orders_144 (by decide) (fun q12 => ?_) (fun q12 => ?_)
  · rw [if_neg q12] at hF
    refine J_iload (j := 6) dX9_orders_154 rfl ?_
    refine J_sub [1, 2, 3, 4, 5, 6, 7, 8, 9] rfl ?_
    exact SB_X9_orders_156 hd hs_s_X9_orders hK61 hF
  · rw [if_pos q12] at hF
    refine J_iload (j := 6) dX9_orders_147 rfl ?_
    refine J_iconst (v := 1) dX9_orders_149 (by decide) ?_
    refine J_iadd dX9_orders_150 ?_
    refine J_goto (tgt := 156) dX9_orders_151 (by decide) ?_
    refine J_sub [1, 2, 3, 4, 5, 6, 7, 8, 9] rfl ?_
    exact SB_X9_orders_156 hd hs_s_X9_orders hK61 hF
def B_X9_orders_61 (s_X9_orders : Int32 → Int32 → Int32 → Int32 → Int32 → Int32 → MM → Option MM) (K61 : Int32 → Int32 → Int32 → Int32 → Int32 → Int32 → Int32 → MM → Option MM) (v1 : Int32) (v2 : Int32) (v3 : Int32) (v4 : Int32) (v5 : Int32) (v6 : Int32) (v7 : Int32) (m : MM) : Option MM :=
  if v2 ≤ v7 then
  some m
  else
  if (f_X9_has v3 v7) = true then
  B_X9_orders_174 s_X9_orders K61 v1 v2 v3 v4 v5 v6 v7 m
  else
  if inb v1 6 = true then
  letx (ms m 100 (ix v1) v7) (fun m5 =>
  if inb v7 6 = true then
  if inb (mi m5 85 (ix v7)) 2 = true then
  if (mi m5 85 (ix v7)) = 0 then
  B_X9_orders_121 s_X9_orders K61 v1 v2 v3 v4 v5 v6 v7 (mi m5 85 (ix v7)) v5 (mi m5 88 (ix (mi m5 85 (ix v7)))) v7 v7 m5
  else
  B_X9_orders_121 s_X9_orders K61 v1 v2 v3 v4 v5 v6 v7 (mi m5 85 (ix v7)) v6 (mi m5 88 (ix (mi m5 85 (ix v7)))) v7 v7 m5
  else none
  else none)
  else none
theorem SB_X9_orders_61 {g : GC} {nn d : Nat} {s_X9_orders : Int32 → Int32 → Int32 → Int32 → Int32 → Int32 → MM → Option MM} {K61 : Int32 → Int32 → Int32 → Int32 → Int32 → Int32 → Int32 → MM → Option MM} {v1 : Int32} {v2 : Int32} {v3 : Int32} {v4 : Int32} {v5 : Int32} {v6 : Int32} {v7 : Int32} {x : MX} {m : MM} {z : MM} (hd : nn + 108 ≤ d) (hs_s_X9_orders : ∀ (d : Nat), nn + 107 ≤ d → ∀ (a1 : Int32) (a2 : Int32) (a3 : Int32) (a4 : Int32) (a5 : Int32) (a6 : Int32) (m : MM) (z : MM), s_X9_orders a1 a2 a3 a4 a5 a6 m = some z → JC g m_X9_orders d 0 0 [.ref 80, .int a1, .int a2, .int a3, .int a4, .int a5, .int a6] (ST x m) (EQ (none) (ST x z))) (hK61 : ∀ (v1 : Int32) (v2 : Int32) (v3 : Int32) (v4 : Int32) (v5 : Int32) (v6 : Int32) (v7 : Int32) (m : MM) (z : MM), K61 v1 v2 v3 v4 v5 v6 v7 m = some z → J g m_X9_orders d 0 0 61 [(0, .ref 80), (1, .int v1), (2, .int v2), (3, .int v3), (4, .int v4), (5, .int v5), (6, .int v6), (7, .int v7)] [] (ST x m) 0 0 (EQ (none) (ST x z)))
  (hF : B_X9_orders_61 s_X9_orders K61 v1 v2 v3 v4 v5 v6 v7 m = some z) : J g m_X9_orders d 0 0 61 [(0, .ref 80), (1, .int v1), (2, .int v2), (3, .int v3), (4, .int v4), (5, .int v5), (6, .int v6), (7, .int v7)] [] (ST x m) 0 0 (EQ (none) (ST x z)) := by
  unfold B_X9_orders_61 at hF
  refine J_iload (j := 7) dX9_orders_61 rfl ?_
  refine J_iload_n (j := 2) dX9_orders_63 rfl rfl ?_
  refine J_icmp_ge (tgt := 180) dX9_orders_64 (by decide) (fun q2 => ?_) (fun q2 => ?_)
  · rw [if_pos q2] at hF
    have e_r := Option.some.inj hF
    subst e_r
    exact J_return rfl dX9_orders_180 ⟨rfl, rfl⟩
  · rw [if_neg q2] at hF
    refine J_aload_n (j := 0) dX9_orders_67 rfl rfl ?_
    refine J_iload_n (j := 3) dX9_orders_68 rfl rfl ?_
    refine J_iload (j := 7) dX9_orders_69 rfl ?_
    refine JM_callVi (As := [.int v3, .int v7]) (S := []) lkV_WithOneHandModel_276_X9_has rfl (by decide) dX9_orders_71 c_80 (S_X9_has (by omega) rfl) (by omega) rfl rfl (Nat.le_of_ble_eq_true rfl) rfl ?_
    refine J_ifb_eq (tgt := 80) dX9_orders_74 (by decide) (fun q3 => ?_) (fun q3 => ?_)
    · rw [if_neg q3] at hF
      refine J_aload_n (j := 0) dX9_orders_80 rfl rfl ?_
      refine JM_getR (r := 100) fl_WithOneHandModel_71_8 dX9_orders_81 c_80 rfl rfl ?_
      refine J_iload_n (j := 1) dX9_orders_84 rfl rfl ?_
      refine J_iload (j := 7) dX9_orders_85 rfl ?_
      obtain ⟨b4, hF⟩ := chk hF
      obtain ⟨m5, e_m5, hF⟩ := letx_eq hF
      refine JM_iast (j := ix v1) dX9_orders_87 c_100 (inb_vp b4) rfl ?_
      rw [← e_m5]
      refine J_aload_n (j := 0) dX9_orders_88 rfl rfl ?_
      refine JM_getR (r := 85) fl_WithOneHandModel_26_8 dX9_orders_89 c_80 rfl rfl ?_
      refine J_iload (j := 7) dX9_orders_92 rfl ?_
      obtain ⟨b6, hF⟩ := chk hF
      refine JM_iald (j := ix v7) dX9_orders_94 c_85 (inb_vp b6) rfl ?_
      refine J_istore (L' := [(8, .int (mi m5 85 (ix v7))), (0, .ref 80), (1, .int v1), (2, .int v2), (3, .int v3), (4, .int v4), (5, .int v5), (6, .int v6), (7, .int v7)]) dX9_orders_95 (by decide) rfl ?_
      refine J_aload_n (j := 1) dX9_orders_97 rfl rfl ?_
      refine J_iload (j := 8) dX9_orders_98 rfl ?_
      refine J_iload (j := 8) dX9_orders_100 rfl ?_
      refine J_aload_n (j := 1) dX9_orders_102 rfl rfl ?_
      refine JM_getR (r := 88) fl_WithOneHandModel_35_8 dX9_orders_103 c_80 rfl rfl ?_
      refine J_iload (j := 0) dX9_orders_106 rfl ?_
      obtain ⟨b7, hF⟩ := chk hF
      refine JM_iald (j := ix (mi m5 85 (ix v7))) dX9_orders_108 c_88 (inb_vp b7) rfl ?_
      refine J_iload (j := 0) dX9_orders_109 rfl ?_
      refine J_if_ne (tgt := 119) dX9_orders_111 (by decide) (fun q8 => ?_) (fun q8 => ?_)
      · rw [if_neg q8] at hF
        refine J_iload (j := 7) dX9_orders_119 rfl ?_
        refine J_sub [1, 2, 3, 4, 5, 6, 7, 8, 0] rfl ?_
        exact SB_X9_orders_121 hd hs_s_X9_orders hK61 hF
      · rw [if_pos q8] at hF
        refine J_iload (j := 6) dX9_orders_114 rfl ?_
        refine J_goto (tgt := 121) dX9_orders_116 (by decide) ?_
        refine J_sub [1, 2, 3, 4, 5, 6, 7, 8, 0] rfl ?_
        exact SB_X9_orders_121 hd hs_s_X9_orders hK61 hF
    · rw [if_pos q3] at hF
      refine J_goto (tgt := 174) dX9_orders_77 (by decide) ?_
      exact SB_X9_orders_174 hd hs_s_X9_orders hK61 hF
def f_X9_orders_61 (s_X9_orders : Int32 → Int32 → Int32 → Int32 → Int32 → Int32 → MM → Option MM) : Nat → Int32 → Int32 → Int32 → Int32 → Int32 → Int32 → Int32 → MM → Option MM
  | 0 => fun _ _ _ _ _ _ _ _ => none
  | n + 1 => fun v1 v2 v3 v4 v5 v6 v7 m => B_X9_orders_61 s_X9_orders (f_X9_orders_61 s_X9_orders n) v1 v2 v3 v4 v5 v6 v7 m
theorem Sf_X9_orders_61 {g : GC} {nn d : Nat} {x : MX} {s_X9_orders : Int32 → Int32 → Int32 → Int32 → Int32 → Int32 → MM → Option MM} (hd : nn + 108 ≤ d) (hs_s_X9_orders : ∀ (d : Nat), nn + 107 ≤ d → ∀ (a1 : Int32) (a2 : Int32) (a3 : Int32) (a4 : Int32) (a5 : Int32) (a6 : Int32) (m : MM) (z : MM), s_X9_orders a1 a2 a3 a4 a5 a6 m = some z → JC g m_X9_orders d 0 0 [.ref 80, .int a1, .int a2, .int a3, .int a4, .int a5, .int a6] (ST x m) (EQ (none) (ST x z))) : ∀ (n : Nat) (v1 : Int32) (v2 : Int32) (v3 : Int32) (v4 : Int32) (v5 : Int32) (v6 : Int32) (v7 : Int32) (m : MM) (z : MM), f_X9_orders_61 s_X9_orders n v1 v2 v3 v4 v5 v6 v7 m = some z → J g m_X9_orders d 0 0 61 [(0, .ref 80), (1, .int v1), (2, .int v2), (3, .int v3), (4, .int v4), (5, .int v5), (6, .int v6), (7, .int v7)] [] (ST x m) 0 0 (EQ (none) (ST x z)) := by
  intro n
  induction n with
  | zero => intro v1 v2 v3 v4 v5 v6 v7 m z  hF; exact absurd hF (fun q => by cases q)
  | succ n ih =>
    intro v1 v2 v3 v4 v5 v6 v7 m z  hF
    exact SB_X9_orders_61 hd hs_s_X9_orders (fun v1 v2 v3 v4 v5 v6 v7 m z  hF => ih v1 v2 v3 v4 v5 v6 v7 m z  hF) hF
def B_X9_orders_31 (s_X9_orders : Int32 → Int32 → Int32 → Int32 → Int32 → Int32 → MM → Option MM) (K31 : Int32 → Int32 → MM → Option MM) (v2 : Int32) (v7 : Int32) (m : MM) : Option MM :=
  if v2 ≤ v7 then
  some m
  else
  if inb v7 6 = true then
  letx (ms m 101 (ix v7) (mi m 100 (ix v7))) (fun m20 =>
  K31 v2 (v7 + 1) m20)
  else none
theorem SB_X9_orders_31 {g : GC} {nn d : Nat} {s_X9_orders : Int32 → Int32 → Int32 → Int32 → Int32 → Int32 → MM → Option MM} {K31 : Int32 → Int32 → MM → Option MM} {v2 : Int32} {v7 : Int32} {x : MX} {m : MM} {z : MM} (hd : nn + 108 ≤ d) (hs_s_X9_orders : ∀ (d : Nat), nn + 107 ≤ d → ∀ (a1 : Int32) (a2 : Int32) (a3 : Int32) (a4 : Int32) (a5 : Int32) (a6 : Int32) (m : MM) (z : MM), s_X9_orders a1 a2 a3 a4 a5 a6 m = some z → JC g m_X9_orders d 0 0 [.ref 80, .int a1, .int a2, .int a3, .int a4, .int a5, .int a6] (ST x m) (EQ (none) (ST x z))) (hK31 : ∀ (v2 : Int32) (v7 : Int32) (m : MM) (z : MM), K31 v2 v7 m = some z → J g m_X9_orders d 0 0 31 [(0, .ref 80), (2, .int v2), (7, .int v7)] [] (ST x m) 0 0 (EQ (none) (ST x z)))
  (hF : B_X9_orders_31 s_X9_orders K31 v2 v7 m = some z) : J g m_X9_orders d 0 0 31 [(0, .ref 80), (2, .int v2), (7, .int v7)] [] (ST x m) 0 0 (EQ (none) (ST x z)) := by
  unfold B_X9_orders_31 at hF
  refine J_iload (j := 2) dX9_orders_31 rfl ?_
  refine J_iload_n (j := 1) dX9_orders_33 rfl rfl ?_
  refine J_icmp_ge (tgt := 57) dX9_orders_34 (by decide) (fun q18 => ?_) (fun q18 => ?_)
  · rw [if_pos q18] at hF
    have e_r := Option.some.inj hF
    subst e_r
    exact J_return rfl dX9_orders_57 ⟨rfl, rfl⟩
  · rw [if_neg q18] at hF
    refine J_aload_n (j := 0) dX9_orders_37 rfl rfl ?_
    refine JM_getR (r := 101) fl_WithOneHandModel_74_8 dX9_orders_38 c_80 rfl rfl ?_
    refine J_iload (j := 2) dX9_orders_41 rfl ?_
    refine J_aload_n (j := 0) dX9_orders_43 rfl rfl ?_
    refine JM_getR (r := 100) fl_WithOneHandModel_71_8 dX9_orders_44 c_80 rfl rfl ?_
    refine J_iload (j := 2) dX9_orders_47 rfl ?_
    obtain ⟨b19, hF⟩ := chk hF
    refine JM_iald (j := ix v7) dX9_orders_49 c_100 (inb_vp b19) rfl ?_
    obtain ⟨m20, e_m20, hF⟩ := letx_eq hF
    refine JM_iast (j := ix v7) dX9_orders_50 c_101 (inb_vp b19) rfl ?_
    rw [← e_m20]
    refine J_iinc (j := 2) (v := v7 + 1) (L' := [(7, .int (v7 + 1)), (0, .ref 80), (2, .int v2)]) dX9_orders_51 rfl rfl (by decide) rfl ?_
    refine J_goto (tgt := 31) dX9_orders_54 (by decide) ?_
    refine J_sub [1, 2, 0] rfl ?_
    exact hK31 _ _ _ _  hF
def f_X9_orders_31 (s_X9_orders : Int32 → Int32 → Int32 → Int32 → Int32 → Int32 → MM → Option MM) : Nat → Int32 → Int32 → MM → Option MM
  | 0 => fun _ _ _ => none
  | n + 1 => fun v2 v7 m => B_X9_orders_31 s_X9_orders (f_X9_orders_31 s_X9_orders n) v2 v7 m
theorem Sf_X9_orders_31 {g : GC} {nn d : Nat} {x : MX} {s_X9_orders : Int32 → Int32 → Int32 → Int32 → Int32 → Int32 → MM → Option MM} (hd : nn + 108 ≤ d) (hs_s_X9_orders : ∀ (d : Nat), nn + 107 ≤ d → ∀ (a1 : Int32) (a2 : Int32) (a3 : Int32) (a4 : Int32) (a5 : Int32) (a6 : Int32) (m : MM) (z : MM), s_X9_orders a1 a2 a3 a4 a5 a6 m = some z → JC g m_X9_orders d 0 0 [.ref 80, .int a1, .int a2, .int a3, .int a4, .int a5, .int a6] (ST x m) (EQ (none) (ST x z))) : ∀ (n : Nat) (v2 : Int32) (v7 : Int32) (m : MM) (z : MM), f_X9_orders_31 s_X9_orders n v2 v7 m = some z → J g m_X9_orders d 0 0 31 [(0, .ref 80), (2, .int v2), (7, .int v7)] [] (ST x m) 0 0 (EQ (none) (ST x z)) := by
  intro n
  induction n with
  | zero => intro v2 v7 m z  hF; exact absurd hF (fun q => by cases q)
  | succ n ih =>
    intro v2 v7 m z  hF
    exact SB_X9_orders_31 hd hs_s_X9_orders (fun v2 v7 m z  hF => ih v2 v7 m z  hF) hF
def B_X9_orders_22 (s_X9_orders : Int32 → Int32 → Int32 → Int32 → Int32 → Int32 → MM → Option MM) (v2 : Int32) (v4 : Int32) (m : MM) : Option MM :=
  letx (ms m 80 36 v4) (fun m17 =>
  f_X9_orders_31 s_X9_orders LF v2 0 m17)
theorem SB_X9_orders_22 {g : GC} {nn d : Nat} {s_X9_orders : Int32 → Int32 → Int32 → Int32 → Int32 → Int32 → MM → Option MM} {v2 : Int32} {v4 : Int32} {x : MX} {m : MM} {z : MM} (hd : nn + 108 ≤ d) (hs_s_X9_orders : ∀ (d : Nat), nn + 107 ≤ d → ∀ (a1 : Int32) (a2 : Int32) (a3 : Int32) (a4 : Int32) (a5 : Int32) (a6 : Int32) (m : MM) (z : MM), s_X9_orders a1 a2 a3 a4 a5 a6 m = some z → JC g m_X9_orders d 0 0 [.ref 80, .int a1, .int a2, .int a3, .int a4, .int a5, .int a6] (ST x m) (EQ (none) (ST x z)))
  (hF : B_X9_orders_22 s_X9_orders v2 v4 m = some z) : J g m_X9_orders d 0 0 22 [(0, .ref 80), (2, .int v2), (4, .int v4)] [] (ST x m) 0 0 (EQ (none) (ST x z)) := by
  unfold B_X9_orders_22 at hF
  refine J_aload_n (j := 0) dX9_orders_22 rfl rfl ?_
  refine J_iload (j := 2) dX9_orders_23 rfl ?_
  obtain ⟨m17, e_m17, hF⟩ := letx_eq hF
  refine JM_putI fl_WithOneHandModel_273_8 dX9_orders_25 c_80 rfl rfl rfl ?_
  rw [← e_m17]
  refine J_iconst (v := 0) dX9_orders_28 (by decide) ?_
  refine J_istore (L' := [(7, .int 0), (0, .ref 80), (2, .int v2), (4, .int v4)]) dX9_orders_29 (by decide) rfl ?_
  refine J_sub [1, 2, 0] rfl ?_
  exact Sf_X9_orders_31 hd hs_s_X9_orders _ _ _ _ _ hF
def R_X9_orders (s_X9_orders : Int32 → Int32 → Int32 → Int32 → Int32 → Int32 → MM → Option MM) (a1 : Int32) (a2 : Int32) (a3 : Int32) (a4 : Int32) (a5 : Int32) (a6 : Int32) (m : MM) : Option MM :=
  if a1 = a2 then
  if (mi m 80 36) < 0 then
  B_X9_orders_22 s_X9_orders a2 a4 m
  else
  if a4 < (mi m 80 36) then
  B_X9_orders_22 s_X9_orders a2 a4 m
  else
  some m
  else
  f_X9_orders_61 s_X9_orders LF a1 a2 a3 a4 a5 a6 0 m
theorem SR_X9_orders {g : GC} {nn d : Nat} {s_X9_orders : Int32 → Int32 → Int32 → Int32 → Int32 → Int32 → MM → Option MM} {a1 : Int32} {a2 : Int32} {a3 : Int32} {a4 : Int32} {a5 : Int32} {a6 : Int32} {x : MX} {m : MM} {z : MM} (hd : nn + 108 ≤ d) (hs_s_X9_orders : ∀ (d : Nat), nn + 107 ≤ d → ∀ (a1 : Int32) (a2 : Int32) (a3 : Int32) (a4 : Int32) (a5 : Int32) (a6 : Int32) (m : MM) (z : MM), s_X9_orders a1 a2 a3 a4 a5 a6 m = some z → JC g m_X9_orders d 0 0 [.ref 80, .int a1, .int a2, .int a3, .int a4, .int a5, .int a6] (ST x m) (EQ (none) (ST x z))) 
  (hF : R_X9_orders s_X9_orders a1 a2 a3 a4 a5 a6 m = some z) : JC g m_X9_orders d 0 0 [.ref 80, .int a1, .int a2, .int a3, .int a4, .int a5, .int a6] (ST x m) (EQ (none) (ST x z)) := by
  refine JC.of (by decide +kernel) (Nat.le_of_ble_eq_true rfl) ?_
  change J g m_X9_orders d 0 0 0 [(0, .ref 80), (1, .int a1), (2, .int a2), (3, .int a3), (4, .int a4), (5, .int a5), (6, .int a6)] [] (ST x m) 0 0 (EQ (none) (ST x z))
  unfold R_X9_orders at hF
  refine J_iload_n (j := 1) dX9_orders_0 rfl rfl ?_
  refine J_iload_n (j := 2) dX9_orders_1 rfl rfl ?_
  refine J_icmp_ne (tgt := 58) dX9_orders_2 (by decide) (fun q1 => ?_) (fun q1 => ?_)
  · rw [if_neg q1] at hF
    refine J_iconst (v := 0) dX9_orders_58 (by decide) ?_
    refine J_istore (L' := [(7, .int 0), (0, .ref 80), (1, .int a1), (2, .int a2), (3, .int a3), (4, .int a4), (5, .int a5), (6, .int a6)]) dX9_orders_59 (by decide) rfl ?_
    refine J_sub [1, 2, 3, 4, 5, 6, 7, 0] rfl ?_
    exact Sf_X9_orders_61 hd hs_s_X9_orders _ _ _ _ _ _ _ _ _ _ hF
  · rw [if_pos q1] at hF
    refine J_aload_n (j := 0) dX9_orders_5 rfl rfl ?_
    refine JM_getI fl_WithOneHandModel_273_8 dX9_orders_6 c_80 rfl ?_
    refine J_if_lt (tgt := 22) dX9_orders_9 (by decide) (fun q16 => ?_) (fun q16 => ?_)
    · rw [if_pos q16] at hF
      refine J_sub [0, 2, 4] rfl ?_
      exact SB_X9_orders_22 hd hs_s_X9_orders hF
    · rw [if_neg q16] at hF
      refine J_iload (j := 4) dX9_orders_12 rfl ?_
      refine J_aload_n (j := 0) dX9_orders_14 rfl rfl ?_
      refine JM_getI fl_WithOneHandModel_273_8 dX9_orders_15 c_80 rfl ?_
      refine J_icmp_lt (tgt := 22) dX9_orders_18 (by decide) (fun q21 => ?_) (fun q21 => ?_)
      · rw [if_pos q21] at hF
        refine J_sub [0, 2, 4] rfl ?_
        exact SB_X9_orders_22 hd hs_s_X9_orders hF
      · rw [if_neg q21] at hF
        have e_r := Option.some.inj hF
        subst e_r
        exact J_return rfl dX9_orders_21 ⟨rfl, rfl⟩
def G_X9_orders : Nat → (Int32 → Int32 → Int32 → Int32 → Int32 → Int32 → MM → Option MM)
  | 0 => fun _ _ _ _ _ _ _ => none
  | n + 1 => R_X9_orders (G_X9_orders n)
theorem SG_X9_orders {g : GC} {x : MX} : ∀ n : Nat, (∀ (d : Nat), n + 107 ≤ d → ∀ (a1 : Int32) (a2 : Int32) (a3 : Int32) (a4 : Int32) (a5 : Int32) (a6 : Int32) (m : MM) (z : MM), G_X9_orders n a1 a2 a3 a4 a5 a6 m = some z → JC g m_X9_orders d 0 0 [.ref 80, .int a1, .int a2, .int a3, .int a4, .int a5, .int a6] (ST x m) (EQ (none) (ST x z))) := by
  intro n
  induction n with
  | zero =>
    exact fun d hd _ _ _ _ _ _ _ _ hF => absurd hF (fun q => by cases q)
  | succ n ih =>
    exact fun d hd _ _ _ _ _ _ _ _  hF => SR_X9_orders (nn := n) (by omega) ih  hF
def f_X9_orders (a1 : Int32) (a2 : Int32) (a3 : Int32) (a4 : Int32) (a5 : Int32) (a6 : Int32) (m : MM) : Option MM := G_X9_orders RF a1 a2 a3 a4 a5 a6 m
theorem S_X9_orders {g : GC} {d : Nat} {a1 : Int32} {a2 : Int32} {a3 : Int32} {a4 : Int32} {a5 : Int32} {a6 : Int32} {x : MX} {m : MM} {z : MM} (hd : 207 ≤ d) 
  (hF : f_X9_orders a1 a2 a3 a4 a5 a6 m = some z) : JC g m_X9_orders d 0 0 [.ref 80, .int a1, .int a2, .int a3, .int a4, .int a5, .int a6] (ST x m) (EQ (none) (ST x z)) := (SG_X9_orders RF) d (by unfold RF; omega) _ _ _ _ _ _ _ _  hF
