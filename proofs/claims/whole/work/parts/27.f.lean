def B_X5_workOut_32_73 (K39 : Int32 → MX → Option MX) (v3 : Int32) (t0 : Int32) (t1 : Int32) (x : MX) : Option MX :=
  if inb t1 64 = true then
  letx (xs x 40 (ix t1) t0) (fun x11 =>
  K39 (v3 + (-1)) x11)
  else none
theorem SB_X5_workOut_32_73 {g : GC} {d : Nat} {K39 : Int32 → MX → Option MX} {v3 : Int32} {t0 : Int32} {t1 : Int32} {x : MX} {m : MM} {z : MX} (hd : 5 ≤ d) (hK39 : ∀ (v3 : Int32) (x : MX) (z : MX), K39 v3 x = some z → J g m_X5_workOut d 0 0 39 [(0, .ref 32), (3, .int v3)] [] (ST x m) 0 0 (EQ (none) (ST z m)))
  (hF : B_X5_workOut_32_73 K39 v3 t0 t1 x = some z) : J g m_X5_workOut d 0 0 73 [(0, .ref 32), (3, .int v3)] [.int t0, .int t1, .ref 40] (ST x m) 0 0 (EQ (none) (ST z m)) := by
  unfold B_X5_workOut_32_73 at hF
  obtain ⟨b10, hF⟩ := chk hF
  obtain ⟨x11, e_x11, hF⟩ := letx_eq hF
  refine JX_iast (j := ix t1) dX5_workOut_73 c_40 (inb_vp b10) rfl ?_
  rw [← e_x11]
  refine J_iinc (j := 1) (v := v3 + (-1)) (L' := [(3, .int (v3 + (-1))), (0, .ref 32)]) dX5_workOut_74 rfl rfl (by decide) rfl ?_
  refine J_goto (tgt := 39) dX5_workOut_77 (by decide) ?_
  refine J_sub [1, 0] rfl ?_
  exact hK39 _ _ _  hF
def B_X5_workOut_32_39 (K39 : Int32 → MX → Option MX) (v3 : Int32) (x : MX) : Option MX :=
  if v3 < 0 then
  some x
  else
  if (f_J6_bitCount_0f7a4 v3) < (xi x 32 3) then
  ob (f_X5_firstBest_32 v3 x) (fun r6 =>
  ob (f_X5_sumWith_32 v3 r6 x) (fun r8 =>
  B_X5_workOut_32_73 K39 v3 r8 v3 x))
  else
  B_X5_workOut_32_73 K39 v3 0 v3 x
theorem SB_X5_workOut_32_39 {g : GC} {d : Nat} {K39 : Int32 → MX → Option MX} {v3 : Int32} {x : MX} {m : MM} {z : MX} (hd : 5 ≤ d) (hK39 : ∀ (v3 : Int32) (x : MX) (z : MX), K39 v3 x = some z → J g m_X5_workOut d 0 0 39 [(0, .ref 32), (3, .int v3)] [] (ST x m) 0 0 (EQ (none) (ST z m)))
  (hF : B_X5_workOut_32_39 K39 v3 x = some z) : J g m_X5_workOut d 0 0 39 [(0, .ref 32), (3, .int v3)] [] (ST x m) 0 0 (EQ (none) (ST z m)) := by
  unfold B_X5_workOut_32_39 at hF
  refine J_iload_n (j := 1) dX5_workOut_39 rfl rfl ?_
  refine J_if_lt (tgt := 80) dX5_workOut_40 (by decide) (fun q4 => ?_) (fun q4 => ?_)
  · rw [if_pos q4] at hF
    have e_r := Option.some.inj hF
    subst e_r
    exact J_return rfl dX5_workOut_80 ⟨rfl, rfl⟩
  · rw [if_neg q4] at hF
    refine J_aload_n (j := 0) dX5_workOut_43 rfl rfl ?_
    refine JX_getR (r := 40) fl_Plan_14_4 dX5_workOut_44 c_32 rfl rfl ?_
    refine J_iload_n (j := 1) dX5_workOut_47 rfl rfl ?_
    refine J_iload_n (j := 1) dX5_workOut_48 rfl rfl ?_
    refine J_callSi (As := [.int v3]) (S := [.int v3, .ref 40]) lkS_Plan_34_J6_bitCount_0f7a4 dX5_workOut_49 (S_J6_bitCount_0f7a4 (by omega) rfl) (by omega) rfl rfl (Nat.le_of_ble_eq_true rfl) rfl ?_
    refine J_aload_n (j := 0) dX5_workOut_52 rfl rfl ?_
    refine JX_getI fl_Plan_31_4 dX5_workOut_53 c_32 rfl ?_
    refine J_icmp_lt (tgt := 63) dX5_workOut_56 (by decide) (fun q5 => ?_) (fun q5 => ?_)
    · rw [if_pos q5] at hF
      refine J_aload_n (j := 0) dX5_workOut_63 rfl rfl ?_
      refine J_iload_n (j := 1) dX5_workOut_64 rfl rfl ?_
      refine J_aload_n (j := 0) dX5_workOut_65 rfl rfl ?_
      refine J_iload_n (j := 1) dX5_workOut_66 rfl rfl ?_
      obtain ⟨r6, h7, hF⟩ := ob_some hF
      refine JX_callUi (As := [.int v3]) (S := [.int v3, .ref 32, .int v3, .ref 40]) lkU_Plan_40_X5_firstBest_4 rfl (by decide) dX5_workOut_67 c_32 (S_X5_firstBest_32 (by omega) h7) (by omega) rfl rfl (Nat.le_of_ble_eq_true rfl) rfl ?_
      obtain ⟨r8, h9, hF⟩ := ob_some hF
      refine JX_callUi (As := [.int v3, .int r6]) (S := [.int v3, .ref 40]) lkU_Plan_43_X5_sumWith_4 rfl (by decide) dX5_workOut_70 c_32 (S_X5_sumWith_32 (by omega) h9) (by omega) rfl rfl (Nat.le_of_ble_eq_true rfl) rfl ?_
      exact SB_X5_workOut_32_73 hd hK39 hF
    · rw [if_neg q5] at hF
      refine J_iconst (v := 0) dX5_workOut_59 (by decide) ?_
      refine J_goto (tgt := 73) dX5_workOut_60 (by decide) ?_
      exact SB_X5_workOut_32_73 hd hK39 hF
def f_X5_workOut_32_39  : Nat → Int32 → MX → Option MX
  | 0 => fun _ _ => none
  | n + 1 => fun v3 x => B_X5_workOut_32_39 (f_X5_workOut_32_39  n) v3 x
theorem Sf_X5_workOut_32_39 {g : GC} {d : Nat} {m : MM} (hd : 5 ≤ d)  : ∀ (n : Nat) (v3 : Int32) (x : MX) (z : MX), f_X5_workOut_32_39  n v3 x = some z → J g m_X5_workOut d 0 0 39 [(0, .ref 32), (3, .int v3)] [] (ST x m) 0 0 (EQ (none) (ST z m)) := by
  intro n
  induction n with
  | zero => intro v3 x z  hF; exact absurd hF (fun q => by cases q)
  | succ n ih =>
    intro v3 x z  hF
    exact SB_X5_workOut_32_39 hd (fun v3 x z  hF => ih v3 x z  hF) hF
def f_X5_workOut_32 (a1 : Int32) (a2 : Int32) (x : MX) : Option MX :=
  letx (xs x 32 2 (imax 0 (imin 6 a1))) (fun x1 =>
  letx (xs x1 32 3 (imax 0 (imin (xi x1 32 2) a2))) (fun x2 =>
  letx (((1 : Int32) <<< ((xi x2 32 2) &&& 31)) - 1) (fun y3 =>
  f_X5_workOut_32_39 LF y3 x2)))
theorem S_X5_workOut_32 {g : GC} {d : Nat} {a1 : Int32} {a2 : Int32} {x : MX} {m : MM} {z : MX} (hd : 5 ≤ d) 
  (hF : f_X5_workOut_32 a1 a2 x = some z) : JC g m_X5_workOut d 0 0 [.ref 32, .int a1, .int a2] (ST x m) (EQ (none) (ST z m)) := by
  refine JC.of (by decide +kernel) (Nat.le_of_ble_eq_true rfl) ?_
  change J g m_X5_workOut d 0 0 0 [(0, .ref 32), (1, .int a1), (2, .int a2)] [] (ST x m) 0 0 (EQ (none) (ST z m))
  unfold f_X5_workOut_32 at hF
  refine J_aload_n (j := 0) dX5_workOut_0 rfl rfl ?_
  refine J_iconst (v := 0) dX5_workOut_1 (by decide) ?_
  refine J_bipush (v := 6) dX5_workOut_2 (by decide) ?_
  refine J_iload_n (j := 1) dX5_workOut_4 rfl rfl ?_
  refine J_mmin (S := [.int 0, .ref 32]) (tb 560 (by decide +kernel)) dX5_workOut_5 (Nat.le_of_ble_eq_true rfl) ?_
  refine J_mmax (S := [.ref 32]) (tb 561 (by decide +kernel)) dX5_workOut_8 (Nat.le_of_ble_eq_true rfl) ?_
  obtain ⟨x1, e_x1, hF⟩ := letx_eq hF
  refine JX_putI fl_Plan_27_4 dX5_workOut_11 c_32 rfl rfl rfl ?_
  rw [← e_x1]
  refine J_aload_n (j := 0) dX5_workOut_14 rfl rfl ?_
  refine J_iconst (v := 0) dX5_workOut_15 (by decide) ?_
  refine J_aload_n (j := 0) dX5_workOut_16 rfl rfl ?_
  refine JX_getI fl_Plan_27_4 dX5_workOut_17 c_32 rfl ?_
  refine J_iload_n (j := 2) dX5_workOut_20 rfl rfl ?_
  refine J_mmin (S := [.int 0, .ref 32]) (tb 560 (by decide +kernel)) dX5_workOut_21 (Nat.le_of_ble_eq_true rfl) ?_
  refine J_mmax (S := [.ref 32]) (tb 561 (by decide +kernel)) dX5_workOut_24 (Nat.le_of_ble_eq_true rfl) ?_
  obtain ⟨x2, e_x2, hF⟩ := letx_eq hF
  refine JX_putI fl_Plan_31_4 dX5_workOut_27 c_32 rfl rfl rfl ?_
  rw [← e_x2]
  refine J_iconst (v := 1) dX5_workOut_30 (by decide) ?_
  refine J_aload_n (j := 0) dX5_workOut_31 rfl rfl ?_
  refine JX_getI fl_Plan_27_4 dX5_workOut_32 c_32 rfl ?_
  refine J_ishl dX5_workOut_35 ?_
  refine J_iconst (v := 1) dX5_workOut_36 (by decide) ?_
  refine J_isub dX5_workOut_37 ?_
  obtain ⟨y3, e_y3, hF⟩ := letx_eq hF
  rw [← e_y3]
  refine J_istore_n (L' := [(3, .int y3), (0, .ref 32), (1, .int a1), (2, .int a2)]) dX5_workOut_38 rfl (by decide) rfl ?_
  refine J_sub [1, 0] rfl ?_
  exact Sf_X5_workOut_32_39 hd _ _ _ _ hF
def B_X5_chosen_32_7 (K7 : Int32 → Int32 → Int32 → Int32 → Option Int32) (v1 : Int32) (v2 : Int32) (v3 : Int32) (v4 : Int32) (x : MX) : Option Int32 :=
  if v1 < v4 then
  some v3
  else
  if (xi x 32 3) ≤ v4 then
  some v3
  else
  ob (f_X5_firstBest_32 v2 x) (fun r3 =>
  if 0 ≤ r3 then
  letx (v2 ||| ((1 : Int32) <<< (r3 &&& 31))) (fun y6 =>
  K7 v1 y6 r3 (v4 + 1))
  else
  some r3)
theorem SB_X5_chosen_32_7 {g : GC} {d : Nat} {K7 : Int32 → Int32 → Int32 → Int32 → Option Int32} {v1 : Int32} {v2 : Int32} {v3 : Int32} {v4 : Int32} {x : MX} {m : MM} {r : Int32} (hd : 5 ≤ d) (hK7 : ∀ (v1 : Int32) (v2 : Int32) (v3 : Int32) (v4 : Int32) (r : Int32), K7 v1 v2 v3 v4 = some r → J g m_X5_chosen d 0 0 7 [(0, .ref 32), (1, .int v1), (2, .int v2), (3, .int v3), (4, .int v4)] [] (ST x m) 0 0 (EQ (some (.int r)) (ST x m)))
  (hF : B_X5_chosen_32_7 K7 v1 v2 v3 v4 x = some r) : J g m_X5_chosen d 0 0 7 [(0, .ref 32), (1, .int v1), (2, .int v2), (3, .int v3), (4, .int v4)] [] (ST x m) 0 0 (EQ (some (.int r)) (ST x m)) := by
  unfold B_X5_chosen_32_7 at hF
  refine J_iload (j := 4) dX5_chosen_7 rfl ?_
  refine J_iload_n (j := 1) dX5_chosen_9 rfl rfl ?_
  refine J_icmp_gt (tgt := 46) dX5_chosen_10 (by decide) (fun q1 => ?_) (fun q1 => ?_)
  · rw [if_pos q1] at hF
    refine J_iload_n (j := 3) dX5_chosen_46 rfl rfl ?_
    have e_r := Option.some.inj hF
    subst e_r
    exact J_ireturn rfl rfl dX5_chosen_47 ⟨rfl, rfl⟩
  · rw [if_neg q1] at hF
    refine J_iload (j := 4) dX5_chosen_13 rfl ?_
    refine J_aload_n (j := 0) dX5_chosen_15 rfl rfl ?_
    refine JX_getI fl_Plan_31_4 dX5_chosen_16 c_32 rfl ?_
    refine J_icmp_ge (tgt := 46) dX5_chosen_19 (by decide) (fun q2 => ?_) (fun q2 => ?_)
    · rw [if_pos q2] at hF
      refine J_iload_n (j := 3) dX5_chosen_46 rfl rfl ?_
      have e_r := Option.some.inj hF
      subst e_r
      exact J_ireturn rfl rfl dX5_chosen_47 ⟨rfl, rfl⟩
    · rw [if_neg q2] at hF
      refine J_aload_n (j := 0) dX5_chosen_22 rfl rfl ?_
      refine J_iload_n (j := 2) dX5_chosen_23 rfl rfl ?_
      obtain ⟨r3, h4, hF⟩ := ob_some hF
      refine JX_callUi (As := [.int v2]) (S := []) lkU_Plan_40_X5_firstBest_4 rfl (by decide) dX5_chosen_24 c_32 (S_X5_firstBest_32 (by omega) h4) (by omega) rfl rfl (Nat.le_of_ble_eq_true rfl) rfl ?_
      refine J_istore_n (L' := [(3, .int r3), (0, .ref 32), (1, .int v1), (2, .int v2), (4, .int v4)]) dX5_chosen_27 rfl (by decide) rfl ?_
      refine J_iload_n (j := 0) dX5_chosen_28 rfl rfl ?_
      refine J_if_ge (tgt := 34) dX5_chosen_29 (by decide) (fun q5 => ?_) (fun q5 => ?_)
      · rw [if_pos q5] at hF
        refine J_iload_n (j := 3) dX5_chosen_34 rfl rfl ?_
        refine J_iconst (v := 1) dX5_chosen_35 (by decide) ?_
        refine J_iload_n (j := 0) dX5_chosen_36 rfl rfl ?_
        refine J_ishl dX5_chosen_37 ?_
        refine J_ior dX5_chosen_38 ?_
        obtain ⟨y6, e_y6, hF⟩ := letx_eq hF
        rw [← e_y6]
        refine J_istore_n (L' := [(2, .int y6), (3, .int r3), (0, .ref 32), (1, .int v1), (4, .int v4)]) dX5_chosen_39 rfl (by decide) rfl ?_
        refine J_iinc (j := 4) (v := v4 + 1) (L' := [(4, .int (v4 + 1)), (2, .int y6), (3, .int r3), (0, .ref 32), (1, .int v1)]) dX5_chosen_40 rfl rfl (by decide) rfl ?_
        refine J_goto (tgt := 7) dX5_chosen_43 (by decide) ?_
        refine J_sub [3, 4, 1, 2, 0] rfl ?_
        exact hK7 _ _ _ _ _  hF
      · rw [if_neg q5] at hF
        refine J_iload_n (j := 0) dX5_chosen_32 rfl rfl ?_
        have e_r := Option.some.inj hF
        subst e_r
        exact J_ireturn rfl rfl dX5_chosen_33 ⟨rfl, rfl⟩
def f_X5_chosen_32_7 (x : MX) : Nat → Int32 → Int32 → Int32 → Int32 → Option Int32
  | 0 => fun _ _ _ _ => none
  | n + 1 => fun v1 v2 v3 v4 => B_X5_chosen_32_7 (f_X5_chosen_32_7 x n) v1 v2 v3 v4 x
theorem Sf_X5_chosen_32_7 {g : GC} {d : Nat} {x : MX} {m : MM} (hd : 5 ≤ d)  : ∀ (n : Nat) (v1 : Int32) (v2 : Int32) (v3 : Int32) (v4 : Int32) (r : Int32), f_X5_chosen_32_7 x n v1 v2 v3 v4 = some r → J g m_X5_chosen d 0 0 7 [(0, .ref 32), (1, .int v1), (2, .int v2), (3, .int v3), (4, .int v4)] [] (ST x m) 0 0 (EQ (some (.int r)) (ST x m)) := by
  intro n
  induction n with
  | zero => intro v1 v2 v3 v4 r  hF; exact absurd hF (fun q => by cases q)
  | succ n ih =>
    intro v1 v2 v3 v4 r  hF
    exact SB_X5_chosen_32_7 hd (fun v1 v2 v3 v4 r  hF => ih v1 v2 v3 v4 r  hF) hF
def f_X5_chosen_32 (a1 : Int32) (x : MX) : Option Int32 :=
  f_X5_chosen_32_7 x LF a1 0 (-1) 0
theorem S_X5_chosen_32 {g : GC} {d : Nat} {a1 : Int32} {x : MX} {m : MM} {r : Int32} (hd : 5 ≤ d) 
  (hF : f_X5_chosen_32 a1 x = some r) : JC g m_X5_chosen d 0 0 [.ref 32, .int a1] (ST x m) (EQ (some (.int r)) (ST x m)) := by
  refine JC.of (by decide +kernel) (Nat.le_of_ble_eq_true rfl) ?_
  change J g m_X5_chosen d 0 0 0 [(0, .ref 32), (1, .int a1)] [] (ST x m) 0 0 (EQ (some (.int r)) (ST x m))
  unfold f_X5_chosen_32 at hF
  refine J_iconst (v := 0) dX5_chosen_0 (by decide) ?_
  refine J_istore_n (L' := [(2, .int 0), (0, .ref 32), (1, .int a1)]) dX5_chosen_1 rfl (by decide) rfl ?_
  refine J_iconst (v := (-1)) dX5_chosen_2 (by decide) ?_
  refine J_istore_n (L' := [(3, .int (-1)), (2, .int 0), (0, .ref 32), (1, .int a1)]) dX5_chosen_3 rfl (by decide) rfl ?_
  refine J_iconst (v := 0) dX5_chosen_4 (by decide) ?_
  refine J_istore (L' := [(4, .int 0), (3, .int (-1)), (2, .int 0), (0, .ref 32), (1, .int a1)]) dX5_chosen_5 (by decide) rfl ?_
  refine J_sub [3, 4, 2, 1, 0] rfl ?_
  exact Sf_X5_chosen_32_7 hd _ _ _ _ _ _ hF
def f_X5_leastSum_32 (x : MX) : Option Int32 :=
  some (xi x 40 0)
theorem S_X5_leastSum_32 {g : GC} {d : Nat}  {x : MX} {m : MM} {r : Int32} (hd : 1 ≤ d) 
  (hF : f_X5_leastSum_32 x = some r) : JC g m_X5_leastSum d 0 0 [.ref 32] (ST x m) (EQ (some (.int r)) (ST x m)) := by
  refine JC.of (by decide +kernel) (Nat.le_of_ble_eq_true rfl) ?_
  change J g m_X5_leastSum d 0 0 0 [(0, .ref 32)] [] (ST x m) 0 0 (EQ (some (.int r)) (ST x m))
  unfold f_X5_leastSum_32 at hF
  refine J_aload_n (j := 0) dX5_leastSum_0 rfl rfl ?_
  refine JX_getR (r := 40) fl_Plan_14_4 dX5_leastSum_1 c_32 rfl rfl ?_
  refine J_iconst (v := 0) dX5_leastSum_4 (by decide) ?_
  refine JX_iald (j := 0) dX5_leastSum_5 c_40 (by unfold vp_in; decide) (by decide) ?_
  have e_r := Option.some.inj hF
  subst e_r
  exact J_ireturn rfl rfl dX5_leastSum_6 ⟨rfl, rfl⟩
def B_X8_paired_45 (K37 : Int32 → Int32 → Int32 → MX → Option (Int32 × MX)) (K45 : Int32 → Int32 → Int32 → Int32 → MX → Option (Int32 × MX)) (v1 : Int32) (v2 : Int32) (v3 : Int32) (v4 : Int32) (x : MX) : Option (Int32 × MX) :=
  if (xi x 5 12) ≤ v4 then
  K37 v1 v2 (v3 + 1) x
  else
  if inb v3 6 = true then
  ob2 (f_X8_takesNow v4 v3 x) (fun r16 x17 =>
  if inb v4 6 = true then
  letx (xs x17 (34 + ix v3) (ix v4) r16) (fun x20 =>
  K45 v1 v2 v3 (v4 + 1) x20)
  else none)
  else none
theorem SB_X8_paired_45 {g : GC} {d : Nat} {K37 : Int32 → Int32 → Int32 → MX → Option (Int32 × MX)} {K45 : Int32 → Int32 → Int32 → Int32 → MX → Option (Int32 × MX)} {v1 : Int32} {v2 : Int32} {v3 : Int32} {v4 : Int32} {x : MX} {m : MM} {r : Int32} {z : MX} (hd : 6 ≤ d) (hK37 : ∀ (v1 : Int32) (v2 : Int32) (v3 : Int32) (x : MX) (r : Int32) (z : MX), K37 v1 v2 v3 x = some (r, z) → J g m_X8_paired d 0 0 37 [(0, .ref 5), (1, .int v1), (2, .int v2), (3, .int v3)] [] (ST x m) 0 0 (EQ (some (.int r)) (ST z m))) (hK45 : ∀ (v1 : Int32) (v2 : Int32) (v3 : Int32) (v4 : Int32) (x : MX) (r : Int32) (z : MX), K45 v1 v2 v3 v4 x = some (r, z) → J g m_X8_paired d 0 0 45 [(0, .ref 5), (1, .int v1), (2, .int v2), (3, .int v3), (4, .int v4)] [] (ST x m) 0 0 (EQ (some (.int r)) (ST z m)))
  (hF : B_X8_paired_45 K37 K45 v1 v2 v3 v4 x = some (r, z)) : J g m_X8_paired d 0 0 45 [(0, .ref 5), (1, .int v1), (2, .int v2), (3, .int v3), (4, .int v4)] [] (ST x m) 0 0 (EQ (some (.int r)) (ST z m)) := by
  unfold B_X8_paired_45 at hF
  refine J_iload (j := 4) dX8_paired_45 rfl ?_
  refine J_aload_n (j := 0) dX8_paired_47 rfl rfl ?_
  refine JX_getI fl_WithOneHand_80_7 dX8_paired_48 c_5 rfl ?_
  refine J_icmp_ge (tgt := 79) dX8_paired_51 (by decide) (fun q14 => ?_) (fun q14 => ?_)
  · rw [if_pos q14] at hF
    refine J_iinc (j := 3) (v := v3 + 1) (L' := [(3, .int (v3 + 1)), (0, .ref 5), (1, .int v1), (2, .int v2), (4, .int v4)]) dX8_paired_79 rfl rfl (by decide) rfl ?_
    refine J_goto (tgt := 37) dX8_paired_82 (by decide) ?_
    refine J_sub [1, 2, 3, 0] rfl ?_
    exact hK37 _ _ _ _ _ _  hF
  · rw [if_neg q14] at hF
    refine J_aload_n (j := 0) dX8_paired_54 rfl rfl ?_
    refine JX_getR (r := 32) fl_WithOneHand_38_7 dX8_paired_55 c_5 rfl rfl ?_
    refine JX_getR (r := 33) fl_WithOneHand_148_4 dX8_paired_58 c_32 rfl rfl ?_
    refine J_iload_n (j := 3) dX8_paired_61 rfl rfl ?_
    obtain ⟨b15, hF⟩ := chk hF
    refine JX_aald (j := ix v3) (r := 34 + ix v3) (by decide) dX8_paired_62 c_33 (inb_vp b15) rfl (rw_33 _ (inb_lt b15)) ?_
    refine J_iload (j := 4) dX8_paired_63 rfl ?_
    refine J_aload_n (j := 0) dX8_paired_65 rfl rfl ?_
    refine J_iload (j := 4) dX8_paired_66 rfl ?_
    refine J_iload_n (j := 3) dX8_paired_68 rfl rfl ?_
    obtain ⟨r16, x17, h18, hF⟩ := ob2_some hF
    refine JX_callVi (As := [.int v4, .int v3]) (S := [.int v4, .ref (34 + ix v3)]) lkV_WithOneHand_135_X8_takesNow rfl (by decide) dX8_paired_69 c_5 (S_X8_takesNow (by omega) h18) (by omega) rfl rfl (Nat.le_of_ble_eq_true rfl) rfl ?_
    obtain ⟨b19, hF⟩ := chk hF
    obtain ⟨x20, e_x20, hF⟩ := letx_eq hF
    refine JX_iast (j := ix v4) dX8_paired_72 (cr_33 (inb_lt b15)) (inb_vp b19) rfl ?_
    rw [← e_x20]
    refine J_iinc (j := 4) (v := v4 + 1) (L' := [(4, .int (v4 + 1)), (0, .ref 5), (1, .int v1), (2, .int v2), (3, .int v3)]) dX8_paired_73 rfl rfl (by decide) rfl ?_
    refine J_goto (tgt := 45) dX8_paired_76 (by decide) ?_
    refine J_sub [1, 2, 3, 4, 0] rfl ?_
    exact hK45 _ _ _ _ _ _ _  hF
def f_X8_paired_45 (K37 : Int32 → Int32 → Int32 → MX → Option (Int32 × MX)) : Nat → Int32 → Int32 → Int32 → Int32 → MX → Option (Int32 × MX)
  | 0 => fun _ _ _ _ _ => none
  | n + 1 => fun v1 v2 v3 v4 x => B_X8_paired_45 K37 (f_X8_paired_45 K37 n) v1 v2 v3 v4 x
theorem Sf_X8_paired_45 {g : GC} {d : Nat} {m : MM} {K37 : Int32 → Int32 → Int32 → MX → Option (Int32 × MX)} (hd : 6 ≤ d) (hK37 : ∀ (v1 : Int32) (v2 : Int32) (v3 : Int32) (x : MX) (r : Int32) (z : MX), K37 v1 v2 v3 x = some (r, z) → J g m_X8_paired d 0 0 37 [(0, .ref 5), (1, .int v1), (2, .int v2), (3, .int v3)] [] (ST x m) 0 0 (EQ (some (.int r)) (ST z m))) : ∀ (n : Nat) (v1 : Int32) (v2 : Int32) (v3 : Int32) (v4 : Int32) (x : MX) (r : Int32) (z : MX), f_X8_paired_45 K37 n v1 v2 v3 v4 x = some (r, z) → J g m_X8_paired d 0 0 45 [(0, .ref 5), (1, .int v1), (2, .int v2), (3, .int v3), (4, .int v4)] [] (ST x m) 0 0 (EQ (some (.int r)) (ST z m)) := by
  intro n
  induction n with
  | zero => intro v1 v2 v3 v4 x r z  hF; exact absurd hF (fun q => by cases q)
  | succ n ih =>
    intro v1 v2 v3 v4 x r z  hF
    exact SB_X8_paired_45 hd hK37 (fun v1 v2 v3 v4 x r z  hF => ih v1 v2 v3 v4 x r z  hF) hF
def B_X8_paired_37 (K37 : Int32 → Int32 → Int32 → MX → Option (Int32 × MX)) (v1 : Int32) (v2 : Int32) (v3 : Int32) (x : MX) : Option (Int32 × MX) :=
  if v1 ≤ v3 then
  ob (f_X5_workOut_32 (xi x 5 12) v1 x) (fun x7 =>
  if 0 ≤ v2 then
  ob (f_X5_chosen_32 v2 x7) (fun r10 =>
  some (r10, x7))
  else
  ob (f_X5_leastSum_32 x7) (fun r12 =>
  some (r12, x7)))
  else
  f_X8_paired_45 K37 LF v1 v2 v3 0 x
theorem SB_X8_paired_37 {g : GC} {d : Nat} {K37 : Int32 → Int32 → Int32 → MX → Option (Int32 × MX)} {v1 : Int32} {v2 : Int32} {v3 : Int32} {x : MX} {m : MM} {r : Int32} {z : MX} (hd : 6 ≤ d) (hK37 : ∀ (v1 : Int32) (v2 : Int32) (v3 : Int32) (x : MX) (r : Int32) (z : MX), K37 v1 v2 v3 x = some (r, z) → J g m_X8_paired d 0 0 37 [(0, .ref 5), (1, .int v1), (2, .int v2), (3, .int v3)] [] (ST x m) 0 0 (EQ (some (.int r)) (ST z m)))
  (hF : B_X8_paired_37 K37 v1 v2 v3 x = some (r, z)) : J g m_X8_paired d 0 0 37 [(0, .ref 5), (1, .int v1), (2, .int v2), (3, .int v3)] [] (ST x m) 0 0 (EQ (some (.int r)) (ST z m)) := by
  unfold B_X8_paired_37 at hF
  refine J_iload_n (j := 3) dX8_paired_37 rfl rfl ?_
  refine J_iload_n (j := 1) dX8_paired_38 rfl rfl ?_
  refine J_icmp_ge (tgt := 85) dX8_paired_39 (by decide) (fun q6 => ?_) (fun q6 => ?_)
  · rw [if_pos q6] at hF
    refine J_aload_n (j := 0) dX8_paired_85 rfl rfl ?_
    refine JX_getR (r := 32) fl_WithOneHand_38_7 dX8_paired_86 c_5 rfl rfl ?_
    refine J_aload_n (j := 0) dX8_paired_89 rfl rfl ?_
    refine JX_getI fl_WithOneHand_80_7 dX8_paired_90 c_5 rfl ?_
    refine J_iload_n (j := 1) dX8_paired_93 rfl rfl ?_
    obtain ⟨x7, h8, hF⟩ := ob_some hF
    refine JX_callUv (As := [.int (xi x 5 12), .int v1]) (S := []) lkU_WithOneHand_151_X5_workOut_4 rfl (by decide) dX8_paired_94 c_32 (S_X5_workOut_32 (by omega) h8) (by omega) rfl rfl (Nat.le_of_ble_eq_true rfl) rfl ?_
    refine J_iload_n (j := 2) dX8_paired_97 rfl rfl ?_
    refine J_if_ge (tgt := 111) dX8_paired_98 (by decide) (fun q9 => ?_) (fun q9 => ?_)
    · rw [if_pos q9] at hF
      refine J_aload_n (j := 0) dX8_paired_111 rfl rfl ?_
      refine JX_getR (r := 32) fl_WithOneHand_38_7 dX8_paired_112 c_5 rfl rfl ?_
      refine J_iload_n (j := 2) dX8_paired_115 rfl rfl ?_
      obtain ⟨r10, h11, hF⟩ := ob_some hF
      refine JX_callUi (As := [.int v2]) (S := []) lkU_WithOneHand_158_X5_chosen_4 rfl (by decide) dX8_paired_116 c_32 (S_X5_chosen_32 (by omega) h11) (by omega) rfl rfl (Nat.le_of_ble_eq_true rfl) rfl ?_
      obtain ⟨e_r, e_z⟩ := someP hF
      subst e_r
      subst e_z
      exact J_ireturn rfl rfl dX8_paired_119 ⟨rfl, rfl⟩
    · rw [if_neg q9] at hF
      refine J_aload_n (j := 0) dX8_paired_101 rfl rfl ?_
      refine JX_getR (r := 32) fl_WithOneHand_38_7 dX8_paired_102 c_5 rfl rfl ?_
      obtain ⟨r12, h13, hF⟩ := ob_some hF
      refine JX_callUi (As := []) (S := []) lkU_WithOneHand_155_X5_leastSum_4 rfl (by decide) dX8_paired_105 c_32 (S_X5_leastSum_32 (by omega) h13) (by omega) rfl rfl (Nat.le_of_ble_eq_true rfl) rfl ?_
      refine J_goto (tgt := 119) dX8_paired_108 (by decide) ?_
      obtain ⟨e_r, e_z⟩ := someP hF
      subst e_r
      subst e_z
      exact J_ireturn rfl rfl dX8_paired_119 ⟨rfl, rfl⟩
  · rw [if_neg q6] at hF
    refine J_iconst (v := 0) dX8_paired_42 (by decide) ?_
    refine J_istore (L' := [(4, .int 0), (0, .ref 5), (1, .int v1), (2, .int v2), (3, .int v3)]) dX8_paired_43 (by decide) rfl ?_
    refine J_sub [1, 2, 3, 4, 0] rfl ?_
    exact Sf_X8_paired_45 hd hK37 _ _ _ _ _ _ _ _ hF
def f_X8_paired_37  : Nat → Int32 → Int32 → Int32 → MX → Option (Int32 × MX)
  | 0 => fun _ _ _ _ => none
  | n + 1 => fun v1 v2 v3 x => B_X8_paired_37 (f_X8_paired_37  n) v1 v2 v3 x
theorem Sf_X8_paired_37 {g : GC} {d : Nat} {m : MM} (hd : 6 ≤ d)  : ∀ (n : Nat) (v1 : Int32) (v2 : Int32) (v3 : Int32) (x : MX) (r : Int32) (z : MX), f_X8_paired_37  n v1 v2 v3 x = some (r, z) → J g m_X8_paired d 0 0 37 [(0, .ref 5), (1, .int v1), (2, .int v2), (3, .int v3)] [] (ST x m) 0 0 (EQ (some (.int r)) (ST z m)) := by
  intro n
  induction n with
  | zero => intro v1 v2 v3 x r z  hF; exact absurd hF (fun q => by cases q)
  | succ n ih =>
    intro v1 v2 v3 x r z  hF
    exact SB_X8_paired_37 hd (fun v1 v2 v3 x r z  hF => ih v1 v2 v3 x r z  hF) hF
def f_X8_paired (a1 : Int32) (a2 : Int32) (x : MX) : Option (Int32 × MX) :=
  if a1 < 0 then
  some ((-1), x)
  else
  if (xi x 5 13) < a1 then
  some ((-1), x)
  else
  if a2 < (-1) then
  some ((-1), x)
  else
  if a2 < a1 then
  if a1 ≤ (xi x 5 12) then
  f_X8_paired_37 LF a1 a2 0 x
  else
  some ((-2), x)
  else
  some ((-1), x)
theorem S_X8_paired {g : GC} {d : Nat} {a1 : Int32} {a2 : Int32} {x : MX} {m : MM} {r : Int32} {z : MX} (hd : 6 ≤ d) 
  (hF : f_X8_paired a1 a2 x = some (r, z)) : JC g m_X8_paired d 0 0 [.ref 5, .int a1, .int a2] (ST x m) (EQ (some (.int r)) (ST z m)) := by
  refine JC.of (by decide +kernel) (Nat.le_of_ble_eq_true rfl) ?_
  change J g m_X8_paired d 0 0 0 [(0, .ref 5), (1, .int a1), (2, .int a2)] [] (ST x m) 0 0 (EQ (some (.int r)) (ST z m))
  unfold f_X8_paired at hF
  refine J_iload_n (j := 1) dX8_paired_0 rfl rfl ?_
  refine J_if_lt (tgt := 22) dX8_paired_1 (by decide) (fun q1 => ?_) (fun q1 => ?_)
  · rw [if_pos q1] at hF
    refine J_iconst (v := (-1)) dX8_paired_22 (by decide) ?_
    obtain ⟨e_r, e_z⟩ := someP hF
    subst e_r
    subst e_z
    exact J_ireturn rfl rfl dX8_paired_23 ⟨rfl, rfl⟩
  · rw [if_neg q1] at hF
    refine J_iload_n (j := 1) dX8_paired_4 rfl rfl ?_
    refine J_aload_n (j := 0) dX8_paired_5 rfl rfl ?_
    refine JX_getI fl_WithOneHand_84_7 dX8_paired_6 c_5 rfl ?_
    refine J_icmp_gt (tgt := 22) dX8_paired_9 (by decide) (fun q2 => ?_) (fun q2 => ?_)
    · rw [if_pos q2] at hF
      refine J_iconst (v := (-1)) dX8_paired_22 (by decide) ?_
      obtain ⟨e_r, e_z⟩ := someP hF
      subst e_r
      subst e_z
      exact J_ireturn rfl rfl dX8_paired_23 ⟨rfl, rfl⟩
    · rw [if_neg q2] at hF
      refine J_iload_n (j := 2) dX8_paired_12 rfl rfl ?_
      refine J_iconst (v := (-1)) dX8_paired_13 (by decide) ?_
      refine J_icmp_lt (tgt := 22) dX8_paired_14 (by decide) (fun q3 => ?_) (fun q3 => ?_)
      · rw [if_pos q3] at hF
        refine J_iconst (v := (-1)) dX8_paired_22 (by decide) ?_
        obtain ⟨e_r, e_z⟩ := someP hF
        subst e_r
        subst e_z
        exact J_ireturn rfl rfl dX8_paired_23 ⟨rfl, rfl⟩
      · rw [if_neg q3] at hF
        refine J_iload_n (j := 2) dX8_paired_17 rfl rfl ?_
        refine J_iload_n (j := 1) dX8_paired_18 rfl rfl ?_
        refine J_icmp_lt (tgt := 24) dX8_paired_19 (by decide) (fun q4 => ?_) (fun q4 => ?_)
        · rw [if_pos q4] at hF
          refine J_iload_n (j := 1) dX8_paired_24 rfl rfl ?_
          refine J_aload_n (j := 0) dX8_paired_25 rfl rfl ?_
          refine JX_getI fl_WithOneHand_80_7 dX8_paired_26 c_5 rfl ?_
          refine J_icmp_le (tgt := 35) dX8_paired_29 (by decide) (fun q5 => ?_) (fun q5 => ?_)
          · rw [if_pos q5] at hF
            refine J_iconst (v := 0) dX8_paired_35 (by decide) ?_
            refine J_istore_n (L' := [(3, .int 0), (0, .ref 5), (1, .int a1), (2, .int a2)]) dX8_paired_36 rfl (by decide) rfl ?_
            refine J_sub [1, 2, 3, 0] rfl ?_
            exact Sf_X8_paired_37 hd _ _ _ _ _ _ _ hF
          · rw [if_neg q5] at hF
            refine J_bipush (v := (-2)) dX8_paired_32 (by decide) ?_
            obtain ⟨e_r, e_z⟩ := someP hF
            subst e_r
            subst e_z
            exact J_ireturn rfl rfl dX8_paired_34 ⟨rfl, rfl⟩
        · rw [if_neg q4] at hF
          refine J_iconst (v := (-1)) dX8_paired_22 (by decide) ?_
          obtain ⟨e_r, e_z⟩ := someP hF
          subst e_r
          subst e_z
          exact J_ireturn rfl rfl dX8_paired_23 ⟨rfl, rfl⟩
def f_X9_has (a1 : Int32) (a2 : Int32) : Bool :=
  if ((a1 >>> (a2 &&& 31)) &&& 1) = 1 then
  true
  else
  false
theorem S_X9_has {g : GC} {d : Nat} {a1 : Int32} {a2 : Int32} {x : MX} {m : MM} {r : Bool} (hd : 1 ≤ d) 
  (hF : f_X9_has a1 a2 = r) : JC g m_X9_has d 0 0 [.ref 80, .int a1, .int a2] (ST x m) (EQ (some (.int (b2i r))) (ST x m)) := by
  refine JC.of (by decide +kernel) (Nat.le_of_ble_eq_true rfl) ?_
  change J g m_X9_has d 0 0 0 [(0, .ref 80), (1, .int a1), (2, .int a2)] [] (ST x m) 0 0 (EQ (some (.int (b2i r))) (ST x m))
  unfold f_X9_has at hF
  refine J_iload_n (j := 1) dX9_has_0 rfl rfl ?_
  refine J_iload_n (j := 2) dX9_has_1 rfl rfl ?_
  refine J_ishr dX9_has_2 ?_
  refine J_iconst (v := 1) dX9_has_3 (by decide) ?_
  refine J_iand dX9_has_4 ?_
  refine J_iconst (v := 1) dX9_has_5 (by decide) ?_
  refine J_icmp_ne (tgt := 13) dX9_has_6 (by decide) (fun q1 => ?_) (fun q1 => ?_)
  · rw [if_neg q1] at hF
    refine J_iconst (v := 0) dX9_has_13 (by decide) ?_
    subst hF
    exact J_ireturn rfl rfl dX9_has_14 ⟨rfl, rfl⟩
  · rw [if_pos q1] at hF
    refine J_iconst (v := 1) dX9_has_9 (by decide) ?_
    refine J_goto (tgt := 14) dX9_has_10 (by decide) ?_
    subst hF
    exact J_ireturn rfl rfl dX9_has_14 ⟨rfl, rfl⟩
def B_X9_pairs_115 (s_X9_pairs : Int32 → Int32 → Int32 → Int32 → MM → Option MM) (K61 : Int32 → Int32 → Int32 → Int32 → Int32 → MM → Option MM) (v1 : Int32) (v2 : Int32) (v3 : Int32) (v4 : Int32) (v5 : Int32) (m : MM) : Option MM :=
  K61 v1 v2 v3 v4 (v5 + 1) m
theorem SB_X9_pairs_115 {g : GC} {nn d : Nat} {s_X9_pairs : Int32 → Int32 → Int32 → Int32 → MM → Option MM} {K61 : Int32 → Int32 → Int32 → Int32 → Int32 → MM → Option MM} {v1 : Int32} {v2 : Int32} {v3 : Int32} {v4 : Int32} {v5 : Int32} {x : MX} {m : MM} {z : MM} (hd : nn + 109 ≤ d) (hs_s_X9_pairs : ∀ (d : Nat), nn + 108 ≤ d → ∀ (a1 : Int32) (a2 : Int32) (a3 : Int32) (a4 : Int32) (m : MM) (z : MM), s_X9_pairs a1 a2 a3 a4 m = some z → JC g m_X9_pairs d 0 0 [.ref 80, .int a1, .int a2, .int a3, .int a4] (ST x m) (EQ (none) (ST x z))) (hK61 : ∀ (v1 : Int32) (v2 : Int32) (v3 : Int32) (v4 : Int32) (v5 : Int32) (m : MM) (z : MM), K61 v1 v2 v3 v4 v5 m = some z → J g m_X9_pairs d 0 0 61 [(0, .ref 80), (1, .int v1), (2, .int v2), (3, .int v3), (4, .int v4), (5, .int v5)] [] (ST x m) 0 0 (EQ (none) (ST x z)))
  (hF : B_X9_pairs_115 s_X9_pairs K61 v1 v2 v3 v4 v5 m = some z) : J g m_X9_pairs d 0 0 115 [(0, .ref 80), (1, .int v1), (2, .int v2), (3, .int v3), (4, .int v4), (5, .int v5)] [] (ST x m) 0 0 (EQ (none) (ST x z)) := by
  unfold B_X9_pairs_115 at hF
  refine J_iinc (j := 5) (v := v5 + 1) (L' := [(5, .int (v5 + 1)), (0, .ref 80), (1, .int v1), (2, .int v2), (3, .int v3), (4, .int v4)]) dX9_pairs_115 rfl rfl (by decide) rfl ?_
  refine J_goto (tgt := 61) dX9_pairs_118 (by decide) ?_
  refine J_sub [1, 2, 3, 4, 5, 0] rfl ?_
  exact hK61 _ _ _ _ _ _ _  hF
def B_X9_pairs_61 (s_X9_pairs : Int32 → Int32 → Int32 → Int32 → MM → Option MM) (K61 : Int32 → Int32 → Int32 → Int32 → Int32 → MM → Option MM) (v1 : Int32) (v2 : Int32) (v3 : Int32) (v4 : Int32) (v5 : Int32) (m : MM) : Option MM :=
  if (mi m 80 0) ≤ v5 then
  some m
  else
  if (f_X9_has v3 v5) = true then
  B_X9_pairs_115 s_X9_pairs K61 v1 v2 v3 v4 v5 m
  else
  if inb v1 6 = true then
  letx (ms m 100 (ix v1) v5) (fun m5 =>
  ob2 (f_X9_takesNow v5 v1 m5) (fun r6 m7 =>
  ob (s_X9_pairs (v1 + 1) v2 (v3 ||| ((1 : Int32) <<< (v5 &&& 31))) (v4 + r6) m7) (fun m9 =>
  B_X9_pairs_115 s_X9_pairs K61 v1 v2 v3 v4 v5 m9)))
  else none
theorem SB_X9_pairs_61 {g : GC} {nn d : Nat} {s_X9_pairs : Int32 → Int32 → Int32 → Int32 → MM → Option MM} {K61 : Int32 → Int32 → Int32 → Int32 → Int32 → MM → Option MM} {v1 : Int32} {v2 : Int32} {v3 : Int32} {v4 : Int32} {v5 : Int32} {x : MX} {m : MM} {z : MM} (hd : nn + 109 ≤ d) (hs_s_X9_pairs : ∀ (d : Nat), nn + 108 ≤ d → ∀ (a1 : Int32) (a2 : Int32) (a3 : Int32) (a4 : Int32) (m : MM) (z : MM), s_X9_pairs a1 a2 a3 a4 m = some z → JC g m_X9_pairs d 0 0 [.ref 80, .int a1, .int a2, .int a3, .int a4] (ST x m) (EQ (none) (ST x z))) (hK61 : ∀ (v1 : Int32) (v2 : Int32) (v3 : Int32) (v4 : Int32) (v5 : Int32) (m : MM) (z : MM), K61 v1 v2 v3 v4 v5 m = some z → J g m_X9_pairs d 0 0 61 [(0, .ref 80), (1, .int v1), (2, .int v2), (3, .int v3), (4, .int v4), (5, .int v5)] [] (ST x m) 0 0 (EQ (none) (ST x z)))
  (hF : B_X9_pairs_61 s_X9_pairs K61 v1 v2 v3 v4 v5 m = some z) : J g m_X9_pairs d 0 0 61 [(0, .ref 80), (1, .int v1), (2, .int v2), (3, .int v3), (4, .int v4), (5, .int v5)] [] (ST x m) 0 0 (EQ (none) (ST x z)) := by
  unfold B_X9_pairs_61 at hF
  refine J_iload (j := 5) dX9_pairs_61 rfl ?_
  refine J_aload_n (j := 0) dX9_pairs_63 rfl rfl ?_
  refine JM_getI fl_WithOneHandModel_108_8 dX9_pairs_64 c_80 rfl ?_
  refine J_icmp_ge (tgt := 121) dX9_pairs_67 (by decide) (fun q2 => ?_) (fun q2 => ?_)
  · rw [if_pos q2] at hF
    have e_r := Option.some.inj hF
    subst e_r
    exact J_return rfl dX9_pairs_121 ⟨rfl, rfl⟩
  · rw [if_neg q2] at hF
    refine J_aload_n (j := 0) dX9_pairs_70 rfl rfl ?_
    refine J_iload_n (j := 3) dX9_pairs_71 rfl rfl ?_
    refine J_iload (j := 5) dX9_pairs_72 rfl ?_
    refine JM_callVi (As := [.int v3, .int v5]) (S := []) lkV_WithOneHandModel_276_X9_has rfl (by decide) dX9_pairs_74 c_80 (S_X9_has (by omega) rfl) (by omega) rfl rfl (Nat.le_of_ble_eq_true rfl) rfl ?_
    refine J_ifb_eq (tgt := 83) dX9_pairs_77 (by decide) (fun q3 => ?_) (fun q3 => ?_)
    · rw [if_neg q3] at hF
      refine J_aload_n (j := 0) dX9_pairs_83 rfl rfl ?_
      refine JM_getR (r := 100) fl_WithOneHandModel_71_8 dX9_pairs_84 c_80 rfl rfl ?_
      refine J_iload_n (j := 1) dX9_pairs_87 rfl rfl ?_
      refine J_iload (j := 5) dX9_pairs_88 rfl ?_
      obtain ⟨b4, hF⟩ := chk hF
      obtain ⟨m5, e_m5, hF⟩ := letx_eq hF
      refine JM_iast (j := ix v1) dX9_pairs_90 c_100 (inb_vp b4) rfl ?_
      rw [← e_m5]
      refine J_aload_n (j := 0) dX9_pairs_91 rfl rfl ?_
      refine J_iload_n (j := 1) dX9_pairs_92 rfl rfl ?_
      refine J_iconst (v := 1) dX9_pairs_93 (by decide) ?_
      refine J_iadd dX9_pairs_94 ?_
      refine J_iload_n (j := 2) dX9_pairs_95 rfl rfl ?_
      refine J_iload_n (j := 3) dX9_pairs_96 rfl rfl ?_
      refine J_iconst (v := 1) dX9_pairs_97 (by decide) ?_
      refine J_iload (j := 5) dX9_pairs_98 rfl ?_
      refine J_ishl dX9_pairs_100 ?_
      refine J_ior dX9_pairs_101 ?_
      refine J_iload (j := 4) dX9_pairs_102 rfl ?_
      refine J_aload_n (j := 0) dX9_pairs_104 rfl rfl ?_
      refine J_iload (j := 5) dX9_pairs_105 rfl ?_
      refine J_iload_n (j := 1) dX9_pairs_107 rfl rfl ?_
      obtain ⟨r6, m7, h8, hF⟩ := ob2_some hF
      refine JM_callVi (As := [.int v5, .int v1]) (S := [.int v4, .int (v3 ||| ((1 : Int32) <<< (v5 &&& 31))), .int v2, .int (v1 + 1), .ref 80]) lkV_WithOneHandModel_264_X9_takesNow rfl (by decide) dX9_pairs_108 c_80 (S_X9_takesNow (by omega) h8) (by omega) rfl rfl (Nat.le_of_ble_eq_true rfl) rfl ?_
      refine J_iadd dX9_pairs_111 ?_
      obtain ⟨m9, h10, hF⟩ := ob_some hF
      refine JM_callVv (As := [.int (v1 + 1), .int v2, .int (v3 ||| ((1 : Int32) <<< (v5 &&& 31))), .int (v4 + r6)]) (S := []) lkV_WithOneHandModel_279_X9_pairs rfl (by decide) dX9_pairs_112 c_80 (hs_s_X9_pairs (d - 1) (by omega) _ _ _ _ _ _ h10) (by omega) rfl rfl (Nat.le_of_ble_eq_true rfl) rfl ?_
      exact SB_X9_pairs_115 hd hs_s_X9_pairs hK61 hF
    · rw [if_pos q3] at hF
      refine J_goto (tgt := 115) dX9_pairs_80 (by decide) ?_
      exact SB_X9_pairs_115 hd hs_s_X9_pairs hK61 hF
def f_X9_pairs_61 (s_X9_pairs : Int32 → Int32 → Int32 → Int32 → MM → Option MM) : Nat → Int32 → Int32 → Int32 → Int32 → Int32 → MM → Option MM
  | 0 => fun _ _ _ _ _ _ => none
  | n + 1 => fun v1 v2 v3 v4 v5 m => B_X9_pairs_61 s_X9_pairs (f_X9_pairs_61 s_X9_pairs n) v1 v2 v3 v4 v5 m
theorem Sf_X9_pairs_61 {g : GC} {nn d : Nat} {x : MX} {s_X9_pairs : Int32 → Int32 → Int32 → Int32 → MM → Option MM} (hd : nn + 109 ≤ d) (hs_s_X9_pairs : ∀ (d : Nat), nn + 108 ≤ d → ∀ (a1 : Int32) (a2 : Int32) (a3 : Int32) (a4 : Int32) (m : MM) (z : MM), s_X9_pairs a1 a2 a3 a4 m = some z → JC g m_X9_pairs d 0 0 [.ref 80, .int a1, .int a2, .int a3, .int a4] (ST x m) (EQ (none) (ST x z))) : ∀ (n : Nat) (v1 : Int32) (v2 : Int32) (v3 : Int32) (v4 : Int32) (v5 : Int32) (m : MM) (z : MM), f_X9_pairs_61 s_X9_pairs n v1 v2 v3 v4 v5 m = some z → J g m_X9_pairs d 0 0 61 [(0, .ref 80), (1, .int v1), (2, .int v2), (3, .int v3), (4, .int v4), (5, .int v5)] [] (ST x m) 0 0 (EQ (none) (ST x z)) := by
  intro n
  induction n with
  | zero => intro v1 v2 v3 v4 v5 m z  hF; exact absurd hF (fun q => by cases q)
  | succ n ih =>
    intro v1 v2 v3 v4 v5 m z  hF
    exact SB_X9_pairs_61 hd hs_s_X9_pairs (fun v1 v2 v3 v4 v5 m z  hF => ih v1 v2 v3 v4 v5 m z  hF) hF
def B_X9_pairs_31 (s_X9_pairs : Int32 → Int32 → Int32 → Int32 → MM → Option MM) (K31 : Int32 → Int32 → MM → Option MM) (v2 : Int32) (v5 : Int32) (m : MM) : Option MM :=
  if v2 ≤ v5 then
  some m
  else
  if inb v5 6 = true then
  letx (ms m 101 (ix v5) (mi m 100 (ix v5))) (fun m15 =>
  K31 v2 (v5 + 1) m15)
  else none
theorem SB_X9_pairs_31 {g : GC} {nn d : Nat} {s_X9_pairs : Int32 → Int32 → Int32 → Int32 → MM → Option MM} {K31 : Int32 → Int32 → MM → Option MM} {v2 : Int32} {v5 : Int32} {x : MX} {m : MM} {z : MM} (hd : nn + 109 ≤ d) (hs_s_X9_pairs : ∀ (d : Nat), nn + 108 ≤ d → ∀ (a1 : Int32) (a2 : Int32) (a3 : Int32) (a4 : Int32) (m : MM) (z : MM), s_X9_pairs a1 a2 a3 a4 m = some z → JC g m_X9_pairs d 0 0 [.ref 80, .int a1, .int a2, .int a3, .int a4] (ST x m) (EQ (none) (ST x z))) (hK31 : ∀ (v2 : Int32) (v5 : Int32) (m : MM) (z : MM), K31 v2 v5 m = some z → J g m_X9_pairs d 0 0 31 [(0, .ref 80), (2, .int v2), (5, .int v5)] [] (ST x m) 0 0 (EQ (none) (ST x z)))
  (hF : B_X9_pairs_31 s_X9_pairs K31 v2 v5 m = some z) : J g m_X9_pairs d 0 0 31 [(0, .ref 80), (2, .int v2), (5, .int v5)] [] (ST x m) 0 0 (EQ (none) (ST x z)) := by
  unfold B_X9_pairs_31 at hF
  refine J_iload (j := 2) dX9_pairs_31 rfl ?_
  refine J_iload_n (j := 1) dX9_pairs_33 rfl rfl ?_
  refine J_icmp_ge (tgt := 57) dX9_pairs_34 (by decide) (fun q13 => ?_) (fun q13 => ?_)
  · rw [if_pos q13] at hF
    have e_r := Option.some.inj hF
    subst e_r
    exact J_return rfl dX9_pairs_57 ⟨rfl, rfl⟩
  · rw [if_neg q13] at hF
    refine J_aload_n (j := 0) dX9_pairs_37 rfl rfl ?_
    refine JM_getR (r := 101) fl_WithOneHandModel_74_8 dX9_pairs_38 c_80 rfl rfl ?_
    refine J_iload (j := 2) dX9_pairs_41 rfl ?_
    refine J_aload_n (j := 0) dX9_pairs_43 rfl rfl ?_
    refine JM_getR (r := 100) fl_WithOneHandModel_71_8 dX9_pairs_44 c_80 rfl rfl ?_
    refine J_iload (j := 2) dX9_pairs_47 rfl ?_
    obtain ⟨b14, hF⟩ := chk hF
    refine JM_iald (j := ix v5) dX9_pairs_49 c_100 (inb_vp b14) rfl ?_
    obtain ⟨m15, e_m15, hF⟩ := letx_eq hF
    refine JM_iast (j := ix v5) dX9_pairs_50 c_101 (inb_vp b14) rfl ?_
    rw [← e_m15]
    refine J_iinc (j := 2) (v := v5 + 1) (L' := [(5, .int (v5 + 1)), (0, .ref 80), (2, .int v2)]) dX9_pairs_51 rfl rfl (by decide) rfl ?_
    refine J_goto (tgt := 31) dX9_pairs_54 (by decide) ?_
    refine J_sub [1, 2, 0] rfl ?_
    exact hK31 _ _ _ _  hF
def f_X9_pairs_31 (s_X9_pairs : Int32 → Int32 → Int32 → Int32 → MM → Option MM) : Nat → Int32 → Int32 → MM → Option MM
  | 0 => fun _ _ _ => none
  | n + 1 => fun v2 v5 m => B_X9_pairs_31 s_X9_pairs (f_X9_pairs_31 s_X9_pairs n) v2 v5 m
theorem Sf_X9_pairs_31 {g : GC} {nn d : Nat} {x : MX} {s_X9_pairs : Int32 → Int32 → Int32 → Int32 → MM → Option MM} (hd : nn + 109 ≤ d) (hs_s_X9_pairs : ∀ (d : Nat), nn + 108 ≤ d → ∀ (a1 : Int32) (a2 : Int32) (a3 : Int32) (a4 : Int32) (m : MM) (z : MM), s_X9_pairs a1 a2 a3 a4 m = some z → JC g m_X9_pairs d 0 0 [.ref 80, .int a1, .int a2, .int a3, .int a4] (ST x m) (EQ (none) (ST x z))) : ∀ (n : Nat) (v2 : Int32) (v5 : Int32) (m : MM) (z : MM), f_X9_pairs_31 s_X9_pairs n v2 v5 m = some z → J g m_X9_pairs d 0 0 31 [(0, .ref 80), (2, .int v2), (5, .int v5)] [] (ST x m) 0 0 (EQ (none) (ST x z)) := by
  intro n
  induction n with
  | zero => intro v2 v5 m z  hF; exact absurd hF (fun q => by cases q)
  | succ n ih =>
    intro v2 v5 m z  hF
    exact SB_X9_pairs_31 hd hs_s_X9_pairs (fun v2 v5 m z  hF => ih v2 v5 m z  hF) hF
def B_X9_pairs_22 (s_X9_pairs : Int32 → Int32 → Int32 → Int32 → MM → Option MM) (v2 : Int32) (v4 : Int32) (m : MM) : Option MM :=
  letx (ms m 80 36 v4) (fun m12 =>
  f_X9_pairs_31 s_X9_pairs LF v2 0 m12)
theorem SB_X9_pairs_22 {g : GC} {nn d : Nat} {s_X9_pairs : Int32 → Int32 → Int32 → Int32 → MM → Option MM} {v2 : Int32} {v4 : Int32} {x : MX} {m : MM} {z : MM} (hd : nn + 109 ≤ d) (hs_s_X9_pairs : ∀ (d : Nat), nn + 108 ≤ d → ∀ (a1 : Int32) (a2 : Int32) (a3 : Int32) (a4 : Int32) (m : MM) (z : MM), s_X9_pairs a1 a2 a3 a4 m = some z → JC g m_X9_pairs d 0 0 [.ref 80, .int a1, .int a2, .int a3, .int a4] (ST x m) (EQ (none) (ST x z)))
  (hF : B_X9_pairs_22 s_X9_pairs v2 v4 m = some z) : J g m_X9_pairs d 0 0 22 [(0, .ref 80), (2, .int v2), (4, .int v4)] [] (ST x m) 0 0 (EQ (none) (ST x z)) := by
  unfold B_X9_pairs_22 at hF
  refine J_aload_n (j := 0) dX9_pairs_22 rfl rfl ?_
  refine J_iload (j := 2) dX9_pairs_23 rfl ?_
  obtain ⟨m12, e_m12, hF⟩ := letx_eq hF
  refine JM_putI fl_WithOneHandModel_273_8 dX9_pairs_25 c_80 rfl rfl rfl ?_
  rw [← e_m12]
  refine J_iconst (v := 0) dX9_pairs_28 (by decide) ?_
  refine J_istore (L' := [(5, .int 0), (0, .ref 80), (2, .int v2), (4, .int v4)]) dX9_pairs_29 (by decide) rfl ?_
  refine J_sub [1, 2, 0] rfl ?_
  exact Sf_X9_pairs_31 hd hs_s_X9_pairs _ _ _ _ _ hF
def R_X9_pairs (s_X9_pairs : Int32 → Int32 → Int32 → Int32 → MM → Option MM) (a1 : Int32) (a2 : Int32) (a3 : Int32) (a4 : Int32) (m : MM) : Option MM :=
  if a1 = a2 then
  if (mi m 80 36) < 0 then
  B_X9_pairs_22 s_X9_pairs a2 a4 m
  else
  if a4 < (mi m 80 36) then
  B_X9_pairs_22 s_X9_pairs a2 a4 m
  else
  some m
  else
  f_X9_pairs_61 s_X9_pairs LF a1 a2 a3 a4 0 m
theorem SR_X9_pairs {g : GC} {nn d : Nat} {s_X9_pairs : Int32 → Int32 → Int32 → Int32 → MM → Option MM} {a1 : Int32} {a2 : Int32} {a3 : Int32} {a4 : Int32} {x : MX} {m : MM} {z : MM} (hd : nn + 109 ≤ d) (hs_s_X9_pairs : ∀ (d : Nat), nn + 108 ≤ d → ∀ (a1 : Int32) (a2 : Int32) (a3 : Int32) (a4 : Int32) (m : MM) (z : MM), s_X9_pairs a1 a2 a3 a4 m = some z → JC g m_X9_pairs d 0 0 [.ref 80, .int a1, .int a2, .int a3, .int a4] (ST x m) (EQ (none) (ST x z))) 
  (hF : R_X9_pairs s_X9_pairs a1 a2 a3 a4 m = some z) : JC g m_X9_pairs d 0 0 [.ref 80, .int a1, .int a2, .int a3, .int a4] (ST x m) (EQ (none) (ST x z)) := by
  refine JC.of (by decide +kernel) (Nat.le_of_ble_eq_true rfl) ?_
  change J g m_X9_pairs d 0 0 0 [(0, .ref 80), (1, .int a1), (2, .int a2), (3, .int a3), (4, .int a4)] [] (ST x m) 0 0 (EQ (none) (ST x z))
  unfold R_X9_pairs at hF
  refine J_iload_n (j := 1) dX9_pairs_0 rfl rfl ?_
  refine J_iload_n (j := 2) dX9_pairs_1 rfl rfl ?_
  refine J_icmp_ne (tgt := 58) dX9_pairs_2 (by decide) (fun q1 => ?_) (fun q1 => ?_)
  · rw [if_neg q1] at hF
    refine J_iconst (v := 0) dX9_pairs_58 (by decide) ?_
    refine J_istore (L' := [(5, .int 0), (0, .ref 80), (1, .int a1), (2, .int a2), (3, .int a3), (4, .int a4)]) dX9_pairs_59 (by decide) rfl ?_
    refine J_sub [1, 2, 3, 4, 5, 0] rfl ?_
    exact Sf_X9_pairs_61 hd hs_s_X9_pairs _ _ _ _ _ _ _ _ hF
  · rw [if_pos q1] at hF
    refine J_aload_n (j := 0) dX9_pairs_5 rfl rfl ?_
    refine JM_getI fl_WithOneHandModel_273_8 dX9_pairs_6 c_80 rfl ?_
    refine J_if_lt (tgt := 22) dX9_pairs_9 (by decide) (fun q11 => ?_) (fun q11 => ?_)
    · rw [if_pos q11] at hF
      refine J_sub [0, 2, 4] rfl ?_
      exact SB_X9_pairs_22 hd hs_s_X9_pairs hF
    · rw [if_neg q11] at hF
      refine J_iload (j := 4) dX9_pairs_12 rfl ?_
      refine J_aload_n (j := 0) dX9_pairs_14 rfl rfl ?_
      refine JM_getI fl_WithOneHandModel_273_8 dX9_pairs_15 c_80 rfl ?_
      refine J_icmp_lt (tgt := 22) dX9_pairs_18 (by decide) (fun q16 => ?_) (fun q16 => ?_)
      · rw [if_pos q16] at hF
        refine J_sub [0, 2, 4] rfl ?_
        exact SB_X9_pairs_22 hd hs_s_X9_pairs hF
      · rw [if_neg q16] at hF
        have e_r := Option.some.inj hF
        subst e_r
        exact J_return rfl dX9_pairs_21 ⟨rfl, rfl⟩
def G_X9_pairs : Nat → (Int32 → Int32 → Int32 → Int32 → MM → Option MM)
  | 0 => fun _ _ _ _ _ => none
  | n + 1 => R_X9_pairs (G_X9_pairs n)
theorem SG_X9_pairs {g : GC} {x : MX} : ∀ n : Nat, (∀ (d : Nat), n + 108 ≤ d → ∀ (a1 : Int32) (a2 : Int32) (a3 : Int32) (a4 : Int32) (m : MM) (z : MM), G_X9_pairs n a1 a2 a3 a4 m = some z → JC g m_X9_pairs d 0 0 [.ref 80, .int a1, .int a2, .int a3, .int a4] (ST x m) (EQ (none) (ST x z))) := by
  intro n
  induction n with
  | zero =>
    exact fun d hd _ _ _ _ _ _ hF => absurd hF (fun q => by cases q)
  | succ n ih =>
    exact fun d hd _ _ _ _ _ _  hF => SR_X9_pairs (nn := n) (by omega) ih  hF
def f_X9_pairs (a1 : Int32) (a2 : Int32) (a3 : Int32) (a4 : Int32) (m : MM) : Option MM := G_X9_pairs RF a1 a2 a3 a4 m
theorem S_X9_pairs {g : GC} {d : Nat} {a1 : Int32} {a2 : Int32} {a3 : Int32} {a4 : Int32} {x : MX} {m : MM} {z : MM} (hd : 208 ≤ d) 
  (hF : f_X9_pairs a1 a2 a3 a4 m = some z) : JC g m_X9_pairs d 0 0 [.ref 80, .int a1, .int a2, .int a3, .int a4] (ST x m) (EQ (none) (ST x z)) := (SG_X9_pairs RF) d (by unfold RF; omega) _ _ _ _ _ _  hF
def f_X9_paired (a1 : Int32) (a2 : Int32) (m : MM) : Option (Int32 × MM) :=
  if (f_X9_isIn a1 0 (mi m 80 1)) = true then
  if (f_X9_isIn a2 (-1) (a1 - 1)) = true then
  if a1 ≤ (mi m 80 0) then
  letx (ms m 80 36 (-1)) (fun m4 =>
  ob (f_X9_pairs 0 a1 0 0 m4) (fun m5 =>
  if 0 ≤ a2 then
  if inb a2 6 = true then
  some (mi m5 101 (ix a2), m5)
  else none
  else
  some (mi m5 80 36, m5)))
  else
  some ((-2), m)
  else
  some ((-1), m)
  else
  some ((-1), m)
theorem S_X9_paired {g : GC} {d : Nat} {a1 : Int32} {a2 : Int32} {x : MX} {m : MM} {r : Int32} {z : MM} (hd : 209 ≤ d) 
  (hF : f_X9_paired a1 a2 m = some (r, z)) : JC g m_X9_paired d 0 0 [.ref 80, .int a1, .int a2] (ST x m) (EQ (some (.int r)) (ST x z)) := by
  refine JC.of (by decide +kernel) (Nat.le_of_ble_eq_true rfl) ?_
  change J g m_X9_paired d 0 0 0 [(0, .ref 80), (1, .int a1), (2, .int a2)] [] (ST x m) 0 0 (EQ (some (.int r)) (ST x z))
  unfold f_X9_paired at hF
  refine J_aload_n (j := 0) dX9_paired_0 rfl rfl ?_
  refine J_iload_n (j := 1) dX9_paired_1 rfl rfl ?_
  refine J_iconst (v := 0) dX9_paired_2 (by decide) ?_
  refine J_aload_n (j := 0) dX9_paired_3 rfl rfl ?_
  refine JM_getI fl_WithOneHandModel_111_8 dX9_paired_4 c_80 rfl ?_
  refine JM_callVi (As := [.int a1, .int 0, .int (mi m 80 1)]) (S := []) lkV_WithOneHandModel_114_X9_isIn rfl (by decide) dX9_paired_7 c_80 (S_X9_isIn (by omega) rfl) (by omega) rfl rfl (Nat.le_of_ble_eq_true rfl) rfl ?_
  refine J_ifb_eq (tgt := 25) dX9_paired_10 (by decide) (fun q1 => ?_) (fun q1 => ?_)
  · rw [if_neg q1] at hF
    refine J_iconst (v := (-1)) dX9_paired_25 (by decide) ?_
    obtain ⟨e_r, e_z⟩ := someP hF
    subst e_r
    subst e_z
    exact J_ireturn rfl rfl dX9_paired_26 ⟨rfl, rfl⟩
  · rw [if_pos q1] at hF
    refine J_aload_n (j := 0) dX9_paired_13 rfl rfl ?_
    refine J_iload_n (j := 2) dX9_paired_14 rfl rfl ?_
    refine J_iconst (v := (-1)) dX9_paired_15 (by decide) ?_
    refine J_iload_n (j := 1) dX9_paired_16 rfl rfl ?_
    refine J_iconst (v := 1) dX9_paired_17 (by decide) ?_
    refine J_isub dX9_paired_18 ?_
    refine JM_callVi (As := [.int a2, .int (-1), .int (a1 - 1)]) (S := []) lkV_WithOneHandModel_114_X9_isIn rfl (by decide) dX9_paired_19 c_80 (S_X9_isIn (by omega) rfl) (by omega) rfl rfl (Nat.le_of_ble_eq_true rfl) rfl ?_
    refine J_ifb_ne (tgt := 27) dX9_paired_22 (by decide) (fun q2 => ?_) (fun q2 => ?_)
    · rw [if_pos q2] at hF
      refine J_iload_n (j := 1) dX9_paired_27 rfl rfl ?_
      refine J_aload_n (j := 0) dX9_paired_28 rfl rfl ?_
      refine JM_getI fl_WithOneHandModel_108_8 dX9_paired_29 c_80 rfl ?_
      refine J_icmp_le (tgt := 38) dX9_paired_32 (by decide) (fun q3 => ?_) (fun q3 => ?_)
      · rw [if_pos q3] at hF
        refine J_aload_n (j := 0) dX9_paired_38 rfl rfl ?_
        refine J_iconst (v := (-1)) dX9_paired_39 (by decide) ?_
        obtain ⟨m4, e_m4, hF⟩ := letx_eq hF
        refine JM_putI fl_WithOneHandModel_273_8 dX9_paired_40 c_80 rfl rfl rfl ?_
        rw [← e_m4]
        refine J_aload_n (j := 0) dX9_paired_43 rfl rfl ?_
        refine J_iconst (v := 0) dX9_paired_44 (by decide) ?_
        refine J_iload_n (j := 1) dX9_paired_45 rfl rfl ?_
        refine J_iconst (v := 0) dX9_paired_46 (by decide) ?_
        refine J_iconst (v := 0) dX9_paired_47 (by decide) ?_
        obtain ⟨m5, h6, hF⟩ := ob_some hF
        refine JM_callVv (As := [.int 0, .int a1, .int 0, .int 0]) (S := []) lkV_WithOneHandModel_279_X9_pairs rfl (by decide) dX9_paired_48 c_80 (S_X9_pairs (by omega) h6) (by omega) rfl rfl (Nat.le_of_ble_eq_true rfl) rfl ?_
        refine J_iload_n (j := 2) dX9_paired_51 rfl rfl ?_
        refine J_if_ge (tgt := 62) dX9_paired_52 (by decide) (fun q7 => ?_) (fun q7 => ?_)
        · rw [if_pos q7] at hF
          refine J_aload_n (j := 0) dX9_paired_62 rfl rfl ?_
          refine JM_getR (r := 101) fl_WithOneHandModel_74_8 dX9_paired_63 c_80 rfl rfl ?_
          refine J_iload_n (j := 2) dX9_paired_66 rfl rfl ?_
          obtain ⟨b8, hF⟩ := chk hF
          refine JM_iald (j := ix a2) dX9_paired_67 c_101 (inb_vp b8) rfl ?_
          obtain ⟨e_r, e_z⟩ := someP hF
          subst e_r
          subst e_z
          exact J_ireturn rfl rfl dX9_paired_68 ⟨rfl, rfl⟩
        · rw [if_neg q7] at hF
          refine J_aload_n (j := 0) dX9_paired_55 rfl rfl ?_
          refine JM_getI fl_WithOneHandModel_273_8 dX9_paired_56 c_80 rfl ?_
          refine J_goto (tgt := 68) dX9_paired_59 (by decide) ?_
          obtain ⟨e_r, e_z⟩ := someP hF
          subst e_r
          subst e_z
          exact J_ireturn rfl rfl dX9_paired_68 ⟨rfl, rfl⟩
      · rw [if_neg q3] at hF
        refine J_bipush (v := (-2)) dX9_paired_35 (by decide) ?_
        obtain ⟨e_r, e_z⟩ := someP hF
        subst e_r
        subst e_z
        exact J_ireturn rfl rfl dX9_paired_37 ⟨rfl, rfl⟩
    · rw [if_neg q2] at hF
      refine J_iconst (v := (-1)) dX9_paired_25 (by decide) ?_
      obtain ⟨e_r, e_z⟩ := someP hF
      subst e_r
      subst e_z
      exact J_ireturn rfl rfl dX9_paired_26 ⟨rfl, rfl⟩
def f_X8_bothCount (x : MX) : Int32 :=
  imin (xi x 5 12) (xi x 5 13)
theorem S_X8_bothCount {g : GC} {d : Nat}  {x : MX} {m : MM} {r : Int32} (hd : 1 ≤ d) 
  (hF : f_X8_bothCount x = r) : JC g m_X8_bothCount d 0 0 [.ref 5] (ST x m) (EQ (some (.int r)) (ST x m)) := by
  refine JC.of (by decide +kernel) (Nat.le_of_ble_eq_true rfl) ?_
  change J g m_X8_bothCount d 0 0 0 [(0, .ref 5)] [] (ST x m) 0 0 (EQ (some (.int r)) (ST x m))
  unfold f_X8_bothCount at hF
  refine J_aload_n (j := 0) dX8_bothCount_0 rfl rfl ?_
  refine JX_getI fl_WithOneHand_80_7 dX8_bothCount_1 c_5 rfl ?_
  refine J_aload_n (j := 0) dX8_bothCount_4 rfl rfl ?_
  refine JX_getI fl_WithOneHand_84_7 dX8_bothCount_5 c_5 rfl ?_
  refine J_mmin (S := []) (tb 531 (by decide +kernel)) dX8_bothCount_8 (Nat.le_of_ble_eq_true rfl) ?_
  subst hF
  exact J_ireturn rfl rfl dX8_bothCount_11 ⟨rfl, rfl⟩
def B_X7_takesBehind_41_40 (K5 : Int32 → Int32 → Int32 → Int32 → Option Int32) (v1 : Int32) (v2 : Int32) (v3 : Int32) (v4 : Int32) (x : MX) : Option Int32 :=
  K5 v1 v2 v3 (v4 + 1)
theorem SB_X7_takesBehind_41_40 {g : GC} {d : Nat} {K5 : Int32 → Int32 → Int32 → Int32 → Option Int32} {v1 : Int32} {v2 : Int32} {v3 : Int32} {v4 : Int32} {x : MX} {m : MM} {r : Int32} (hd : 1 ≤ d) (hK5 : ∀ (v1 : Int32) (v2 : Int32) (v3 : Int32) (v4 : Int32) (r : Int32), K5 v1 v2 v3 v4 = some r → J g m_X7_takesBehind d 0 0 5 [(0, .ref 41), (1, .int v1), (2, .int v2), (3, .int v3), (4, .int v4)] [] (ST x m) 0 0 (EQ (some (.int r)) (ST x m)))
  (hF : B_X7_takesBehind_41_40 K5 v1 v2 v3 v4 x = some r) : J g m_X7_takesBehind d 0 0 40 [(0, .ref 41), (1, .int v1), (2, .int v2), (3, .int v3), (4, .int v4)] [] (ST x m) 0 0 (EQ (some (.int r)) (ST x m)) := by
  unfold B_X7_takesBehind_41_40 at hF
  refine J_iinc (j := 4) (v := v4 + 1) (L' := [(4, .int (v4 + 1)), (0, .ref 41), (1, .int v1), (2, .int v2), (3, .int v3)]) dX7_takesBehind_40 rfl rfl (by decide) rfl ?_
  refine J_goto (tgt := 5) dX7_takesBehind_43 (by decide) ?_
  refine J_sub [1, 2, 3, 4, 0] rfl ?_
  exact hK5 _ _ _ _ _  hF
def B_X7_takesBehind_41_5 (K5 : Int32 → Int32 → Int32 → Int32 → Option Int32) (v1 : Int32) (v2 : Int32) (v3 : Int32) (v4 : Int32) (x : MX) : Option Int32 :=
  if 6 ≤ v4 then
  if 6 ≤ v3 then
  some 0
  else
  if inb v2 6 = true then
  if inb v3 6 = true then
  some (xi x (43 + ix v2) (ix v3))
  else none
  else none
  else
  if ((v1 >>> (v4 &&& 31)) &&& 1) = 0 then
  B_X7_takesBehind_41_40 K5 v1 v2 v3 v4 x
  else
  if inb v4 6 = true then
  if inb v2 6 = true then
  if (xi x 50 (ix v4)) = (xi x 50 (ix v2)) then
  B_X7_takesBehind_41_40 K5 v1 v2 (v3 + 1) v4 x
  else
  B_X7_takesBehind_41_40 K5 v1 v2 v3 v4 x
  else none
  else none
theorem SB_X7_takesBehind_41_5 {g : GC} {d : Nat} {K5 : Int32 → Int32 → Int32 → Int32 → Option Int32} {v1 : Int32} {v2 : Int32} {v3 : Int32} {v4 : Int32} {x : MX} {m : MM} {r : Int32} (hd : 1 ≤ d) (hK5 : ∀ (v1 : Int32) (v2 : Int32) (v3 : Int32) (v4 : Int32) (r : Int32), K5 v1 v2 v3 v4 = some r → J g m_X7_takesBehind d 0 0 5 [(0, .ref 41), (1, .int v1), (2, .int v2), (3, .int v3), (4, .int v4)] [] (ST x m) 0 0 (EQ (some (.int r)) (ST x m)))
  (hF : B_X7_takesBehind_41_5 K5 v1 v2 v3 v4 x = some r) : J g m_X7_takesBehind d 0 0 5 [(0, .ref 41), (1, .int v1), (2, .int v2), (3, .int v3), (4, .int v4)] [] (ST x m) 0 0 (EQ (some (.int r)) (ST x m)) := by
  unfold B_X7_takesBehind_41_5 at hF
  refine J_iload (j := 4) dX7_takesBehind_5 rfl ?_
  refine J_bipush (v := 6) dX7_takesBehind_7 (by decide) ?_
  refine J_icmp_ge (tgt := 46) dX7_takesBehind_9 (by decide) (fun q1 => ?_) (fun q1 => ?_)
  · rw [if_pos q1] at hF
    refine J_iload_n (j := 3) dX7_takesBehind_46 rfl rfl ?_
    refine J_bipush (v := 6) dX7_takesBehind_47 (by decide) ?_
    refine J_icmp_ge (tgt := 63) dX7_takesBehind_49 (by decide) (fun q2 => ?_) (fun q2 => ?_)
    · rw [if_pos q2] at hF
      refine J_iconst (v := 0) dX7_takesBehind_63 (by decide) ?_
      have e_r := Option.some.inj hF
      subst e_r
      exact J_ireturn rfl rfl dX7_takesBehind_64 ⟨rfl, rfl⟩
    · rw [if_neg q2] at hF
      refine J_aload_n (j := 0) dX7_takesBehind_52 rfl rfl ?_
      refine JX_getR (r := 42) fl_Turns_13_6 dX7_takesBehind_53 c_41 rfl rfl ?_
      refine J_iload_n (j := 2) dX7_takesBehind_56 rfl rfl ?_
      obtain ⟨b3, hF⟩ := chk hF
      refine JX_aald (j := ix v2) (r := 43 + ix v2) (by decide) dX7_takesBehind_57 c_42 (inb_vp b3) rfl (rw_42 _ (inb_lt b3)) ?_
      refine J_iload_n (j := 3) dX7_takesBehind_58 rfl rfl ?_
      obtain ⟨b4, hF⟩ := chk hF
      refine JX_iald (j := ix v3) dX7_takesBehind_59 (cr_42 (inb_lt b3)) (inb_vp b4) rfl ?_
      refine J_goto (tgt := 64) dX7_takesBehind_60 (by decide) ?_
      have e_r := Option.some.inj hF
      subst e_r
      exact J_ireturn rfl rfl dX7_takesBehind_64 ⟨rfl, rfl⟩
  · rw [if_neg q1] at hF
    refine J_iload_n (j := 1) dX7_takesBehind_12 rfl rfl ?_
    refine J_iload (j := 4) dX7_takesBehind_13 rfl ?_
    refine J_ishr dX7_takesBehind_15 ?_
    refine J_iconst (v := 1) dX7_takesBehind_16 (by decide) ?_
    refine J_iand dX7_takesBehind_17 ?_
    refine J_if_eq (tgt := 40) dX7_takesBehind_18 (by decide) (fun q5 => ?_) (fun q5 => ?_)
    · rw [if_pos q5] at hF
      exact SB_X7_takesBehind_41_40 hd hK5 hF
    · rw [if_neg q5] at hF
      refine J_aload_n (j := 0) dX7_takesBehind_21 rfl rfl ?_
      refine JX_getR (r := 50) fl_Turns_7_6 dX7_takesBehind_22 c_41 rfl rfl ?_
      refine J_iload (j := 4) dX7_takesBehind_25 rfl ?_
      obtain ⟨b6, hF⟩ := chk hF
      refine JX_iald (j := ix v4) dX7_takesBehind_27 c_50 (inb_vp b6) rfl ?_
      refine J_aload_n (j := 0) dX7_takesBehind_28 rfl rfl ?_
      refine JX_getR (r := 50) fl_Turns_7_6 dX7_takesBehind_29 c_41 rfl rfl ?_
      refine J_iload_n (j := 2) dX7_takesBehind_32 rfl rfl ?_
      obtain ⟨b7, hF⟩ := chk hF
      refine JX_iald (j := ix v2) dX7_takesBehind_33 c_50 (inb_vp b7) rfl ?_
      refine J_icmp_ne (tgt := 40) dX7_takesBehind_34 (by decide) (fun q8 => ?_) (fun q8 => ?_)
      · rw [if_neg q8] at hF
        exact SB_X7_takesBehind_41_40 hd hK5 hF
      · rw [if_pos q8] at hF
        refine J_iinc (j := 3) (v := v3 + 1) (L' := [(3, .int (v3 + 1)), (0, .ref 41), (1, .int v1), (2, .int v2), (4, .int v4)]) dX7_takesBehind_37 rfl rfl (by decide) rfl ?_
        refine J_sub [1, 2, 3, 0, 4] rfl ?_
        exact SB_X7_takesBehind_41_40 hd hK5 hF
def f_X7_takesBehind_41_5 (x : MX) : Nat → Int32 → Int32 → Int32 → Int32 → Option Int32
  | 0 => fun _ _ _ _ => none
  | n + 1 => fun v1 v2 v3 v4 => B_X7_takesBehind_41_5 (f_X7_takesBehind_41_5 x n) v1 v2 v3 v4 x
theorem Sf_X7_takesBehind_41_5 {g : GC} {d : Nat} {x : MX} {m : MM} (hd : 1 ≤ d)  : ∀ (n : Nat) (v1 : Int32) (v2 : Int32) (v3 : Int32) (v4 : Int32) (r : Int32), f_X7_takesBehind_41_5 x n v1 v2 v3 v4 = some r → J g m_X7_takesBehind d 0 0 5 [(0, .ref 41), (1, .int v1), (2, .int v2), (3, .int v3), (4, .int v4)] [] (ST x m) 0 0 (EQ (some (.int r)) (ST x m)) := by
  intro n
  induction n with
  | zero => intro v1 v2 v3 v4 r  hF; exact absurd hF (fun q => by cases q)
  | succ n ih =>
    intro v1 v2 v3 v4 r  hF
    exact SB_X7_takesBehind_41_5 hd (fun v1 v2 v3 v4 r  hF => ih v1 v2 v3 v4 r  hF) hF
def f_X7_takesBehind_41 (a1 : Int32) (a2 : Int32) (x : MX) : Option Int32 :=
  f_X7_takesBehind_41_5 x LF a1 a2 0 0
theorem S_X7_takesBehind_41 {g : GC} {d : Nat} {a1 : Int32} {a2 : Int32} {x : MX} {m : MM} {r : Int32} (hd : 1 ≤ d) 
  (hF : f_X7_takesBehind_41 a1 a2 x = some r) : JC g m_X7_takesBehind d 0 0 [.ref 41, .int a1, .int a2] (ST x m) (EQ (some (.int r)) (ST x m)) := by
  refine JC.of (by decide +kernel) (Nat.le_of_ble_eq_true rfl) ?_
  change J g m_X7_takesBehind d 0 0 0 [(0, .ref 41), (1, .int a1), (2, .int a2)] [] (ST x m) 0 0 (EQ (some (.int r)) (ST x m))
  unfold f_X7_takesBehind_41 at hF
  refine J_iconst (v := 0) dX7_takesBehind_0 (by decide) ?_
  refine J_istore_n (L' := [(3, .int 0), (0, .ref 41), (1, .int a1), (2, .int a2)]) dX7_takesBehind_1 rfl (by decide) rfl ?_
  refine J_iconst (v := 0) dX7_takesBehind_2 (by decide) ?_
  refine J_istore (L' := [(4, .int 0), (3, .int 0), (0, .ref 41), (1, .int a1), (2, .int a2)]) dX7_takesBehind_3 (by decide) rfl ?_
  refine J_sub [2, 3, 4, 1, 0] rfl ?_
  exact Sf_X7_takesBehind_41_5 hd _ _ _ _ _ _ hF
def f_X5_sumWith_41 (a1 : Int32) (a2 : Int32) (x : MX) : Option Int32 :=
  if 0 ≤ a2 then
  ob (f_X7_takesBehind_41 a1 a2 x) (fun r2 =>
  if inb (a1 ||| ((1 : Int32) <<< (a2 &&& 31))) 64 = true then
  some (r2 + (xi x 49 (ix (a1 ||| ((1 : Int32) <<< (a2 &&& 31))))))
  else none)
  else
  some 1000000
theorem S_X5_sumWith_41 {g : GC} {d : Nat} {a1 : Int32} {a2 : Int32} {x : MX} {m : MM} {r : Int32} (hd : 2 ≤ d) 
  (hF : f_X5_sumWith_41 a1 a2 x = some r) : JC g m_X5_sumWith d 0 0 [.ref 41, .int a1, .int a2] (ST x m) (EQ (some (.int r)) (ST x m)) := by
  refine JC.of (by decide +kernel) (Nat.le_of_ble_eq_true rfl) ?_
  change J g m_X5_sumWith d 0 0 0 [(0, .ref 41), (1, .int a1), (2, .int a2)] [] (ST x m) 0 0 (EQ (some (.int r)) (ST x m))
  unfold f_X5_sumWith_41 at hF
  refine J_iload_n (j := 2) dX5_sumWith_0 rfl rfl ?_
  refine J_if_ge (tgt := 9) dX5_sumWith_1 (by decide) (fun q1 => ?_) (fun q1 => ?_)
  · rw [if_pos q1] at hF
    refine J_aload_n (j := 0) dX5_sumWith_9 rfl rfl ?_
    refine J_iload_n (j := 1) dX5_sumWith_10 rfl rfl ?_
    refine J_iload_n (j := 2) dX5_sumWith_11 rfl rfl ?_
    obtain ⟨r2, h3, hF⟩ := ob_some hF
    refine JX_callAi (As := [.int a1, .int a2]) (S := []) lkA_Plan_47_X7_takesBehind_6 rfl (by decide) dX5_sumWith_12 c_41 (S_X7_takesBehind_41 (by omega) h3) (by omega) rfl rfl (Nat.le_of_ble_eq_true rfl) rfl ?_
    refine J_aload_n (j := 0) dX5_sumWith_15 rfl rfl ?_
    refine JX_getR (r := 49) fl_Plan_14_6 dX5_sumWith_16 c_41 rfl rfl ?_
    refine J_iload_n (j := 1) dX5_sumWith_19 rfl rfl ?_
    refine J_iconst (v := 1) dX5_sumWith_20 (by decide) ?_
    refine J_iload_n (j := 2) dX5_sumWith_21 rfl rfl ?_
    refine J_ishl dX5_sumWith_22 ?_
    refine J_ior dX5_sumWith_23 ?_
    obtain ⟨b4, hF⟩ := chk hF
    refine JX_iald (j := ix (a1 ||| ((1 : Int32) <<< (a2 &&& 31)))) dX5_sumWith_24 c_49 (inb_vp b4) rfl ?_
    refine J_iadd dX5_sumWith_25 ?_
    have e_r := Option.some.inj hF
    subst e_r
    exact J_ireturn rfl rfl dX5_sumWith_26 ⟨rfl, rfl⟩
  · rw [if_neg q1] at hF
    refine J_ldc (v := 1000000) (tb 572 (by decide +kernel)) dX5_sumWith_4 ?_
    refine J_goto (tgt := 26) dX5_sumWith_6 (by decide) ?_
    have e_r := Option.some.inj hF
    subst e_r
    exact J_ireturn rfl rfl dX5_sumWith_26 ⟨rfl, rfl⟩
def B_X5_firstBest_41_50 (K8 : Int32 → Int32 → Int32 → Int32 → Option Int32) (v1 : Int32) (v2 : Int32) (v3 : Int32) (v4 : Int32) (x : MX) : Option Int32 :=
  K8 v1 v2 v3 (v4 + 1)
theorem SB_X5_firstBest_41_50 {g : GC} {d : Nat} {K8 : Int32 → Int32 → Int32 → Int32 → Option Int32} {v1 : Int32} {v2 : Int32} {v3 : Int32} {v4 : Int32} {x : MX} {m : MM} {r : Int32} (hd : 3 ≤ d) (hK8 : ∀ (v1 : Int32) (v2 : Int32) (v3 : Int32) (v4 : Int32) (r : Int32), K8 v1 v2 v3 v4 = some r → J g m_X5_firstBest d 0 0 8 [(0, .ref 41), (1, .int v1), (2, .int v2), (3, .int v3), (4, .int v4)] [] (ST x m) 0 0 (EQ (some (.int r)) (ST x m)))
  (hF : B_X5_firstBest_41_50 K8 v1 v2 v3 v4 x = some r) : J g m_X5_firstBest d 0 0 50 [(0, .ref 41), (1, .int v1), (2, .int v2), (3, .int v3), (4, .int v4)] [] (ST x m) 0 0 (EQ (some (.int r)) (ST x m)) := by
  unfold B_X5_firstBest_41_50 at hF
  refine J_iinc (j := 4) (v := v4 + 1) (L' := [(4, .int (v4 + 1)), (0, .ref 41), (1, .int v1), (2, .int v2), (3, .int v3)]) dX5_firstBest_50 rfl rfl (by decide) rfl ?_
  refine J_goto (tgt := 8) dX5_firstBest_53 (by decide) ?_
  refine J_sub [1, 2, 3, 4, 0] rfl ?_
  exact hK8 _ _ _ _ _  hF
def B_X5_firstBest_41_8 (K8 : Int32 → Int32 → Int32 → Int32 → Option Int32) (v1 : Int32) (v2 : Int32) (v3 : Int32) (v4 : Int32) (x : MX) : Option Int32 :=
  if (xi x 41 2) ≤ v4 then
  some v2
  else
  if ((v1 >>> (v4 &&& 31)) &&& 1) = 0 then
  ob (f_X5_sumWith_41 v1 v4 x) (fun r3 =>
  if v3 ≤ r3 then
  B_X5_firstBest_41_50 K8 v1 v2 v3 v4 x
  else
  B_X5_firstBest_41_50 K8 v1 v4 r3 v4 x)
  else
  B_X5_firstBest_41_50 K8 v1 v2 v3 v4 x
theorem SB_X5_firstBest_41_8 {g : GC} {d : Nat} {K8 : Int32 → Int32 → Int32 → Int32 → Option Int32} {v1 : Int32} {v2 : Int32} {v3 : Int32} {v4 : Int32} {x : MX} {m : MM} {r : Int32} (hd : 3 ≤ d) (hK8 : ∀ (v1 : Int32) (v2 : Int32) (v3 : Int32) (v4 : Int32) (r : Int32), K8 v1 v2 v3 v4 = some r → J g m_X5_firstBest d 0 0 8 [(0, .ref 41), (1, .int v1), (2, .int v2), (3, .int v3), (4, .int v4)] [] (ST x m) 0 0 (EQ (some (.int r)) (ST x m)))
  (hF : B_X5_firstBest_41_8 K8 v1 v2 v3 v4 x = some r) : J g m_X5_firstBest d 0 0 8 [(0, .ref 41), (1, .int v1), (2, .int v2), (3, .int v3), (4, .int v4)] [] (ST x m) 0 0 (EQ (some (.int r)) (ST x m)) := by
  unfold B_X5_firstBest_41_8 at hF
  refine J_iload (j := 4) dX5_firstBest_8 rfl ?_
  refine J_aload_n (j := 0) dX5_firstBest_10 rfl rfl ?_
  refine JX_getI fl_Plan_27_6 dX5_firstBest_11 c_41 rfl ?_
  refine J_icmp_ge (tgt := 56) dX5_firstBest_14 (by decide) (fun q1 => ?_) (fun q1 => ?_)
  · rw [if_pos q1] at hF
    refine J_iload_n (j := 2) dX5_firstBest_56 rfl rfl ?_
    have e_r := Option.some.inj hF
    subst e_r
    exact J_ireturn rfl rfl dX5_firstBest_57 ⟨rfl, rfl⟩
  · rw [if_neg q1] at hF
    refine J_iload_n (j := 1) dX5_firstBest_17 rfl rfl ?_
    refine J_iload (j := 4) dX5_firstBest_18 rfl ?_
    refine J_ishr dX5_firstBest_20 ?_
    refine J_iconst (v := 1) dX5_firstBest_21 (by decide) ?_
    refine J_iand dX5_firstBest_22 ?_
    refine J_if_eq (tgt := 29) dX5_firstBest_23 (by decide) (fun q2 => ?_) (fun q2 => ?_)
    · rw [if_pos q2] at hF
      refine J_aload_n (j := 0) dX5_firstBest_29 rfl rfl ?_
      refine J_iload_n (j := 1) dX5_firstBest_30 rfl rfl ?_
      refine J_iload (j := 4) dX5_firstBest_31 rfl ?_
      obtain ⟨r3, h4, hF⟩ := ob_some hF
      refine JX_callUi (As := [.int v1, .int v4]) (S := []) lkU_Plan_43_X5_sumWith_6 rfl (by decide) dX5_firstBest_33 c_41 (S_X5_sumWith_41 (by omega) h4) (by omega) rfl rfl (Nat.le_of_ble_eq_true rfl) rfl ?_
      refine J_istore (L' := [(5, .int r3), (0, .ref 41), (1, .int v1), (2, .int v2), (3, .int v3), (4, .int v4)]) dX5_firstBest_36 (by decide) rfl ?_
      refine J_iload (j := 0) dX5_firstBest_38 rfl ?_
      refine J_iload_n (j := 4) dX5_firstBest_40 rfl rfl ?_
      refine J_icmp_ge (tgt := 50) dX5_firstBest_41 (by decide) (fun q5 => ?_) (fun q5 => ?_)
      · rw [if_pos q5] at hF
        refine J_sub [1, 2, 3, 4, 5] rfl ?_
        exact SB_X5_firstBest_41_50 hd hK8 hF
      · rw [if_neg q5] at hF
        refine J_iload (j := 5) dX5_firstBest_44 rfl ?_
        refine J_istore_n (L' := [(2, .int v4), (5, .int r3), (0, .ref 41), (1, .int v1), (3, .int v3), (4, .int v4)]) dX5_firstBest_46 rfl (by decide) rfl ?_
        refine J_iload (j := 1) dX5_firstBest_47 rfl ?_
        refine J_istore_n (L' := [(3, .int r3), (2, .int v4), (5, .int r3), (0, .ref 41), (1, .int v1), (4, .int v4)]) dX5_firstBest_49 rfl (by decide) rfl ?_
        refine J_sub [3, 4, 1, 0, 5] rfl ?_
        exact SB_X5_firstBest_41_50 hd hK8 hF
    · rw [if_neg q2] at hF
      refine J_goto (tgt := 50) dX5_firstBest_26 (by decide) ?_
      exact SB_X5_firstBest_41_50 hd hK8 hF
def f_X5_firstBest_41_8 (x : MX) : Nat → Int32 → Int32 → Int32 → Int32 → Option Int32
  | 0 => fun _ _ _ _ => none
  | n + 1 => fun v1 v2 v3 v4 => B_X5_firstBest_41_8 (f_X5_firstBest_41_8 x n) v1 v2 v3 v4 x
theorem Sf_X5_firstBest_41_8 {g : GC} {d : Nat} {x : MX} {m : MM} (hd : 3 ≤ d)  : ∀ (n : Nat) (v1 : Int32) (v2 : Int32) (v3 : Int32) (v4 : Int32) (r : Int32), f_X5_firstBest_41_8 x n v1 v2 v3 v4 = some r → J g m_X5_firstBest d 0 0 8 [(0, .ref 41), (1, .int v1), (2, .int v2), (3, .int v3), (4, .int v4)] [] (ST x m) 0 0 (EQ (some (.int r)) (ST x m)) := by
  intro n
  induction n with
  | zero => intro v1 v2 v3 v4 r  hF; exact absurd hF (fun q => by cases q)
  | succ n ih =>
    intro v1 v2 v3 v4 r  hF
    exact SB_X5_firstBest_41_8 hd (fun v1 v2 v3 v4 r  hF => ih v1 v2 v3 v4 r  hF) hF
def f_X5_firstBest_41 (a1 : Int32) (x : MX) : Option Int32 :=
  f_X5_firstBest_41_8 x LF a1 (-1) 1000000 0
theorem S_X5_firstBest_41 {g : GC} {d : Nat} {a1 : Int32} {x : MX} {m : MM} {r : Int32} (hd : 3 ≤ d) 
  (hF : f_X5_firstBest_41 a1 x = some r) : JC g m_X5_firstBest d 0 0 [.ref 41, .int a1] (ST x m) (EQ (some (.int r)) (ST x m)) := by
  refine JC.of (by decide +kernel) (Nat.le_of_ble_eq_true rfl) ?_
  change J g m_X5_firstBest d 0 0 0 [(0, .ref 41), (1, .int a1)] [] (ST x m) 0 0 (EQ (some (.int r)) (ST x m))
  unfold f_X5_firstBest_41 at hF
  refine J_iconst (v := (-1)) dX5_firstBest_0 (by decide) ?_
  refine J_istore_n (L' := [(2, .int (-1)), (0, .ref 41), (1, .int a1)]) dX5_firstBest_1 rfl (by decide) rfl ?_
  refine J_ldc (v := 1000000) (tb 572 (by decide +kernel)) dX5_firstBest_2 ?_
  refine J_istore_n (L' := [(3, .int 1000000), (2, .int (-1)), (0, .ref 41), (1, .int a1)]) dX5_firstBest_4 rfl (by decide) rfl ?_
  refine J_iconst (v := 0) dX5_firstBest_5 (by decide) ?_
  refine J_istore (L' := [(4, .int 0), (3, .int 1000000), (2, .int (-1)), (0, .ref 41), (1, .int a1)]) dX5_firstBest_6 (by decide) rfl ?_
  refine J_sub [3, 4, 2, 1, 0] rfl ?_
  exact Sf_X5_firstBest_41_8 hd _ _ _ _ _ _ hF
