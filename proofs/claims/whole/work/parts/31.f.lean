def f_X8_search (a1 : Int32) (x : MX) : Option (Int64 × MX) :=
  if (-2) ≤ a1 then
  if (xi x 5 14) = 0 then
  some ((-2), x)
  else
  if a1 < (xi x 5 14) then
  ob (f_X8_sortSpots x) (fun x4 =>
  if a1 < 0 then
  ob (f_X8_meanOfLooking (xi x4 5 14) (a1 + 2) x4) (fun r7 =>
  some (r7, x4))
  else
  if inb a1 8 = true then
  some (Int32.toInt64 (xi x4 55 (ix a1)), x4)
  else none)
  else
  some ((-2), x)
  else
  some ((-9223372036854775808), x)
theorem S_X8_search {g : GC} {d : Nat} {a1 : Int32} {x : MX} {m : MM} {r : Int64} {z : MX} (hd : 3 ≤ d) 
  (hF : f_X8_search a1 x = some (r, z)) : JC g m_X8_search d 0 0 [.ref 5, .int a1] (ST x m) (EQ (some (.long r)) (ST z m)) := by
  refine JC.of (by decide +kernel) (Nat.le_of_ble_eq_true rfl) ?_
  change J g m_X8_search d 0 0 0 [(0, .ref 5), (1, .int a1)] [] (ST x m) 0 0 (EQ (some (.long r)) (ST z m))
  unfold f_X8_search at hF
  refine J_iload_n (j := 1) dX8_search_0 rfl rfl ?_
  refine J_bipush (v := (-2)) dX8_search_1 (by decide) ?_
  refine J_icmp_ge (tgt := 10) dX8_search_3 (by decide) (fun q1 => ?_) (fun q1 => ?_)
  · rw [if_pos q1] at hF
    refine J_aload_n (j := 0) dX8_search_10 rfl rfl ?_
    refine JX_getI fl_WithOneHand_106_7 dX8_search_11 c_5 rfl ?_
    refine J_if_eq (tgt := 25) dX8_search_14 (by decide) (fun q2 => ?_) (fun q2 => ?_)
    · rw [if_pos q2] at hF
      refine J_ldc2 (v := (-2)) (tb 667 (by decide +kernel)) dX8_search_25 ?_
      obtain ⟨e_r, e_z⟩ := someP hF
      subst e_r
      subst e_z
      exact J_lreturn rfl dX8_search_28 ⟨rfl, rfl⟩
    · rw [if_neg q2] at hF
      refine J_iload_n (j := 1) dX8_search_17 rfl rfl ?_
      refine J_aload_n (j := 0) dX8_search_18 rfl rfl ?_
      refine JX_getI fl_WithOneHand_106_7 dX8_search_19 c_5 rfl ?_
      refine J_icmp_lt (tgt := 29) dX8_search_22 (by decide) (fun q3 => ?_) (fun q3 => ?_)
      · rw [if_pos q3] at hF
        refine J_aload_n (j := 0) dX8_search_29 rfl rfl ?_
        obtain ⟨x4, h5, hF⟩ := ob_some hF
        refine JX_callVv (As := []) (S := []) lkV_WithOneHand_198_X8_sortSpots rfl (by decide) dX8_search_30 c_5 (S_X8_sortSpots (by omega) h5) (by omega) rfl rfl (Nat.le_of_ble_eq_true rfl) rfl ?_
        refine J_iload_n (j := 1) dX8_search_33 rfl rfl ?_
        refine J_if_lt (tgt := 47) dX8_search_34 (by decide) (fun q6 => ?_) (fun q6 => ?_)
        · rw [if_pos q6] at hF
          refine J_aload_n (j := 0) dX8_search_47 rfl rfl ?_
          refine J_aload_n (j := 0) dX8_search_48 rfl rfl ?_
          refine JX_getI fl_WithOneHand_106_7 dX8_search_49 c_5 rfl ?_
          refine J_iload_n (j := 1) dX8_search_52 rfl rfl ?_
          refine J_iconst (v := 2) dX8_search_53 (by decide) ?_
          refine J_iadd dX8_search_54 ?_
          obtain ⟨r7, h8, hF⟩ := ob_some hF
          refine JX_callVl (As := [.int (xi x4 5 14), .int (a1 + 2)]) (S := []) lkV_WithOneHand_201_X8_meanOfLooking rfl (by decide) dX8_search_55 c_5 (S_X8_meanOfLooking (by omega) h8) (by omega) rfl rfl (Nat.le_of_ble_eq_true rfl) rfl ?_
          obtain ⟨e_r, e_z⟩ := someP hF
          subst e_r
          subst e_z
          exact J_lreturn rfl dX8_search_58 ⟨rfl, rfl⟩
        · rw [if_neg q6] at hF
          refine J_aload_n (j := 0) dX8_search_37 rfl rfl ?_
          refine JX_getR (r := 55) fl_WithOneHand_62_7 dX8_search_38 c_5 rfl rfl ?_
          refine J_iload_n (j := 1) dX8_search_41 rfl rfl ?_
          obtain ⟨b9, hF⟩ := chk hF
          refine JX_iald (j := ix a1) dX8_search_42 c_55 (inb_vp b9) rfl ?_
          refine J_i2l dX8_search_43 ?_
          refine J_goto (tgt := 58) dX8_search_44 (by decide) ?_
          obtain ⟨e_r, e_z⟩ := someP hF
          subst e_r
          subst e_z
          exact J_lreturn rfl dX8_search_58 ⟨rfl, rfl⟩
      · rw [if_neg q3] at hF
        refine J_ldc2 (v := (-2)) (tb 667 (by decide +kernel)) dX8_search_25 ?_
        obtain ⟨e_r, e_z⟩ := someP hF
        subst e_r
        subst e_z
        exact J_lreturn rfl dX8_search_28 ⟨rfl, rfl⟩
  · rw [if_neg q1] at hF
    refine J_ldc2 (v := (-9223372036854775808)) (tb 638 (by decide +kernel)) dX8_search_6 ?_
    obtain ⟨e_r, e_z⟩ := someP hF
    subst e_r
    subst e_z
    exact J_lreturn rfl dX8_search_9 ⟨rfl, rfl⟩
def B_X9_nextSpot_56 (K4 : Int32 → Int32 → Int32 → Option Int32) (v1 : Int32) (v2 : Int32) (v3 : Int32) (m : MM) : Option Int32 :=
  K4 v1 v2 (v3 + 1)
theorem SB_X9_nextSpot_56 {g : GC} {d : Nat} {K4 : Int32 → Int32 → Int32 → Option Int32} {v1 : Int32} {v2 : Int32} {v3 : Int32} {x : MX} {m : MM} {r : Int32} (hd : 2 ≤ d) (hK4 : ∀ (v1 : Int32) (v2 : Int32) (v3 : Int32) (r : Int32), K4 v1 v2 v3 = some r → J g m_X9_nextSpot d 0 0 4 [(0, .ref 80), (1, .int v1), (2, .int v2), (3, .int v3)] [] (ST x m) 0 0 (EQ (some (.int r)) (ST x m)))
  (hF : B_X9_nextSpot_56 K4 v1 v2 v3 m = some r) : J g m_X9_nextSpot d 0 0 56 [(0, .ref 80), (1, .int v1), (2, .int v2), (3, .int v3)] [] (ST x m) 0 0 (EQ (some (.int r)) (ST x m)) := by
  unfold B_X9_nextSpot_56 at hF
  refine J_iinc (j := 3) (v := v3 + 1) (L' := [(3, .int (v3 + 1)), (0, .ref 80), (1, .int v1), (2, .int v2)]) dX9_nextSpot_56 rfl rfl (by decide) rfl ?_
  refine J_goto (tgt := 4) dX9_nextSpot_59 (by decide) ?_
  refine J_sub [1, 2, 3, 0] rfl ?_
  exact hK4 _ _ _ _  hF
def B_X9_nextSpot_54 (K4 : Int32 → Int32 → Int32 → Option Int32) (v1 : Int32) (v3 : Int32) (m : MM) : Option Int32 :=
  B_X9_nextSpot_56 K4 v1 v3 v3 m
theorem SB_X9_nextSpot_54 {g : GC} {d : Nat} {K4 : Int32 → Int32 → Int32 → Option Int32} {v1 : Int32} {v3 : Int32} {x : MX} {m : MM} {r : Int32} (hd : 2 ≤ d) (hK4 : ∀ (v1 : Int32) (v2 : Int32) (v3 : Int32) (r : Int32), K4 v1 v2 v3 = some r → J g m_X9_nextSpot d 0 0 4 [(0, .ref 80), (1, .int v1), (2, .int v2), (3, .int v3)] [] (ST x m) 0 0 (EQ (some (.int r)) (ST x m)))
  (hF : B_X9_nextSpot_54 K4 v1 v3 m = some r) : J g m_X9_nextSpot d 0 0 54 [(0, .ref 80), (1, .int v1), (3, .int v3)] [] (ST x m) 0 0 (EQ (some (.int r)) (ST x m)) := by
  unfold B_X9_nextSpot_54 at hF
  refine J_iload_n (j := 2) dX9_nextSpot_54 rfl rfl ?_
  refine J_istore_n (L' := [(2, .int v3), (0, .ref 80), (1, .int v1), (3, .int v3)]) dX9_nextSpot_55 rfl (by decide) rfl ?_
  refine J_sub [1, 2, 0, 3] rfl ?_
  exact SB_X9_nextSpot_56 hd hK4 hF
def B_X9_nextSpot_4 (K4 : Int32 → Int32 → Int32 → Option Int32) (v1 : Int32) (v2 : Int32) (v3 : Int32) (m : MM) : Option Int32 :=
  if (mi m 80 2) ≤ v3 then
  some v2
  else
  if (f_X9_has v1 v3) = true then
  B_X9_nextSpot_56 K4 v1 v2 v3 m
  else
  if v2 < 0 then
  B_X9_nextSpot_54 K4 v1 v3 m
  else
  if inb v3 8 = true then
  if inb v2 8 = true then
  if ((mi m 92 (ix v2)) * (mi m 91 (ix v3))) ≤ ((mi m 92 (ix v3)) * (mi m 91 (ix v2))) then
  B_X9_nextSpot_56 K4 v1 v2 v3 m
  else
  B_X9_nextSpot_54 K4 v1 v3 m
  else none
  else none
theorem SB_X9_nextSpot_4 {g : GC} {d : Nat} {K4 : Int32 → Int32 → Int32 → Option Int32} {v1 : Int32} {v2 : Int32} {v3 : Int32} {x : MX} {m : MM} {r : Int32} (hd : 2 ≤ d) (hK4 : ∀ (v1 : Int32) (v2 : Int32) (v3 : Int32) (r : Int32), K4 v1 v2 v3 = some r → J g m_X9_nextSpot d 0 0 4 [(0, .ref 80), (1, .int v1), (2, .int v2), (3, .int v3)] [] (ST x m) 0 0 (EQ (some (.int r)) (ST x m)))
  (hF : B_X9_nextSpot_4 K4 v1 v2 v3 m = some r) : J g m_X9_nextSpot d 0 0 4 [(0, .ref 80), (1, .int v1), (2, .int v2), (3, .int v3)] [] (ST x m) 0 0 (EQ (some (.int r)) (ST x m)) := by
  unfold B_X9_nextSpot_4 at hF
  refine J_iload_n (j := 3) dX9_nextSpot_4 rfl rfl ?_
  refine J_aload_n (j := 0) dX9_nextSpot_5 rfl rfl ?_
  refine JM_getI fl_WithOneHandModel_130_8 dX9_nextSpot_6 c_80 rfl ?_
  refine J_icmp_ge (tgt := 62) dX9_nextSpot_9 (by decide) (fun q1 => ?_) (fun q1 => ?_)
  · rw [if_pos q1] at hF
    refine J_iload_n (j := 2) dX9_nextSpot_62 rfl rfl ?_
    have e_r := Option.some.inj hF
    subst e_r
    exact J_ireturn rfl rfl dX9_nextSpot_63 ⟨rfl, rfl⟩
  · rw [if_neg q1] at hF
    refine J_aload_n (j := 0) dX9_nextSpot_12 rfl rfl ?_
    refine J_iload_n (j := 1) dX9_nextSpot_13 rfl rfl ?_
    refine J_iload_n (j := 3) dX9_nextSpot_14 rfl rfl ?_
    refine JM_callVi (As := [.int v1, .int v3]) (S := []) lkV_WithOneHandModel_276_X9_has rfl (by decide) dX9_nextSpot_15 c_80 (S_X9_has (by omega) rfl) (by omega) rfl rfl (Nat.le_of_ble_eq_true rfl) rfl ?_
    refine J_ifb_ne (tgt := 56) dX9_nextSpot_18 (by decide) (fun q2 => ?_) (fun q2 => ?_)
    · rw [if_pos q2] at hF
      exact SB_X9_nextSpot_56 hd hK4 hF
    · rw [if_neg q2] at hF
      refine J_iload_n (j := 2) dX9_nextSpot_21 rfl rfl ?_
      refine J_if_lt (tgt := 54) dX9_nextSpot_22 (by decide) (fun q3 => ?_) (fun q3 => ?_)
      · rw [if_pos q3] at hF
        refine J_sub [0, 1, 3] rfl ?_
        exact SB_X9_nextSpot_54 hd hK4 hF
      · rw [if_neg q3] at hF
        refine J_aload_n (j := 0) dX9_nextSpot_25 rfl rfl ?_
        refine JM_getR (r := 92) fl_WithOneHandModel_47_8 dX9_nextSpot_26 c_80 rfl rfl ?_
        refine J_iload_n (j := 3) dX9_nextSpot_29 rfl rfl ?_
        obtain ⟨b4, hF⟩ := chk hF
        refine JM_iald (j := ix v3) dX9_nextSpot_30 c_92 (inb_vp b4) rfl ?_
        refine J_aload_n (j := 0) dX9_nextSpot_31 rfl rfl ?_
        refine JM_getR (r := 91) fl_WithOneHandModel_44_8 dX9_nextSpot_32 c_80 rfl rfl ?_
        refine J_iload_n (j := 2) dX9_nextSpot_35 rfl rfl ?_
        obtain ⟨b5, hF⟩ := chk hF
        refine JM_iald (j := ix v2) dX9_nextSpot_36 c_91 (inb_vp b5) rfl ?_
        refine J_imul dX9_nextSpot_37 ?_
        refine J_aload_n (j := 0) dX9_nextSpot_38 rfl rfl ?_
        refine JM_getR (r := 92) fl_WithOneHandModel_47_8 dX9_nextSpot_39 c_80 rfl rfl ?_
        refine J_iload_n (j := 2) dX9_nextSpot_42 rfl rfl ?_
        refine JM_iald (j := ix v2) dX9_nextSpot_43 c_92 (inb_vp b5) rfl ?_
        refine J_aload_n (j := 0) dX9_nextSpot_44 rfl rfl ?_
        refine JM_getR (r := 91) fl_WithOneHandModel_44_8 dX9_nextSpot_45 c_80 rfl rfl ?_
        refine J_iload_n (j := 3) dX9_nextSpot_48 rfl rfl ?_
        refine JM_iald (j := ix v3) dX9_nextSpot_49 c_91 (inb_vp b4) rfl ?_
        refine J_imul dX9_nextSpot_50 ?_
        refine J_icmp_ge (tgt := 56) dX9_nextSpot_51 (by decide) (fun q6 => ?_) (fun q6 => ?_)
        · rw [if_pos q6] at hF
          exact SB_X9_nextSpot_56 hd hK4 hF
        · rw [if_neg q6] at hF
          refine J_sub [0, 1, 3] rfl ?_
          exact SB_X9_nextSpot_54 hd hK4 hF
def f_X9_nextSpot_4 (m : MM) : Nat → Int32 → Int32 → Int32 → Option Int32
  | 0 => fun _ _ _ => none
  | n + 1 => fun v1 v2 v3 => B_X9_nextSpot_4 (f_X9_nextSpot_4 m n) v1 v2 v3 m
theorem Sf_X9_nextSpot_4 {g : GC} {d : Nat} {x : MX} {m : MM} (hd : 2 ≤ d)  : ∀ (n : Nat) (v1 : Int32) (v2 : Int32) (v3 : Int32) (r : Int32), f_X9_nextSpot_4 m n v1 v2 v3 = some r → J g m_X9_nextSpot d 0 0 4 [(0, .ref 80), (1, .int v1), (2, .int v2), (3, .int v3)] [] (ST x m) 0 0 (EQ (some (.int r)) (ST x m)) := by
  intro n
  induction n with
  | zero => intro v1 v2 v3 r  hF; exact absurd hF (fun q => by cases q)
  | succ n ih =>
    intro v1 v2 v3 r  hF
    exact SB_X9_nextSpot_4 hd (fun v1 v2 v3 r  hF => ih v1 v2 v3 r  hF) hF
def f_X9_nextSpot (a1 : Int32) (m : MM) : Option Int32 :=
  f_X9_nextSpot_4 m LF a1 (-1) 0
theorem S_X9_nextSpot {g : GC} {d : Nat} {a1 : Int32} {x : MX} {m : MM} {r : Int32} (hd : 2 ≤ d) 
  (hF : f_X9_nextSpot a1 m = some r) : JC g m_X9_nextSpot d 0 0 [.ref 80, .int a1] (ST x m) (EQ (some (.int r)) (ST x m)) := by
  refine JC.of (by decide +kernel) (Nat.le_of_ble_eq_true rfl) ?_
  change J g m_X9_nextSpot d 0 0 0 [(0, .ref 80), (1, .int a1)] [] (ST x m) 0 0 (EQ (some (.int r)) (ST x m))
  unfold f_X9_nextSpot at hF
  refine J_iconst (v := (-1)) dX9_nextSpot_0 (by decide) ?_
  refine J_istore_n (L' := [(2, .int (-1)), (0, .ref 80), (1, .int a1)]) dX9_nextSpot_1 rfl (by decide) rfl ?_
  refine J_iconst (v := 0) dX9_nextSpot_2 (by decide) ?_
  refine J_istore_n (L' := [(3, .int 0), (2, .int (-1)), (0, .ref 80), (1, .int a1)]) dX9_nextSpot_3 rfl (by decide) rfl ?_
  refine J_sub [2, 3, 1, 0] rfl ?_
  exact Sf_X9_nextSpot_4 hd _ _ _ _ _ hF
def B_X9_search_42 (K42 : Int32 → Int32 → Int32 → Int64 → Int64 → Int32 → Option Int64) (v1 : Int32) (v2 : Int32) (v3 : Int32) (v4 : Int64) (v6 : Int64) (v8 : Int32) (m : MM) : Option Int64 :=
  if (mi m 80 2) ≤ v8 then
  ob (f_X9_lowest v4 v6 (v1 + 2)) (fun r5 =>
  some r5)
  else
  ob (f_X9_nextSpot v2 m) (fun r7 =>
  if v8 = v1 then
  some (Int32.toInt64 r7)
  else
  letx (v2 ||| ((1 : Int32) <<< (r7 &&& 31))) (fun y10 =>
  if inb r7 8 = true then
  letx (v4 + ((Int32.toInt64 (mi m 91 (ix r7))) * (Int32.toInt64 (v3 + (mi m 92 (ix r7)))))) (fun y12 =>
  letx (v6 + (Int32.toInt64 (mi m 91 (ix r7)))) (fun y13 =>
  K42 v1 y10 (v3 + (mi m 92 (ix r7))) y12 y13 (v8 + 1)))
  else none))
theorem SB_X9_search_42 {g : GC} {d : Nat} {K42 : Int32 → Int32 → Int32 → Int64 → Int64 → Int32 → Option Int64} {v1 : Int32} {v2 : Int32} {v3 : Int32} {v4 : Int64} {v6 : Int64} {v8 : Int32} {x : MX} {m : MM} {r : Int64} (hd : 103 ≤ d) (hK42 : ∀ (v1 : Int32) (v2 : Int32) (v3 : Int32) (v4 : Int64) (v6 : Int64) (v8 : Int32) (r : Int64), K42 v1 v2 v3 v4 v6 v8 = some r → J g m_X9_search d 0 0 42 [(0, .ref 80), (1, .int v1), (2, .int v2), (3, .int v3), (4, .long v4), (6, .long v6), (8, .int v8)] [] (ST x m) 0 0 (EQ (some (.long r)) (ST x m)))
  (hF : B_X9_search_42 K42 v1 v2 v3 v4 v6 v8 m = some r) : J g m_X9_search d 0 0 42 [(0, .ref 80), (1, .int v1), (2, .int v2), (3, .int v3), (4, .long v4), (6, .long v6), (8, .int v8)] [] (ST x m) 0 0 (EQ (some (.long r)) (ST x m)) := by
  unfold B_X9_search_42 at hF
  refine J_iload (j := 6) dX9_search_42 rfl ?_
  refine J_aload_n (j := 0) dX9_search_44 rfl rfl ?_
  refine JM_getI fl_WithOneHandModel_130_8 dX9_search_45 c_80 rfl ?_
  refine J_icmp_ge (tgt := 120) dX9_search_48 (by decide) (fun q4 => ?_) (fun q4 => ?_)
  · rw [if_pos q4] at hF
    refine J_aload_n (j := 0) dX9_search_120 rfl rfl ?_
    refine J_lload (j := 4) dX9_search_121 rfl ?_
    refine J_lload (j := 5) dX9_search_123 rfl ?_
    refine J_iload_n (j := 1) dX9_search_125 rfl rfl ?_
    refine J_iconst (v := 2) dX9_search_126 (by decide) ?_
    refine J_iadd dX9_search_127 ?_
    obtain ⟨r5, h6, hF⟩ := ob_some hF
    refine JM_callVl (As := [.long v4, .long v6, .int (v1 + 2)]) (S := []) lkV_WithOneHandModel_303_X9_lowest rfl (by decide) dX9_search_128 c_80 (S_X9_lowest (by omega) h6) (by omega) rfl rfl (Nat.le_of_ble_eq_true rfl) rfl ?_
    have e_r := Option.some.inj hF
    subst e_r
    exact J_lreturn rfl dX9_search_131 ⟨rfl, rfl⟩
  · rw [if_neg q4] at hF
    refine J_aload_n (j := 0) dX9_search_51 rfl rfl ?_
    refine J_iload_n (j := 2) dX9_search_52 rfl rfl ?_
    obtain ⟨r7, h8, hF⟩ := ob_some hF
    refine JM_callVi (As := [.int v2]) (S := []) lkV_WithOneHandModel_309_X9_nextSpot rfl (by decide) dX9_search_53 c_80 (S_X9_nextSpot (by omega) h8) (by omega) rfl rfl (Nat.le_of_ble_eq_true rfl) rfl ?_
    refine J_istore (L' := [(9, .int r7), (0, .ref 80), (1, .int v1), (2, .int v2), (3, .int v3), (4, .long v4), (6, .long v6), (8, .int v8)]) dX9_search_56 (by decide) rfl ?_
    refine J_iload (j := 7) dX9_search_58 rfl ?_
    refine J_iload_n (j := 2) dX9_search_60 rfl rfl ?_
    refine J_icmp_ne (tgt := 68) dX9_search_61 (by decide) (fun q9 => ?_) (fun q9 => ?_)
    · rw [if_neg q9] at hF
      refine J_iload_n (j := 3) dX9_search_68 rfl rfl ?_
      refine J_iconst (v := 1) dX9_search_69 (by decide) ?_
      refine J_iload (j := 0) dX9_search_70 rfl ?_
      refine J_ishl dX9_search_72 ?_
      refine J_ior dX9_search_73 ?_
      obtain ⟨y10, e_y10, hF⟩ := letx_eq hF
      rw [← e_y10]
      refine J_istore_n (L' := [(2, .int y10), (9, .int r7), (0, .ref 80), (1, .int v1), (3, .int v3), (4, .long v4), (6, .long v6), (8, .int v8)]) dX9_search_74 rfl (by decide) rfl ?_
      refine J_iload_n (j := 4) dX9_search_75 rfl rfl ?_
      refine J_aload_n (j := 2) dX9_search_76 rfl rfl ?_
      refine JM_getR (r := 92) fl_WithOneHandModel_47_8 dX9_search_77 c_80 rfl rfl ?_
      refine J_iload (j := 1) dX9_search_80 rfl ?_
      obtain ⟨b11, hF⟩ := chk hF
      refine JM_iald (j := ix r7) dX9_search_82 c_92 (inb_vp b11) rfl ?_
      refine J_iadd dX9_search_83 ?_
      refine J_istore_n (L' := [(3, .int (v3 + (mi m 92 (ix r7)))), (2, .int y10), (9, .int r7), (0, .ref 80), (1, .int v1), (4, .long v4), (6, .long v6), (8, .int v8)]) dX9_search_84 rfl (by decide) rfl ?_
      refine J_lload (j := 5) dX9_search_85 rfl ?_
      refine J_aload_n (j := 3) dX9_search_87 rfl rfl ?_
      refine JM_getR (r := 91) fl_WithOneHandModel_44_8 dX9_search_88 c_80 rfl rfl ?_
      refine J_iload (j := 2) dX9_search_91 rfl ?_
      refine JM_iald (j := ix r7) dX9_search_93 c_91 (inb_vp b11) rfl ?_
      refine J_i2l dX9_search_94 ?_
      refine J_iload_n (j := 0) dX9_search_95 rfl rfl ?_
      refine J_i2l dX9_search_96 ?_
      refine J_lmul dX9_search_97 ?_
      refine J_ladd dX9_search_98 ?_
      obtain ⟨y12, e_y12, hF⟩ := letx_eq hF
      rw [← e_y12]
      refine J_lstore (L' := [(4, .long y12), (3, .int (v3 + (mi m 92 (ix r7)))), (2, .int y10), (9, .int r7), (0, .ref 80), (1, .int v1), (6, .long v6), (8, .int v8)]) dX9_search_99 (by decide) rfl ?_
      refine J_lload (j := 6) dX9_search_101 rfl ?_
      refine J_aload_n (j := 4) dX9_search_103 rfl rfl ?_
      refine JM_getR (r := 91) fl_WithOneHandModel_44_8 dX9_search_104 c_80 rfl rfl ?_
      refine J_iload (j := 3) dX9_search_107 rfl ?_
      refine JM_iald (j := ix r7) dX9_search_109 c_91 (inb_vp b11) rfl ?_
      refine J_i2l dX9_search_110 ?_
      refine J_ladd dX9_search_111 ?_
      obtain ⟨y13, e_y13, hF⟩ := letx_eq hF
      rw [← e_y13]
      refine J_lstore (L' := [(6, .long y13), (4, .long y12), (3, .int (v3 + (mi m 92 (ix r7)))), (2, .int y10), (9, .int r7), (0, .ref 80), (1, .int v1), (8, .int v8)]) dX9_search_112 (by decide) rfl ?_
      refine J_iinc (j := 7) (v := v8 + 1) (L' := [(8, .int (v8 + 1)), (6, .long y13), (4, .long y12), (3, .int (v3 + (mi m 92 (ix r7)))), (2, .int y10), (9, .int r7), (0, .ref 80), (1, .int v1)]) dX9_search_114 rfl rfl (by decide) rfl ?_
      refine J_goto (tgt := 42) dX9_search_117 (by decide) ?_
      refine J_sub [6, 7, 4, 3, 2, 1, 0] rfl ?_
      exact hK42 _ _ _ _ _ _ _  hF
    · rw [if_pos q9] at hF
      refine J_iload (j := 0) dX9_search_64 rfl ?_
      refine J_i2l dX9_search_66 ?_
      have e_r := Option.some.inj hF
      subst e_r
      exact J_lreturn rfl dX9_search_67 ⟨rfl, rfl⟩
def f_X9_search_42 (m : MM) : Nat → Int32 → Int32 → Int32 → Int64 → Int64 → Int32 → Option Int64
  | 0 => fun _ _ _ _ _ _ => none
  | n + 1 => fun v1 v2 v3 v4 v6 v8 => B_X9_search_42 (f_X9_search_42 m n) v1 v2 v3 v4 v6 v8 m
theorem Sf_X9_search_42 {g : GC} {d : Nat} {x : MX} {m : MM} (hd : 103 ≤ d)  : ∀ (n : Nat) (v1 : Int32) (v2 : Int32) (v3 : Int32) (v4 : Int64) (v6 : Int64) (v8 : Int32) (r : Int64), f_X9_search_42 m n v1 v2 v3 v4 v6 v8 = some r → J g m_X9_search d 0 0 42 [(0, .ref 80), (1, .int v1), (2, .int v2), (3, .int v3), (4, .long v4), (6, .long v6), (8, .int v8)] [] (ST x m) 0 0 (EQ (some (.long r)) (ST x m)) := by
  intro n
  induction n with
  | zero => intro v1 v2 v3 v4 v6 v8 r  hF; exact absurd hF (fun q => by cases q)
  | succ n ih =>
    intro v1 v2 v3 v4 v6 v8 r  hF
    exact SB_X9_search_42 hd (fun v1 v2 v3 v4 v6 v8 r  hF => ih v1 v2 v3 v4 v6 v8 r  hF) hF
def f_X9_search (a1 : Int32) (m : MM) : Option Int64 :=
  if (-2) ≤ a1 then
  if (mi m 80 2) = 0 then
  some (-2)
  else
  if a1 < (mi m 80 2) then
  f_X9_search_42 m LF a1 0 0 0 0 0
  else
  some (-2)
  else
  some (-9223372036854775808)
theorem S_X9_search {g : GC} {d : Nat} {a1 : Int32} {x : MX} {m : MM} {r : Int64} (hd : 103 ≤ d) 
  (hF : f_X9_search a1 m = some r) : JC g m_X9_search d 0 0 [.ref 80, .int a1] (ST x m) (EQ (some (.long r)) (ST x m)) := by
  refine JC.of (by decide +kernel) (Nat.le_of_ble_eq_true rfl) ?_
  change J g m_X9_search d 0 0 0 [(0, .ref 80), (1, .int a1)] [] (ST x m) 0 0 (EQ (some (.long r)) (ST x m))
  unfold f_X9_search at hF
  refine J_iload_n (j := 1) dX9_search_0 rfl rfl ?_
  refine J_bipush (v := (-2)) dX9_search_1 (by decide) ?_
  refine J_icmp_ge (tgt := 10) dX9_search_3 (by decide) (fun q1 => ?_) (fun q1 => ?_)
  · rw [if_pos q1] at hF
    refine J_aload_n (j := 0) dX9_search_10 rfl rfl ?_
    refine JM_getI fl_WithOneHandModel_130_8 dX9_search_11 c_80 rfl ?_
    refine J_if_eq (tgt := 25) dX9_search_14 (by decide) (fun q2 => ?_) (fun q2 => ?_)
    · rw [if_pos q2] at hF
      refine J_ldc2 (v := (-2)) (tb 1311 (by decide +kernel)) dX9_search_25 ?_
      have e_r := Option.some.inj hF
      subst e_r
      exact J_lreturn rfl dX9_search_28 ⟨rfl, rfl⟩
    · rw [if_neg q2] at hF
      refine J_iload_n (j := 1) dX9_search_17 rfl rfl ?_
      refine J_aload_n (j := 0) dX9_search_18 rfl rfl ?_
      refine JM_getI fl_WithOneHandModel_130_8 dX9_search_19 c_80 rfl ?_
      refine J_icmp_lt (tgt := 29) dX9_search_22 (by decide) (fun q3 => ?_) (fun q3 => ?_)
      · rw [if_pos q3] at hF
        refine J_iconst (v := 0) dX9_search_29 (by decide) ?_
        refine J_istore_n (L' := [(2, .int 0), (0, .ref 80), (1, .int a1)]) dX9_search_30 rfl (by decide) rfl ?_
        refine J_iconst (v := 0) dX9_search_31 (by decide) ?_
        refine J_istore_n (L' := [(3, .int 0), (2, .int 0), (0, .ref 80), (1, .int a1)]) dX9_search_32 rfl (by decide) rfl ?_
        refine J_lconst (v := 0) dX9_search_33 (by decide) ?_
        refine J_lstore (L' := [(4, .long 0), (3, .int 0), (2, .int 0), (0, .ref 80), (1, .int a1)]) dX9_search_34 (by decide) rfl ?_
        refine J_lconst (v := 0) dX9_search_36 (by decide) ?_
        refine J_lstore (L' := [(6, .long 0), (4, .long 0), (3, .int 0), (2, .int 0), (0, .ref 80), (1, .int a1)]) dX9_search_37 (by decide) rfl ?_
        refine J_iconst (v := 0) dX9_search_39 (by decide) ?_
        refine J_istore (L' := [(8, .int 0), (6, .long 0), (4, .long 0), (3, .int 0), (2, .int 0), (0, .ref 80), (1, .int a1)]) dX9_search_40 (by decide) rfl ?_
        refine J_sub [5, 6, 4, 3, 2, 1, 0] rfl ?_
        exact Sf_X9_search_42 hd _ _ _ _ _ _ _ _ hF
      · rw [if_neg q3] at hF
        refine J_ldc2 (v := (-2)) (tb 1311 (by decide +kernel)) dX9_search_25 ?_
        have e_r := Option.some.inj hF
        subst e_r
        exact J_lreturn rfl dX9_search_28 ⟨rfl, rfl⟩
  · rw [if_neg q1] at hF
    refine J_ldc2 (v := (-9223372036854775808)) (tb 1289 (by decide +kernel)) dX9_search_6 ?_
    have e_r := Option.some.inj hF
    subst e_r
    exact J_lreturn rfl dX9_search_9 ⟨rfl, rfl⟩
def B_X8_spotsFrom_7 (K7 : Nat → Int32 → Int32 → Int32 → MX → Option (Int32 × MX)) (v1 : Nat) (v2 : Int32) (v3 : Int32) (v4 : Int32) (x : MX) : Option (Int32 × MX) :=
  if (xi x v1 2) ≤ v4 then
  some (v2, x)
  else
  if 8 ≤ v2 then
  some (v2, x)
  else
  if inb v4 60 = true then
  letx (Int64.toInt32 (xl x (v1 + 1) (ix v4))) (fun y4 =>
  if y4 < 0 then
  some (v2, x)
  else
  if (xi x 5 14) ≤ y4 then
  some (v2, x)
  else
  if ((v3 >>> (y4 &&& 31)) &&& 1) = 0 then
  letx (v3 ||| ((1 : Int32) <<< (y4 &&& 31))) (fun y8 =>
  if inb v2 8 = true then
  letx (xs x 55 (ix v2) y4) (fun x10 =>
  K7 v1 (v2 + 1) y8 (v4 + 1) x10)
  else none)
  else
  some (v2, x))
  else none
theorem SB_X8_spotsFrom_7 {g : GC} {d : Nat} {K7 : Nat → Int32 → Int32 → Int32 → MX → Option (Int32 × MX)} {v1 : Nat} {v2 : Int32} {v3 : Int32} {v4 : Int32} {x : MX} {m : MM} {r : Int32} {z : MX} (hd : 1 ≤ d) (hK7 : ∀ (v1 : Nat) (v2 : Int32) (v3 : Int32) (v4 : Int32) (x : MX) (r : Int32) (z : MX), isSh v1 → K7 v1 v2 v3 v4 x = some (r, z) → J g m_X8_spotsFrom d 0 0 7 [(0, .ref 5), (1, .ref v1), (2, .int v2), (3, .int v3), (4, .int v4)] [] (ST x m) 0 0 (EQ (some (.int r)) (ST z m))) (e_v1 : isSh v1)
  (hF : B_X8_spotsFrom_7 K7 v1 v2 v3 v4 x = some (r, z)) : J g m_X8_spotsFrom d 0 0 7 [(0, .ref 5), (1, .ref v1), (2, .int v2), (3, .int v3), (4, .int v4)] [] (ST x m) 0 0 (EQ (some (.int r)) (ST z m)) := by
  unfold B_X8_spotsFrom_7 at hF
  refine J_iload (j := 4) dX8_spotsFrom_7 rfl ?_
  refine J_aload_n (j := 1) dX8_spotsFrom_9 rfl rfl ?_
  refine JX_getI fl_WithOneHand_363_5 dX8_spotsFrom_10 (c_sh e_v1) rfl ?_
  refine J_icmp_ge (tgt := 81) dX8_spotsFrom_13 (by decide) (fun q1 => ?_) (fun q1 => ?_)
  · rw [if_pos q1] at hF
    refine J_iload_n (j := 2) dX8_spotsFrom_81 rfl rfl ?_
    obtain ⟨e_r, e_z⟩ := someP hF
    subst e_r
    subst e_z
    exact J_ireturn rfl rfl dX8_spotsFrom_82 ⟨rfl, rfl⟩
  · rw [if_neg q1] at hF
    refine J_iload_n (j := 2) dX8_spotsFrom_16 rfl rfl ?_
    refine J_bipush (v := 8) dX8_spotsFrom_17 (by decide) ?_
    refine J_icmp_ge (tgt := 81) dX8_spotsFrom_19 (by decide) (fun q2 => ?_) (fun q2 => ?_)
    · rw [if_pos q2] at hF
      refine J_iload_n (j := 2) dX8_spotsFrom_81 rfl rfl ?_
      obtain ⟨e_r, e_z⟩ := someP hF
      subst e_r
      subst e_z
      exact J_ireturn rfl rfl dX8_spotsFrom_82 ⟨rfl, rfl⟩
    · rw [if_neg q2] at hF
      refine J_aload_n (j := 1) dX8_spotsFrom_22 rfl rfl ?_
      refine JX_getR (r := (v1 + 1)) fl_WithOneHand_320_5 dX8_spotsFrom_23 (c_sh e_v1) rfl rfl ?_
      refine J_iload (j := 4) dX8_spotsFrom_26 rfl ?_
      obtain ⟨b3, hF⟩ := chk hF
      refine JX_lald (j := ix v4) dX8_spotsFrom_28 (c_she e_v1) (inb_vp b3) rfl ?_
      refine J_l2i dX8_spotsFrom_29 ?_
      obtain ⟨y4, e_y4, hF⟩ := letx_eq hF
      rw [← e_y4]
      refine J_istore (L' := [(5, .int y4), (0, .ref 5), (1, .ref v1), (2, .int v2), (3, .int v3), (4, .int v4)]) dX8_spotsFrom_30 (by decide) rfl ?_
      refine J_iload (j := 0) dX8_spotsFrom_32 rfl ?_
      refine J_if_lt (tgt := 55) dX8_spotsFrom_34 (by decide) (fun q5 => ?_) (fun q5 => ?_)
      · rw [if_pos q5] at hF
        refine J_iload_n (j := 3) dX8_spotsFrom_55 rfl rfl ?_
        obtain ⟨e_r, e_z⟩ := someP hF
        subst e_r
        subst e_z
        exact J_ireturn rfl rfl dX8_spotsFrom_56 ⟨rfl, rfl⟩
      · rw [if_neg q5] at hF
        refine J_iload (j := 0) dX8_spotsFrom_37 rfl ?_
        refine J_aload_n (j := 1) dX8_spotsFrom_39 rfl rfl ?_
        refine JX_getI fl_WithOneHand_106_7 dX8_spotsFrom_40 c_5 rfl ?_
        refine J_icmp_ge (tgt := 55) dX8_spotsFrom_43 (by decide) (fun q6 => ?_) (fun q6 => ?_)
        · rw [if_pos q6] at hF
          refine J_iload_n (j := 3) dX8_spotsFrom_55 rfl rfl ?_
          obtain ⟨e_r, e_z⟩ := someP hF
          subst e_r
          subst e_z
          exact J_ireturn rfl rfl dX8_spotsFrom_56 ⟨rfl, rfl⟩
        · rw [if_neg q6] at hF
          refine J_iload_n (j := 4) dX8_spotsFrom_46 rfl rfl ?_
          refine J_iload (j := 0) dX8_spotsFrom_47 rfl ?_
          refine J_ishr dX8_spotsFrom_49 ?_
          refine J_iconst (v := 1) dX8_spotsFrom_50 (by decide) ?_
          refine J_iand dX8_spotsFrom_51 ?_
          refine J_if_eq (tgt := 57) dX8_spotsFrom_52 (by decide) (fun q7 => ?_) (fun q7 => ?_)
          · rw [if_pos q7] at hF
            refine J_iload_n (j := 4) dX8_spotsFrom_57 rfl rfl ?_
            refine J_iconst (v := 1) dX8_spotsFrom_58 (by decide) ?_
            refine J_iload (j := 0) dX8_spotsFrom_59 rfl ?_
            refine J_ishl dX8_spotsFrom_61 ?_
            refine J_ior dX8_spotsFrom_62 ?_
            obtain ⟨y8, e_y8, hF⟩ := letx_eq hF
            rw [← e_y8]
            refine J_istore_n (L' := [(3, .int y8), (5, .int y4), (0, .ref 5), (1, .ref v1), (2, .int v2), (4, .int v4)]) dX8_spotsFrom_63 rfl (by decide) rfl ?_
            refine J_aload_n (j := 2) dX8_spotsFrom_64 rfl rfl ?_
            refine JX_getR (r := 55) fl_WithOneHand_62_7 dX8_spotsFrom_65 c_5 rfl rfl ?_
            refine J_iload_n (j := 4) dX8_spotsFrom_68 rfl rfl ?_
            refine J_iload (j := 1) dX8_spotsFrom_69 rfl ?_
            obtain ⟨b9, hF⟩ := chk hF
            obtain ⟨x10, e_x10, hF⟩ := letx_eq hF
            refine JX_iast (j := ix v2) dX8_spotsFrom_71 c_55 (inb_vp b9) rfl ?_
            rw [← e_x10]
            refine J_iinc (j := 4) (v := v2 + 1) (L' := [(2, .int (v2 + 1)), (3, .int y8), (5, .int y4), (0, .ref 5), (1, .ref v1), (4, .int v4)]) dX8_spotsFrom_72 rfl rfl (by decide) rfl ?_
            refine J_iinc (j := 5) (v := v4 + 1) (L' := [(4, .int (v4 + 1)), (2, .int (v2 + 1)), (3, .int y8), (5, .int y4), (0, .ref 5), (1, .ref v1)]) dX8_spotsFrom_75 rfl rfl (by decide) rfl ?_
            refine J_goto (tgt := 7) dX8_spotsFrom_78 (by decide) ?_
            refine J_sub [4, 5, 1, 2, 0] rfl ?_
            exact hK7 _ _ _ _ _ _ _ e_v1 hF
          · rw [if_neg q7] at hF
            refine J_iload_n (j := 3) dX8_spotsFrom_55 rfl rfl ?_
            obtain ⟨e_r, e_z⟩ := someP hF
            subst e_r
            subst e_z
            exact J_ireturn rfl rfl dX8_spotsFrom_56 ⟨rfl, rfl⟩
def f_X8_spotsFrom_7  : Nat → Nat → Int32 → Int32 → Int32 → MX → Option (Int32 × MX)
  | 0 => fun _ _ _ _ _ => none
  | n + 1 => fun v1 v2 v3 v4 x => B_X8_spotsFrom_7 (f_X8_spotsFrom_7  n) v1 v2 v3 v4 x
theorem Sf_X8_spotsFrom_7 {g : GC} {d : Nat} {m : MM} (hd : 1 ≤ d)  : ∀ (n : Nat) (v1 : Nat) (v2 : Int32) (v3 : Int32) (v4 : Int32) (x : MX) (r : Int32) (z : MX), (e_v1 : isSh v1) → f_X8_spotsFrom_7  n v1 v2 v3 v4 x = some (r, z) → J g m_X8_spotsFrom d 0 0 7 [(0, .ref 5), (1, .ref v1), (2, .int v2), (3, .int v3), (4, .int v4)] [] (ST x m) 0 0 (EQ (some (.int r)) (ST z m)) := by
  intro n
  induction n with
  | zero => intro v1 v2 v3 v4 x r z e_v1 hF; exact absurd hF (fun q => by cases q)
  | succ n ih =>
    intro v1 v2 v3 v4 x r z e_v1 hF
    exact SB_X8_spotsFrom_7 hd (fun v1 v2 v3 v4 x r z e_v1 hF => ih v1 v2 v3 v4 x r z e_v1 hF) e_v1 hF
def f_X8_spotsFrom (h1 : Nat) (x : MX) : Option (Int32 × MX) :=
  f_X8_spotsFrom_7 LF h1 0 0 0 x
theorem S_X8_spotsFrom {g : GC} {d : Nat} {h1 : Nat} {x : MX} {m : MM} {r : Int32} {z : MX} (hd : 1 ≤ d) (e_h1 : isSh h1)
  (hF : f_X8_spotsFrom h1 x = some (r, z)) : JC g m_X8_spotsFrom d 0 0 [.ref 5, .ref h1] (ST x m) (EQ (some (.int r)) (ST z m)) := by
  refine JC.of (by decide +kernel) (Nat.le_of_ble_eq_true rfl) ?_
  change J g m_X8_spotsFrom d 0 0 0 [(0, .ref 5), (1, .ref h1)] [] (ST x m) 0 0 (EQ (some (.int r)) (ST z m))
  unfold f_X8_spotsFrom at hF
  refine J_iconst (v := 0) dX8_spotsFrom_0 (by decide) ?_
  refine J_istore_n (L' := [(2, .int 0), (0, .ref 5), (1, .ref h1)]) dX8_spotsFrom_1 rfl (by decide) rfl ?_
  refine J_iconst (v := 0) dX8_spotsFrom_2 (by decide) ?_
  refine J_istore_n (L' := [(3, .int 0), (2, .int 0), (0, .ref 5), (1, .ref h1)]) dX8_spotsFrom_3 rfl (by decide) rfl ?_
  refine J_iconst (v := 0) dX8_spotsFrom_4 (by decide) ?_
  refine J_istore (L' := [(4, .int 0), (3, .int 0), (2, .int 0), (0, .ref 5), (1, .ref h1)]) dX8_spotsFrom_5 (by decide) rfl ?_
  refine J_sub [3, 4, 2, 1, 0] rfl ?_
  exact Sf_X8_spotsFrom_7 hd _ _ _ _ _ _ _ _ e_h1 hF
def f_X8_told (a1 : Int32) (a2 : Int32) (x : MX) : Option (Int64 × MX) :=
  if (f_X8_isShelf a1) = true then
  if (f_X8_isPart a2) = true then
  if inb a1 6 = true then
  if (f_X6_holdsRowOf (68 + 2 * ix a1) 0 x) = true then
  if (xi x 5 14) = 0 then
  some ((-2), x)
  else
  ob2 (f_X8_spotsFrom (68 + 2 * ix a1) x) (fun r6 x7 =>
  ob (f_X8_meanOfLooking r6 a2 x7) (fun r9 =>
  some (r9, x7)))
  else
  some ((-9223372036854775808), x)
  else none
  else
  some ((-9223372036854775808), x)
  else
  some ((-9223372036854775808), x)
theorem S_X8_told {g : GC} {d : Nat} {a1 : Int32} {a2 : Int32} {x : MX} {m : MM} {r : Int64} {z : MX} (hd : 3 ≤ d) 
  (hF : f_X8_told a1 a2 x = some (r, z)) : JC g m_X8_told d 0 0 [.ref 5, .int a1, .int a2] (ST x m) (EQ (some (.long r)) (ST z m)) := by
  refine JC.of (by decide +kernel) (Nat.le_of_ble_eq_true rfl) ?_
  change J g m_X8_told d 0 0 0 [(0, .ref 5), (1, .int a1), (2, .int a2)] [] (ST x m) 0 0 (EQ (some (.long r)) (ST z m))
  unfold f_X8_told at hF
  refine J_iload_n (j := 1) dX8_told_0 rfl rfl ?_
  refine J_callSi (As := [.int a1]) (S := []) lkS_WithOneHand_91_X8_isShelf dX8_told_1 (S_X8_isShelf (by omega) rfl) (by omega) rfl rfl (Nat.le_of_ble_eq_true rfl) rfl ?_
  refine J_ifb_eq (tgt := 27) dX8_told_4 (by decide) (fun q1 => ?_) (fun q1 => ?_)
  · rw [if_neg q1] at hF
    refine J_ldc2 (v := (-9223372036854775808)) (tb 638 (by decide +kernel)) dX8_told_27 ?_
    obtain ⟨e_r, e_z⟩ := someP hF
    subst e_r
    subst e_z
    exact J_lreturn rfl dX8_told_30 ⟨rfl, rfl⟩
  · rw [if_pos q1] at hF
    refine J_iload_n (j := 2) dX8_told_7 rfl rfl ?_
    refine J_callSi (As := [.int a2]) (S := []) lkS_WithOneHand_179_X8_isPart dX8_told_8 (S_X8_isPart (by omega) rfl) (by omega) rfl rfl (Nat.le_of_ble_eq_true rfl) rfl ?_
    refine J_ifb_eq (tgt := 27) dX8_told_11 (by decide) (fun q2 => ?_) (fun q2 => ?_)
    · rw [if_neg q2] at hF
      refine J_ldc2 (v := (-9223372036854775808)) (tb 638 (by decide +kernel)) dX8_told_27 ?_
      obtain ⟨e_r, e_z⟩ := someP hF
      subst e_r
      subst e_z
      exact J_lreturn rfl dX8_told_30 ⟨rfl, rfl⟩
    · rw [if_pos q2] at hF
      refine J_aload_n (j := 0) dX8_told_14 rfl rfl ?_
      refine JX_getR (r := 54) fl_WithOneHand_58_7 dX8_told_15 c_5 rfl rfl ?_
      refine J_iload_n (j := 1) dX8_told_18 rfl rfl ?_
      obtain ⟨b3, hF⟩ := chk hF
      refine JX_aald (j := ix a1) (r := 68 + 2 * ix a1) (by decide) dX8_told_19 c_54 (inb_vp b3) rfl (rw_54 _ (inb_lt b3)) ?_
      refine J_iconst (v := 0) dX8_told_20 (by decide) ?_
      refine JX_callVi (As := [.int 0]) (S := []) lkV_WithOneHand_99_X6_holdsRowOf rfl (by decide) dX8_told_21 (c_sh (sh_of (inb_lt b3))) (S_X6_holdsRowOf (by omega) (sh_of (inb_lt b3)) rfl) (by omega) rfl rfl (Nat.le_of_ble_eq_true rfl) rfl ?_
      refine J_ifb_ne (tgt := 31) dX8_told_24 (by decide) (fun q4 => ?_) (fun q4 => ?_)
      · rw [if_pos q4] at hF
        refine J_aload_n (j := 0) dX8_told_31 rfl rfl ?_
        refine JX_getI fl_WithOneHand_106_7 dX8_told_32 c_5 rfl ?_
        refine J_if_ne (tgt := 42) dX8_told_35 (by decide) (fun q5 => ?_) (fun q5 => ?_)
        · rw [if_neg q5] at hF
          refine J_aload_n (j := 0) dX8_told_42 rfl rfl ?_
          refine J_aload_n (j := 0) dX8_told_43 rfl rfl ?_
          refine J_aload_n (j := 0) dX8_told_44 rfl rfl ?_
          refine JX_getR (r := 54) fl_WithOneHand_58_7 dX8_told_45 c_5 rfl rfl ?_
          refine J_iload_n (j := 1) dX8_told_48 rfl rfl ?_
          refine JX_aald (j := ix a1) (r := 68 + 2 * ix a1) (by decide) dX8_told_49 c_54 (inb_vp b3) rfl (rw_54 _ (inb_lt b3)) ?_
          obtain ⟨r6, x7, h8, hF⟩ := ob2_some hF
          refine JX_callVi (As := [.ref (68 + 2 * ix a1)]) (S := [.ref 5]) lkV_WithOneHand_205_X8_spotsFrom rfl (by decide) dX8_told_50 c_5 (S_X8_spotsFrom (by omega) (sh_of (inb_lt b3)) h8) (by omega) rfl rfl (Nat.le_of_ble_eq_true rfl) rfl ?_
          refine J_iload_n (j := 2) dX8_told_53 rfl rfl ?_
          obtain ⟨r9, h10, hF⟩ := ob_some hF
          refine JX_callVl (As := [.int r6, .int a2]) (S := []) lkV_WithOneHand_201_X8_meanOfLooking rfl (by decide) dX8_told_54 c_5 (S_X8_meanOfLooking (by omega) h10) (by omega) rfl rfl (Nat.le_of_ble_eq_true rfl) rfl ?_
          obtain ⟨e_r, e_z⟩ := someP hF
          subst e_r
          subst e_z
          exact J_lreturn rfl dX8_told_57 ⟨rfl, rfl⟩
        · rw [if_pos q5] at hF
          refine J_ldc2 (v := (-2)) (tb 667 (by decide +kernel)) dX8_told_38 ?_
          obtain ⟨e_r, e_z⟩ := someP hF
          subst e_r
          subst e_z
          exact J_lreturn rfl dX8_told_41 ⟨rfl, rfl⟩
      · rw [if_neg q4] at hF
        refine J_ldc2 (v := (-9223372036854775808)) (tb 638 (by decide +kernel)) dX8_told_27 ?_
        obtain ⟨e_r, e_z⟩ := someP hF
        subst e_r
        subst e_z
        exact J_lreturn rfl dX8_told_30 ⟨rfl, rfl⟩
def B_X9_told_209 (K160 : Int32 → Int32 → Int64 → Int64 → Int32 → Option Int64) (v2 : Int32) (v3 : Int32) (v5 : Int64) (v7 : Int64) (v9 : Int32) (m : MM) : Option Int64 :=
  K160 v2 v3 v5 v7 (v9 + 1)
theorem SB_X9_told_209 {g : GC} {d : Nat} {K160 : Int32 → Int32 → Int64 → Int64 → Int32 → Option Int64} {v2 : Int32} {v3 : Int32} {v5 : Int64} {v7 : Int64} {v9 : Int32} {x : MX} {m : MM} {r : Int64} (hd : 103 ≤ d) (hK160 : ∀ (v2 : Int32) (v3 : Int32) (v5 : Int64) (v7 : Int64) (v9 : Int32) (r : Int64), K160 v2 v3 v5 v7 v9 = some r → J g m_X9_told d 0 0 160 [(0, .ref 80), (2, .int v2), (3, .int v3), (5, .long v5), (7, .long v7), (9, .int v9)] [] (ST x m) 0 0 (EQ (some (.long r)) (ST x m)))
  (hF : B_X9_told_209 K160 v2 v3 v5 v7 v9 m = some r) : J g m_X9_told d 0 0 209 [(0, .ref 80), (2, .int v2), (3, .int v3), (5, .long v5), (7, .long v7), (9, .int v9)] [] (ST x m) 0 0 (EQ (some (.long r)) (ST x m)) := by
  unfold B_X9_told_209 at hF
  refine J_iinc (j := 5) (v := v9 + 1) (L' := [(9, .int (v9 + 1)), (0, .ref 80), (2, .int v2), (3, .int v3), (5, .long v5), (7, .long v7)]) dX9_told_209 rfl rfl (by decide) rfl ?_
  refine J_goto (tgt := 160) dX9_told_212 (by decide) ?_
  refine J_sub [1, 2, 3, 4, 5, 0] rfl ?_
  exact hK160 _ _ _ _ _ _  hF
def B_X9_told_160 (K160 : Int32 → Int32 → Int64 → Int64 → Int32 → Option Int64) (v2 : Int32) (v3 : Int32) (v5 : Int64) (v7 : Int64) (v9 : Int32) (m : MM) : Option Int64 :=
  if (mi m 80 2) ≤ v9 then
  ob (f_X9_lowest v5 v7 v2) (fun r10 =>
  some r10)
  else
  if inb v9 8 = true then
  letx (v7 + (Int32.toInt64 (mi m 91 (ix v9)))) (fun y13 =>
  if (f_X9_has v3 v9) = true then
  B_X9_told_209 K160 v2 v3 v5 y13 v9 m
  else
  letx (v5 + (999 * (Int32.toInt64 (mi m 91 (ix v9))))) (fun y15 =>
  B_X9_told_209 K160 v2 v3 y15 y13 v9 m))
  else none
theorem SB_X9_told_160 {g : GC} {d : Nat} {K160 : Int32 → Int32 → Int64 → Int64 → Int32 → Option Int64} {v2 : Int32} {v3 : Int32} {v5 : Int64} {v7 : Int64} {v9 : Int32} {x : MX} {m : MM} {r : Int64} (hd : 103 ≤ d) (hK160 : ∀ (v2 : Int32) (v3 : Int32) (v5 : Int64) (v7 : Int64) (v9 : Int32) (r : Int64), K160 v2 v3 v5 v7 v9 = some r → J g m_X9_told d 0 0 160 [(0, .ref 80), (2, .int v2), (3, .int v3), (5, .long v5), (7, .long v7), (9, .int v9)] [] (ST x m) 0 0 (EQ (some (.long r)) (ST x m)))
  (hF : B_X9_told_160 K160 v2 v3 v5 v7 v9 m = some r) : J g m_X9_told d 0 0 160 [(0, .ref 80), (2, .int v2), (3, .int v3), (5, .long v5), (7, .long v7), (9, .int v9)] [] (ST x m) 0 0 (EQ (some (.long r)) (ST x m)) := by
  unfold B_X9_told_160 at hF
  refine J_iload (j := 5) dX9_told_160 rfl ?_
  refine J_aload_n (j := 0) dX9_told_162 rfl rfl ?_
  refine JM_getI fl_WithOneHandModel_130_8 dX9_told_163 c_80 rfl ?_
  refine J_icmp_ge (tgt := 215) dX9_told_166 (by decide) (fun q9 => ?_) (fun q9 => ?_)
  · rw [if_pos q9] at hF
    refine J_aload_n (j := 0) dX9_told_215 rfl rfl ?_
    refine J_lload (j := 3) dX9_told_216 rfl ?_
    refine J_lload (j := 4) dX9_told_218 rfl ?_
    refine J_iload_n (j := 1) dX9_told_220 rfl rfl ?_
    obtain ⟨r10, h11, hF⟩ := ob_some hF
    refine JM_callVl (As := [.long v5, .long v7, .int v2]) (S := []) lkV_WithOneHandModel_303_X9_lowest rfl (by decide) dX9_told_221 c_80 (S_X9_lowest (by omega) h11) (by omega) rfl rfl (Nat.le_of_ble_eq_true rfl) rfl ?_
    have e_r := Option.some.inj hF
    subst e_r
    exact J_lreturn rfl dX9_told_224 ⟨rfl, rfl⟩
  · rw [if_neg q9] at hF
    refine J_lload (j := 4) dX9_told_169 rfl ?_
    refine J_aload_n (j := 0) dX9_told_171 rfl rfl ?_
    refine JM_getR (r := 91) fl_WithOneHandModel_44_8 dX9_told_172 c_80 rfl rfl ?_
    refine J_iload (j := 5) dX9_told_175 rfl ?_
    obtain ⟨b12, hF⟩ := chk hF
    refine JM_iald (j := ix v9) dX9_told_177 c_91 (inb_vp b12) rfl ?_
    refine J_i2l dX9_told_178 ?_
    refine J_ladd dX9_told_179 ?_
    obtain ⟨y13, e_y13, hF⟩ := letx_eq hF
    rw [← e_y13]
    refine J_lstore (L' := [(7, .long y13), (0, .ref 80), (2, .int v2), (3, .int v3), (5, .long v5), (9, .int v9)]) dX9_told_180 (by decide) rfl ?_
    refine J_aload_n (j := 1) dX9_told_182 rfl rfl ?_
    refine J_iload_n (j := 3) dX9_told_183 rfl rfl ?_
    refine J_iload (j := 5) dX9_told_184 rfl ?_
    refine JM_callVi (As := [.int v3, .int v9]) (S := []) lkV_WithOneHandModel_276_X9_has rfl (by decide) dX9_told_186 c_80 (S_X9_has (by omega) rfl) (by omega) rfl rfl (Nat.le_of_ble_eq_true rfl) rfl ?_
    refine J_ifb_ne (tgt := 209) dX9_told_189 (by decide) (fun q14 => ?_) (fun q14 => ?_)
    · rw [if_pos q14] at hF
      refine J_sub [1, 2, 3, 4, 0, 5] rfl ?_
      exact SB_X9_told_209 hd hK160 hF
    · rw [if_neg q14] at hF
      refine J_lload (j := 4) dX9_told_192 rfl ?_
      refine J_ldc2 (v := 999) (tb 1320 (by decide +kernel)) dX9_told_194 ?_
      refine J_aload_n (j := 1) dX9_told_197 rfl rfl ?_
      refine JM_getR (r := 91) fl_WithOneHandModel_44_8 dX9_told_198 c_80 rfl rfl ?_
      refine J_iload (j := 5) dX9_told_201 rfl ?_
      refine JM_iald (j := ix v9) dX9_told_203 c_91 (inb_vp b12) rfl ?_
      refine J_i2l dX9_told_204 ?_
      refine J_lmul dX9_told_205 ?_
      refine J_ladd dX9_told_206 ?_
      obtain ⟨y15, e_y15, hF⟩ := letx_eq hF
      rw [← e_y15]
      refine J_lstore (L' := [(5, .long y15), (7, .long y13), (0, .ref 80), (2, .int v2), (3, .int v3), (9, .int v9)]) dX9_told_207 (by decide) rfl ?_
      refine J_sub [2, 3, 4, 0, 1, 5] rfl ?_
      exact SB_X9_told_209 hd hK160 hF
def f_X9_told_160 (m : MM) : Nat → Int32 → Int32 → Int64 → Int64 → Int32 → Option Int64
  | 0 => fun _ _ _ _ _ => none
  | n + 1 => fun v2 v3 v5 v7 v9 => B_X9_told_160 (f_X9_told_160 m n) v2 v3 v5 v7 v9 m
theorem Sf_X9_told_160 {g : GC} {d : Nat} {x : MX} {m : MM} (hd : 103 ≤ d)  : ∀ (n : Nat) (v2 : Int32) (v3 : Int32) (v5 : Int64) (v7 : Int64) (v9 : Int32) (r : Int64), f_X9_told_160 m n v2 v3 v5 v7 v9 = some r → J g m_X9_told d 0 0 160 [(0, .ref 80), (2, .int v2), (3, .int v3), (5, .long v5), (7, .long v7), (9, .int v9)] [] (ST x m) 0 0 (EQ (some (.long r)) (ST x m)) := by
  intro n
  induction n with
  | zero => intro v2 v3 v5 v7 v9 r  hF; exact absurd hF (fun q => by cases q)
  | succ n ih =>
    intro v2 v3 v5 v7 v9 r  hF
    exact SB_X9_told_160 hd (fun v2 v3 v5 v7 v9 r  hF => ih v2 v3 v5 v7 v9 r  hF) hF
def B_X9_told_157 (v2 : Int32) (v3 : Int32) (v5 : Int64) (v7 : Int64) (m : MM) : Option Int64 :=
  f_X9_told_160 m LF v2 v3 v5 v7 0
theorem SB_X9_told_157 {g : GC} {d : Nat} {v2 : Int32} {v3 : Int32} {v5 : Int64} {v7 : Int64} {x : MX} {m : MM} {r : Int64} (hd : 103 ≤ d) 
  (hF : B_X9_told_157 v2 v3 v5 v7 m = some r) : J g m_X9_told d 0 0 157 [(0, .ref 80), (2, .int v2), (3, .int v3), (5, .long v5), (7, .long v7)] [] (ST x m) 0 0 (EQ (some (.long r)) (ST x m)) := by
  unfold B_X9_told_157 at hF
  refine J_iconst (v := 0) dX9_told_157 (by decide) ?_
  refine J_istore (L' := [(9, .int 0), (0, .ref 80), (2, .int v2), (3, .int v3), (5, .long v5), (7, .long v7)]) dX9_told_158 (by decide) rfl ?_
  refine J_sub [1, 2, 3, 4, 5, 0] rfl ?_
  exact Sf_X9_told_160 hd _ _ _ _ _ _ _ hF
def B_X9_told_66 (K66 : Int32 → Int32 → Int32 → Int32 → Int64 → Int64 → Int32 → Option Int64) (v1 : Int32) (v2 : Int32) (v3 : Int32) (v4 : Int32) (v5 : Int64) (v7 : Int64) (v9 : Int32) (m : MM) : Option Int64 :=
  if inb v1 6 = true then
  if (mi m 107 (ix v1)) ≤ v9 then
  B_X9_told_157 v2 v3 v5 v7 m
  else
  ob (f_X9_intAt v1 v9 m) (fun r16 =>
  if (f_X9_isIn r16 0 ((mi m 80 2) - 1)) = true then
  if (f_X9_has v3 r16) = true then
  B_X9_told_157 v2 v3 v5 v7 m
  else
  letx (v3 ||| ((1 : Int32) <<< (r16 &&& 31))) (fun y20 =>
  if inb r16 8 = true then
  letx (v5 + ((Int32.toInt64 (mi m 91 (ix r16))) * (Int32.toInt64 (v4 + (mi m 92 (ix r16)))))) (fun y22 =>
  K66 v1 v2 y20 (v4 + (mi m 92 (ix r16))) y22 v7 (v9 + 1))
  else none)
  else
  B_X9_told_157 v2 v3 v5 v7 m)
  else none
theorem SB_X9_told_66 {g : GC} {d : Nat} {K66 : Int32 → Int32 → Int32 → Int32 → Int64 → Int64 → Int32 → Option Int64} {v1 : Int32} {v2 : Int32} {v3 : Int32} {v4 : Int32} {v5 : Int64} {v7 : Int64} {v9 : Int32} {x : MX} {m : MM} {r : Int64} (hd : 103 ≤ d) (hK66 : ∀ (v1 : Int32) (v2 : Int32) (v3 : Int32) (v4 : Int32) (v5 : Int64) (v7 : Int64) (v9 : Int32) (r : Int64), K66 v1 v2 v3 v4 v5 v7 v9 = some r → J g m_X9_told d 0 0 66 [(0, .ref 80), (1, .int v1), (2, .int v2), (3, .int v3), (4, .int v4), (5, .long v5), (7, .long v7), (9, .int v9)] [] (ST x m) 0 0 (EQ (some (.long r)) (ST x m)))
  (hF : B_X9_told_66 K66 v1 v2 v3 v4 v5 v7 v9 m = some r) : J g m_X9_told d 0 0 66 [(0, .ref 80), (1, .int v1), (2, .int v2), (3, .int v3), (4, .int v4), (5, .long v5), (7, .long v7), (9, .int v9)] [] (ST x m) 0 0 (EQ (some (.long r)) (ST x m)) := by
  unfold B_X9_told_66 at hF
  refine J_iload (j := 7) dX9_told_66 rfl ?_
  refine J_aload_n (j := 0) dX9_told_68 rfl rfl ?_
  refine JM_getR (r := 107) fl_WithOneHandModel_95_8 dX9_told_69 c_80 rfl rfl ?_
  refine J_iload_n (j := 1) dX9_told_72 rfl rfl ?_
  obtain ⟨b7, hF⟩ := chk hF
  refine JM_iald (j := ix v1) dX9_told_73 c_107 (inb_vp b7) rfl ?_
  refine J_icmp_ge (tgt := 157) dX9_told_74 (by decide) (fun q8 => ?_) (fun q8 => ?_)
  · rw [if_pos q8] at hF
    refine J_sub [0, 2, 3, 5, 6] rfl ?_
    exact SB_X9_told_157 hd hF
  · rw [if_neg q8] at hF
    refine J_aload_n (j := 0) dX9_told_77 rfl rfl ?_
    refine J_iload_n (j := 1) dX9_told_78 rfl rfl ?_
    refine J_iload (j := 7) dX9_told_79 rfl ?_
    obtain ⟨r16, h17, hF⟩ := ob_some hF
    refine JM_callVi (As := [.int v1, .int v9]) (S := []) lkV_WithOneHandModel_126_X9_intAt rfl (by decide) dX9_told_81 c_80 (S_X9_intAt (by omega) h17) (by omega) rfl rfl (Nat.le_of_ble_eq_true rfl) rfl ?_
    refine J_istore (L' := [(10, .int r16), (0, .ref 80), (1, .int v1), (2, .int v2), (3, .int v3), (4, .int v4), (5, .long v5), (7, .long v7), (9, .int v9)]) dX9_told_84 (by decide) rfl ?_
    refine J_aload_n (j := 1) dX9_told_86 rfl rfl ?_
    refine J_iload (j := 0) dX9_told_87 rfl ?_
    refine J_iconst (v := 0) dX9_told_89 (by decide) ?_
    refine J_aload_n (j := 1) dX9_told_90 rfl rfl ?_
    refine JM_getI fl_WithOneHandModel_130_8 dX9_told_91 c_80 rfl ?_
    refine J_iconst (v := 1) dX9_told_94 (by decide) ?_
    refine J_isub dX9_told_95 ?_
    refine JM_callVi (As := [.int r16, .int 0, .int ((mi m 80 2) - 1)]) (S := []) lkV_WithOneHandModel_114_X9_isIn rfl (by decide) dX9_told_96 c_80 (S_X9_isIn (by omega) rfl) (by omega) rfl rfl (Nat.le_of_ble_eq_true rfl) rfl ?_
    refine J_ifb_eq (tgt := 157) dX9_told_99 (by decide) (fun q18 => ?_) (fun q18 => ?_)
    · rw [if_neg q18] at hF
      refine J_sub [1, 3, 4, 6, 7] rfl ?_
      exact SB_X9_told_157 hd hF
    · rw [if_pos q18] at hF
      refine J_aload_n (j := 1) dX9_told_102 rfl rfl ?_
      refine J_iload_n (j := 4) dX9_told_103 rfl rfl ?_
      refine J_iload (j := 0) dX9_told_104 rfl ?_
      refine JM_callVi (As := [.int v3, .int r16]) (S := []) lkV_WithOneHandModel_276_X9_has rfl (by decide) dX9_told_106 c_80 (S_X9_has (by omega) rfl) (by omega) rfl rfl (Nat.le_of_ble_eq_true rfl) rfl ?_
      refine J_ifb_eq (tgt := 115) dX9_told_109 (by decide) (fun q19 => ?_) (fun q19 => ?_)
      · rw [if_neg q19] at hF
        refine J_iload_n (j := 4) dX9_told_115 rfl rfl ?_
        refine J_iconst (v := 1) dX9_told_116 (by decide) ?_
        refine J_iload (j := 0) dX9_told_117 rfl ?_
        refine J_ishl dX9_told_119 ?_
        refine J_ior dX9_told_120 ?_
        obtain ⟨y20, e_y20, hF⟩ := letx_eq hF
        rw [← e_y20]
        refine J_istore_n (L' := [(3, .int y20), (10, .int r16), (0, .ref 80), (1, .int v1), (2, .int v2), (4, .int v4), (5, .long v5), (7, .long v7), (9, .int v9)]) dX9_told_121 rfl (by decide) rfl ?_
        refine J_iload (j := 5) dX9_told_122 rfl ?_
        refine J_aload_n (j := 2) dX9_told_124 rfl rfl ?_
        refine JM_getR (r := 92) fl_WithOneHandModel_47_8 dX9_told_125 c_80 rfl rfl ?_
        refine J_iload (j := 1) dX9_told_128 rfl ?_
        obtain ⟨b21, hF⟩ := chk hF
        refine JM_iald (j := ix r16) dX9_told_130 c_92 (inb_vp b21) rfl ?_
        refine J_iadd dX9_told_131 ?_
        refine J_istore (L' := [(4, .int (v4 + (mi m 92 (ix r16)))), (3, .int y20), (10, .int r16), (0, .ref 80), (1, .int v1), (2, .int v2), (5, .long v5), (7, .long v7), (9, .int v9)]) dX9_told_132 (by decide) rfl ?_
        refine J_lload (j := 6) dX9_told_134 rfl ?_
        refine J_aload_n (j := 3) dX9_told_136 rfl rfl ?_
        refine JM_getR (r := 91) fl_WithOneHandModel_44_8 dX9_told_137 c_80 rfl rfl ?_
        refine J_iload (j := 2) dX9_told_140 rfl ?_
        refine JM_iald (j := ix r16) dX9_told_142 c_91 (inb_vp b21) rfl ?_
        refine J_i2l dX9_told_143 ?_
        refine J_iload (j := 0) dX9_told_144 rfl ?_
        refine J_i2l dX9_told_146 ?_
        refine J_lmul dX9_told_147 ?_
        refine J_ladd dX9_told_148 ?_
        obtain ⟨y22, e_y22, hF⟩ := letx_eq hF
        rw [← e_y22]
        refine J_lstore (L' := [(5, .long y22), (4, .int (v4 + (mi m 92 (ix r16)))), (3, .int y20), (10, .int r16), (0, .ref 80), (1, .int v1), (2, .int v2), (7, .long v7), (9, .int v9)]) dX9_told_149 (by decide) rfl ?_
        refine J_iinc (j := 8) (v := v9 + 1) (L' := [(9, .int (v9 + 1)), (5, .long y22), (4, .int (v4 + (mi m 92 (ix r16)))), (3, .int y20), (10, .int r16), (0, .ref 80), (1, .int v1), (2, .int v2), (7, .long v7)]) dX9_told_151 rfl rfl (by decide) rfl ?_
        refine J_goto (tgt := 66) dX9_told_154 (by decide) ?_
        refine J_sub [5, 6, 7, 3, 2, 1, 8, 0] rfl ?_
        exact hK66 _ _ _ _ _ _ _ _  hF
      · rw [if_pos q19] at hF
        refine J_goto (tgt := 157) dX9_told_112 (by decide) ?_
        refine J_sub [1, 3, 4, 6, 7] rfl ?_
        exact SB_X9_told_157 hd hF
def f_X9_told_66 (m : MM) : Nat → Int32 → Int32 → Int32 → Int32 → Int64 → Int64 → Int32 → Option Int64
  | 0 => fun _ _ _ _ _ _ _ => none
  | n + 1 => fun v1 v2 v3 v4 v5 v7 v9 => B_X9_told_66 (f_X9_told_66 m n) v1 v2 v3 v4 v5 v7 v9 m
theorem Sf_X9_told_66 {g : GC} {d : Nat} {x : MX} {m : MM} (hd : 103 ≤ d)  : ∀ (n : Nat) (v1 : Int32) (v2 : Int32) (v3 : Int32) (v4 : Int32) (v5 : Int64) (v7 : Int64) (v9 : Int32) (r : Int64), f_X9_told_66 m n v1 v2 v3 v4 v5 v7 v9 = some r → J g m_X9_told d 0 0 66 [(0, .ref 80), (1, .int v1), (2, .int v2), (3, .int v3), (4, .int v4), (5, .long v5), (7, .long v7), (9, .int v9)] [] (ST x m) 0 0 (EQ (some (.long r)) (ST x m)) := by
  intro n
  induction n with
  | zero => intro v1 v2 v3 v4 v5 v7 v9 r  hF; exact absurd hF (fun q => by cases q)
  | succ n ih =>
    intro v1 v2 v3 v4 v5 v7 v9 r  hF
    exact SB_X9_told_66 hd (fun v1 v2 v3 v4 v5 v7 v9 r  hF => ih v1 v2 v3 v4 v5 v7 v9 r  hF) hF
def f_X9_told (a1 : Int32) (a2 : Int32) (m : MM) : Option Int64 :=
  if (f_X9_isShelf a1) = true then
  if (f_X9_isIn a2 0 1) = true then
  if inb a1 6 = true then
  if (mi m 105 (ix a1)) = 2 then
  if (mi m 106 (ix a1)) = 0 then
  if (mi m 80 2) = 0 then
  some (-2)
  else
  f_X9_told_66 m LF a1 a2 0 0 0 0 0
  else
  some (-9223372036854775808)
  else
  some (-9223372036854775808)
  else none
  else
  some (-9223372036854775808)
  else
  some (-9223372036854775808)
theorem S_X9_told {g : GC} {d : Nat} {a1 : Int32} {a2 : Int32} {x : MX} {m : MM} {r : Int64} (hd : 103 ≤ d) 
  (hF : f_X9_told a1 a2 m = some r) : JC g m_X9_told d 0 0 [.ref 80, .int a1, .int a2] (ST x m) (EQ (some (.long r)) (ST x m)) := by
  refine JC.of (by decide +kernel) (Nat.le_of_ble_eq_true rfl) ?_
  change J g m_X9_told d 0 0 0 [(0, .ref 80), (1, .int a1), (2, .int a2)] [] (ST x m) 0 0 (EQ (some (.long r)) (ST x m))
  unfold f_X9_told at hF
  refine J_aload_n (j := 0) dX9_told_0 rfl rfl ?_
  refine J_iload_n (j := 1) dX9_told_1 rfl rfl ?_
  refine JM_callVi (As := [.int a1]) (S := []) lkV_WithOneHandModel_122_X9_isShelf rfl (by decide) dX9_told_2 c_80 (S_X9_isShelf (by omega) rfl) (by omega) rfl rfl (Nat.le_of_ble_eq_true rfl) rfl ?_
  refine J_ifb_eq (tgt := 37) dX9_told_5 (by decide) (fun q1 => ?_) (fun q1 => ?_)
  · rw [if_neg q1] at hF
    refine J_ldc2 (v := (-9223372036854775808)) (tb 1289 (by decide +kernel)) dX9_told_37 ?_
    have e_r := Option.some.inj hF
    subst e_r
    exact J_lreturn rfl dX9_told_40 ⟨rfl, rfl⟩
  · rw [if_pos q1] at hF
    refine J_aload_n (j := 0) dX9_told_8 rfl rfl ?_
    refine J_iload_n (j := 2) dX9_told_9 rfl rfl ?_
    refine J_iconst (v := 0) dX9_told_10 (by decide) ?_
    refine J_iconst (v := 1) dX9_told_11 (by decide) ?_
    refine JM_callVi (As := [.int a2, .int 0, .int 1]) (S := []) lkV_WithOneHandModel_114_X9_isIn rfl (by decide) dX9_told_12 c_80 (S_X9_isIn (by omega) rfl) (by omega) rfl rfl (Nat.le_of_ble_eq_true rfl) rfl ?_
    refine J_ifb_eq (tgt := 37) dX9_told_15 (by decide) (fun q2 => ?_) (fun q2 => ?_)
    · rw [if_neg q2] at hF
      refine J_ldc2 (v := (-9223372036854775808)) (tb 1289 (by decide +kernel)) dX9_told_37 ?_
      have e_r := Option.some.inj hF
      subst e_r
      exact J_lreturn rfl dX9_told_40 ⟨rfl, rfl⟩
    · rw [if_pos q2] at hF
      refine J_aload_n (j := 0) dX9_told_18 rfl rfl ?_
      refine JM_getR (r := 105) fl_WithOneHandModel_89_8 dX9_told_19 c_80 rfl rfl ?_
      refine J_iload_n (j := 1) dX9_told_22 rfl rfl ?_
      obtain ⟨b3, hF⟩ := chk hF
      refine JM_iald (j := ix a1) dX9_told_23 c_105 (inb_vp b3) rfl ?_
      refine J_iconst (v := 2) dX9_told_24 (by decide) ?_
      refine J_icmp_ne (tgt := 37) dX9_told_25 (by decide) (fun q4 => ?_) (fun q4 => ?_)
      · rw [if_neg q4] at hF
        refine J_ldc2 (v := (-9223372036854775808)) (tb 1289 (by decide +kernel)) dX9_told_37 ?_
        have e_r := Option.some.inj hF
        subst e_r
        exact J_lreturn rfl dX9_told_40 ⟨rfl, rfl⟩
      · rw [if_pos q4] at hF
        refine J_aload_n (j := 0) dX9_told_28 rfl rfl ?_
        refine JM_getR (r := 106) fl_WithOneHandModel_92_8 dX9_told_29 c_80 rfl rfl ?_
        refine J_iload_n (j := 1) dX9_told_32 rfl rfl ?_
        refine JM_iald (j := ix a1) dX9_told_33 c_106 (inb_vp b3) rfl ?_
        refine J_if_eq (tgt := 41) dX9_told_34 (by decide) (fun q5 => ?_) (fun q5 => ?_)
        · rw [if_pos q5] at hF
          refine J_aload_n (j := 0) dX9_told_41 rfl rfl ?_
          refine JM_getI fl_WithOneHandModel_130_8 dX9_told_42 c_80 rfl ?_
          refine J_if_ne (tgt := 52) dX9_told_45 (by decide) (fun q6 => ?_) (fun q6 => ?_)
          · rw [if_neg q6] at hF
            refine J_iconst (v := 0) dX9_told_52 (by decide) ?_
            refine J_istore_n (L' := [(3, .int 0), (0, .ref 80), (1, .int a1), (2, .int a2)]) dX9_told_53 rfl (by decide) rfl ?_
            refine J_iconst (v := 0) dX9_told_54 (by decide) ?_
            refine J_istore (L' := [(4, .int 0), (3, .int 0), (0, .ref 80), (1, .int a1), (2, .int a2)]) dX9_told_55 (by decide) rfl ?_
            refine J_lconst (v := 0) dX9_told_57 (by decide) ?_
            refine J_lstore (L' := [(5, .long 0), (4, .int 0), (3, .int 0), (0, .ref 80), (1, .int a1), (2, .int a2)]) dX9_told_58 (by decide) rfl ?_
            refine J_lconst (v := 0) dX9_told_60 (by decide) ?_
            refine J_lstore (L' := [(7, .long 0), (5, .long 0), (4, .int 0), (3, .int 0), (0, .ref 80), (1, .int a1), (2, .int a2)]) dX9_told_61 (by decide) rfl ?_
            refine J_iconst (v := 0) dX9_told_63 (by decide) ?_
            refine J_istore (L' := [(9, .int 0), (7, .long 0), (5, .long 0), (4, .int 0), (3, .int 0), (0, .ref 80), (1, .int a1), (2, .int a2)]) dX9_told_64 (by decide) rfl ?_
            refine J_sub [5, 6, 7, 4, 3, 2, 1, 0] rfl ?_
            exact Sf_X9_told_66 hd _ _ _ _ _ _ _ _ _ hF
          · rw [if_pos q6] at hF
            refine J_ldc2 (v := (-2)) (tb 1311 (by decide +kernel)) dX9_told_48 ?_
            have e_r := Option.some.inj hF
            subst e_r
            exact J_lreturn rfl dX9_told_51 ⟨rfl, rfl⟩
        · rw [if_neg q5] at hF
          refine J_ldc2 (v := (-9223372036854775808)) (tb 1289 (by decide +kernel)) dX9_told_37 ?_
          have e_r := Option.some.inj hF
          subst e_r
          exact J_lreturn rfl dX9_told_40 ⟨rfl, rfl⟩
def B_X8_asked_103 (K55 : Int32 → Int32 → Int32 → Int32 → Int32 → Int32 → Int32 → MX → Option (Int32 × MX)) (v1 : Int32) (v3 : Int32) (v4 : Int32) (v5 : Int32) (v7 : Int32) (v8 : Int32) (t0 : Int32) (t1 : Int32) (x : MX) : Option (Int32 × MX) :=
  K55 v1 v3 v4 v5 (t1 + t0) v7 (v8 + 1) x
theorem SB_X8_asked_103 {g : GC} {d : Nat} {K55 : Int32 → Int32 → Int32 → Int32 → Int32 → Int32 → Int32 → MX → Option (Int32 × MX)} {v1 : Int32} {v3 : Int32} {v4 : Int32} {v5 : Int32} {v7 : Int32} {v8 : Int32} {t0 : Int32} {t1 : Int32} {x : MX} {m : MM} {r : Int32} {z : MX} (hd : 6 ≤ d) (hK55 : ∀ (v1 : Int32) (v3 : Int32) (v4 : Int32) (v5 : Int32) (v6 : Int32) (v7 : Int32) (v8 : Int32) (x : MX) (r : Int32) (z : MX), K55 v1 v3 v4 v5 v6 v7 v8 x = some (r, z) → J g m_X8_asked d 0 0 55 [(0, .ref 5), (1, .int v1), (3, .int v3), (4, .int v4), (5, .int v5), (6, .int v6), (7, .int v7), (8, .int v8)] [] (ST x m) 0 0 (EQ (some (.int r)) (ST z m)))
  (hF : B_X8_asked_103 K55 v1 v3 v4 v5 v7 v8 t0 t1 x = some (r, z)) : J g m_X8_asked d 0 0 103 [(0, .ref 5), (1, .int v1), (3, .int v3), (4, .int v4), (5, .int v5), (7, .int v7), (8, .int v8)] [.int t0, .int t1] (ST x m) 0 0 (EQ (some (.int r)) (ST z m)) := by
  unfold B_X8_asked_103 at hF
  refine J_iadd dX8_asked_103 ?_
  refine J_istore (L' := [(6, .int (t1 + t0)), (0, .ref 5), (1, .int v1), (3, .int v3), (4, .int v4), (5, .int v5), (7, .int v7), (8, .int v8)]) dX8_asked_104 (by decide) rfl ?_
  refine J_iinc (j := 7) (v := v8 + 1) (L' := [(8, .int (v8 + 1)), (6, .int (t1 + t0)), (0, .ref 5), (1, .int v1), (3, .int v3), (4, .int v4), (5, .int v5), (7, .int v7)]) dX8_asked_106 rfl rfl (by decide) rfl ?_
  refine J_goto (tgt := 55) dX8_asked_109 (by decide) ?_
  refine J_sub [2, 3, 4, 5, 6, 1, 7, 0] rfl ?_
  exact hK55 _ _ _ _ _ _ _ _ _ _  hF
def B_X8_asked_55 (K55 : Int32 → Int32 → Int32 → Int32 → Int32 → Int32 → Int32 → MX → Option (Int32 × MX)) (v1 : Int32) (v3 : Int32) (v4 : Int32) (v5 : Int32) (v6 : Int32) (v7 : Int32) (v8 : Int32) (x : MX) : Option (Int32 × MX) :=
  if v1 ≤ v8 then
  if v3 = 0 then
  some (v6, x)
  else
  if v6 ≤ v7 then
  some (0, x)
  else
  some (1, x)
  else
  ob2 (f_X8_takesBySkill v8 v8 v4 0 x) (fun r9 x10 =>
  if v5 ≤ v6 then
  B_X8_asked_103 K55 v1 v3 v4 v5 (v7 + r9) v8 r9 v6 x10
  else
  ob2 (f_X8_takesNow v8 v8 x10) (fun r13 x14 =>
  B_X8_asked_103 K55 v1 v3 v4 v5 (v7 + r9) v8 r13 v6 x14))
theorem SB_X8_asked_55 {g : GC} {d : Nat} {K55 : Int32 → Int32 → Int32 → Int32 → Int32 → Int32 → Int32 → MX → Option (Int32 × MX)} {v1 : Int32} {v3 : Int32} {v4 : Int32} {v5 : Int32} {v6 : Int32} {v7 : Int32} {v8 : Int32} {x : MX} {m : MM} {r : Int32} {z : MX} (hd : 6 ≤ d) (hK55 : ∀ (v1 : Int32) (v3 : Int32) (v4 : Int32) (v5 : Int32) (v6 : Int32) (v7 : Int32) (v8 : Int32) (x : MX) (r : Int32) (z : MX), K55 v1 v3 v4 v5 v6 v7 v8 x = some (r, z) → J g m_X8_asked d 0 0 55 [(0, .ref 5), (1, .int v1), (3, .int v3), (4, .int v4), (5, .int v5), (6, .int v6), (7, .int v7), (8, .int v8)] [] (ST x m) 0 0 (EQ (some (.int r)) (ST z m)))
  (hF : B_X8_asked_55 K55 v1 v3 v4 v5 v6 v7 v8 x = some (r, z)) : J g m_X8_asked d 0 0 55 [(0, .ref 5), (1, .int v1), (3, .int v3), (4, .int v4), (5, .int v5), (6, .int v6), (7, .int v7), (8, .int v8)] [] (ST x m) 0 0 (EQ (some (.int r)) (ST z m)) := by
  unfold B_X8_asked_55 at hF
  refine J_iload (j := 7) dX8_asked_55 rfl ?_
  refine J_iload_n (j := 1) dX8_asked_57 rfl rfl ?_
  refine J_icmp_ge (tgt := 112) dX8_asked_58 (by decide) (fun q6 => ?_) (fun q6 => ?_)
  · rw [if_pos q6] at hF
    refine J_iload_n (j := 2) dX8_asked_112 rfl rfl ?_
    refine J_if_ne (tgt := 119) dX8_asked_113 (by decide) (fun q7 => ?_) (fun q7 => ?_)
    · rw [if_neg q7] at hF
      refine J_iload (j := 6) dX8_asked_119 rfl ?_
      refine J_iload (j := 5) dX8_asked_121 rfl ?_
      refine J_icmp_ge (tgt := 130) dX8_asked_123 (by decide) (fun q8 => ?_) (fun q8 => ?_)
      · rw [if_pos q8] at hF
        refine J_iconst (v := 0) dX8_asked_130 (by decide) ?_
        obtain ⟨e_r, e_z⟩ := someP hF
        subst e_r
        subst e_z
        exact J_ireturn rfl rfl dX8_asked_131 ⟨rfl, rfl⟩
      · rw [if_neg q8] at hF
        refine J_iconst (v := 1) dX8_asked_126 (by decide) ?_
        refine J_goto (tgt := 131) dX8_asked_127 (by decide) ?_
        obtain ⟨e_r, e_z⟩ := someP hF
        subst e_r
        subst e_z
        exact J_ireturn rfl rfl dX8_asked_131 ⟨rfl, rfl⟩
    · rw [if_pos q7] at hF
      refine J_iload (j := 5) dX8_asked_116 rfl ?_
      obtain ⟨e_r, e_z⟩ := someP hF
      subst e_r
      subst e_z
      exact J_ireturn rfl rfl dX8_asked_118 ⟨rfl, rfl⟩
  · rw [if_neg q6] at hF
    refine J_aload_n (j := 0) dX8_asked_61 rfl rfl ?_
    refine J_iload (j := 7) dX8_asked_62 rfl ?_
    refine J_iload (j := 7) dX8_asked_64 rfl ?_
    refine J_iload (j := 3) dX8_asked_66 rfl ?_
    refine J_iconst (v := 0) dX8_asked_68 (by decide) ?_
    obtain ⟨r9, x10, h11, hF⟩ := ob2_some hF
    refine JX_callVi (As := [.int v8, .int v8, .int v4, .int 0]) (S := []) lkV_WithOneHand_210_X8_takesBySkill rfl (by decide) dX8_asked_69 c_5 (S_X8_takesBySkill (by omega) h11) (by omega) rfl rfl (Nat.le_of_ble_eq_true rfl) rfl ?_
    refine J_istore (L' := [(9, .int r9), (0, .ref 5), (1, .int v1), (3, .int v3), (4, .int v4), (5, .int v5), (6, .int v6), (7, .int v7), (8, .int v8)]) dX8_asked_72 (by decide) rfl ?_
    refine J_iload (j := 7) dX8_asked_74 rfl ?_
    refine J_iload (j := 0) dX8_asked_76 rfl ?_
    refine J_iadd dX8_asked_78 ?_
    refine J_istore (L' := [(7, .int (v7 + r9)), (9, .int r9), (0, .ref 5), (1, .int v1), (3, .int v3), (4, .int v4), (5, .int v5), (6, .int v6), (8, .int v8)]) dX8_asked_79 (by decide) rfl ?_
    refine J_iload (j := 7) dX8_asked_81 rfl ?_
    refine J_iload (j := 7) dX8_asked_83 rfl ?_
    refine J_iload (j := 6) dX8_asked_85 rfl ?_
    refine J_icmp_ge (tgt := 101) dX8_asked_87 (by decide) (fun q12 => ?_) (fun q12 => ?_)
    · rw [if_pos q12] at hF
      refine J_iload (j := 1) dX8_asked_101 rfl ?_
      refine J_sub [2, 3, 4, 5, 6, 0, 8] rfl ?_
      exact SB_X8_asked_103 hd hK55 hF
    · rw [if_neg q12] at hF
      refine J_aload_n (j := 2) dX8_asked_90 rfl rfl ?_
      refine J_iload (j := 8) dX8_asked_91 rfl ?_
      refine J_iload (j := 8) dX8_asked_93 rfl ?_
      obtain ⟨r13, x14, h15, hF⟩ := ob2_some hF
      refine JX_callVi (As := [.int v8, .int v8]) (S := [.int v6]) lkV_WithOneHand_135_X8_takesNow rfl (by decide) dX8_asked_95 c_5 (S_X8_takesNow (by omega) h15) (by omega) rfl rfl (Nat.le_of_ble_eq_true rfl) rfl ?_
      refine J_goto (tgt := 103) dX8_asked_98 (by decide) ?_
      refine J_sub [2, 3, 4, 5, 6, 0, 8] rfl ?_
      exact SB_X8_asked_103 hd hK55 hF
def f_X8_asked_55  : Nat → Int32 → Int32 → Int32 → Int32 → Int32 → Int32 → Int32 → MX → Option (Int32 × MX)
  | 0 => fun _ _ _ _ _ _ _ _ => none
  | n + 1 => fun v1 v3 v4 v5 v6 v7 v8 x => B_X8_asked_55 (f_X8_asked_55  n) v1 v3 v4 v5 v6 v7 v8 x
theorem Sf_X8_asked_55 {g : GC} {d : Nat} {m : MM} (hd : 6 ≤ d)  : ∀ (n : Nat) (v1 : Int32) (v3 : Int32) (v4 : Int32) (v5 : Int32) (v6 : Int32) (v7 : Int32) (v8 : Int32) (x : MX) (r : Int32) (z : MX), f_X8_asked_55  n v1 v3 v4 v5 v6 v7 v8 x = some (r, z) → J g m_X8_asked d 0 0 55 [(0, .ref 5), (1, .int v1), (3, .int v3), (4, .int v4), (5, .int v5), (6, .int v6), (7, .int v7), (8, .int v8)] [] (ST x m) 0 0 (EQ (some (.int r)) (ST z m)) := by
  intro n
  induction n with
  | zero => intro v1 v3 v4 v5 v6 v7 v8 x r z  hF; exact absurd hF (fun q => by cases q)
  | succ n ih =>
    intro v1 v3 v4 v5 v6 v7 v8 x r z  hF
    exact SB_X8_asked_55 hd (fun v1 v3 v4 v5 v6 v7 v8 x r z  hF => ih v1 v3 v4 v5 v6 v7 v8 x r z  hF) hF
def f_X8_asked (a1 : Int32) (a2 : Int32) (a3 : Int32) (x : MX) : Option (Int32 × MX) :=
  if a1 < 0 then
  some ((-1), x)
  else
  if (f_X8_bothCount x) < a1 then
  some ((-1), x)
  else
  if a2 < 0 then
  some ((-1), x)
  else
  if 99999 < a2 then
  some ((-1), x)
  else
  if (f_X8_isPart a3) = true then
  f_X8_asked_55 LF a1 a3 (a2 / 10000) (a2 % 10000) 0 (a2 % 10000) 0 x
  else
  some ((-1), x)
theorem S_X8_asked {g : GC} {d : Nat} {a1 : Int32} {a2 : Int32} {a3 : Int32} {x : MX} {m : MM} {r : Int32} {z : MX} (hd : 6 ≤ d) 
  (hF : f_X8_asked a1 a2 a3 x = some (r, z)) : JC g m_X8_asked d 0 0 [.ref 5, .int a1, .int a2, .int a3] (ST x m) (EQ (some (.int r)) (ST z m)) := by
  refine JC.of (by decide +kernel) (Nat.le_of_ble_eq_true rfl) ?_
  change J g m_X8_asked d 0 0 0 [(0, .ref 5), (1, .int a1), (2, .int a2), (3, .int a3)] [] (ST x m) 0 0 (EQ (some (.int r)) (ST z m))
  unfold f_X8_asked at hF
  refine J_iload_n (j := 1) dX8_asked_0 rfl rfl ?_
  refine J_if_lt (tgt := 29) dX8_asked_1 (by decide) (fun q1 => ?_) (fun q1 => ?_)
  · rw [if_pos q1] at hF
    refine J_iconst (v := (-1)) dX8_asked_29 (by decide) ?_
    obtain ⟨e_r, e_z⟩ := someP hF
    subst e_r
    subst e_z
    exact J_ireturn rfl rfl dX8_asked_30 ⟨rfl, rfl⟩
  · rw [if_neg q1] at hF
    refine J_iload_n (j := 1) dX8_asked_4 rfl rfl ?_
    refine J_aload_n (j := 0) dX8_asked_5 rfl rfl ?_
    refine JX_callVi (As := []) (S := [.int a1]) lkV_WithOneHand_162_X8_bothCount rfl (by decide) dX8_asked_6 c_5 (S_X8_bothCount (by omega) rfl) (by omega) rfl rfl (Nat.le_of_ble_eq_true rfl) rfl ?_
    refine J_icmp_gt (tgt := 29) dX8_asked_9 (by decide) (fun q2 => ?_) (fun q2 => ?_)
    · rw [if_pos q2] at hF
      refine J_iconst (v := (-1)) dX8_asked_29 (by decide) ?_
      obtain ⟨e_r, e_z⟩ := someP hF
      subst e_r
      subst e_z
      exact J_ireturn rfl rfl dX8_asked_30 ⟨rfl, rfl⟩
    · rw [if_neg q2] at hF
      refine J_iload_n (j := 2) dX8_asked_12 rfl rfl ?_
      refine J_if_lt (tgt := 29) dX8_asked_13 (by decide) (fun q3 => ?_) (fun q3 => ?_)
      · rw [if_pos q3] at hF
        refine J_iconst (v := (-1)) dX8_asked_29 (by decide) ?_
        obtain ⟨e_r, e_z⟩ := someP hF
        subst e_r
        subst e_z
        exact J_ireturn rfl rfl dX8_asked_30 ⟨rfl, rfl⟩
      · rw [if_neg q3] at hF
        refine J_iload_n (j := 2) dX8_asked_16 rfl rfl ?_
        refine J_ldc (v := 99999) (tb 692 (by decide +kernel)) dX8_asked_17 ?_
        refine J_icmp_gt (tgt := 29) dX8_asked_19 (by decide) (fun q4 => ?_) (fun q4 => ?_)
        · rw [if_pos q4] at hF
          refine J_iconst (v := (-1)) dX8_asked_29 (by decide) ?_
          obtain ⟨e_r, e_z⟩ := someP hF
          subst e_r
          subst e_z
          exact J_ireturn rfl rfl dX8_asked_30 ⟨rfl, rfl⟩
        · rw [if_neg q4] at hF
          refine J_iload_n (j := 3) dX8_asked_22 rfl rfl ?_
          refine J_callSi (As := [.int a3]) (S := []) lkS_WithOneHand_179_X8_isPart dX8_asked_23 (S_X8_isPart (by omega) rfl) (by omega) rfl rfl (Nat.le_of_ble_eq_true rfl) rfl ?_
          refine J_ifb_ne (tgt := 31) dX8_asked_26 (by decide) (fun q5 => ?_) (fun q5 => ?_)
          · rw [if_pos q5] at hF
            refine J_iload_n (j := 2) dX8_asked_31 rfl rfl ?_
            refine J_sipush (v := 10000) dX8_asked_32 (by decide) ?_
            refine J_idiv dX8_asked_35 (by decide) ?_
            refine J_istore (L' := [(4, .int (a2 / 10000)), (0, .ref 5), (1, .int a1), (2, .int a2), (3, .int a3)]) dX8_asked_36 (by decide) rfl ?_
            refine J_iload_n (j := 3) dX8_asked_38 rfl rfl ?_
            refine J_sipush (v := 10000) dX8_asked_39 (by decide) ?_
            refine J_irem dX8_asked_42 (by decide) ?_
            refine J_istore (L' := [(5, .int (a2 % 10000)), (4, .int (a2 / 10000)), (0, .ref 5), (1, .int a1), (2, .int a2), (3, .int a3)]) dX8_asked_43 (by decide) rfl ?_
            refine J_iconst (v := 0) dX8_asked_45 (by decide) ?_
            refine J_istore (L' := [(6, .int 0), (5, .int (a2 % 10000)), (4, .int (a2 / 10000)), (0, .ref 5), (1, .int a1), (2, .int a2), (3, .int a3)]) dX8_asked_46 (by decide) rfl ?_
            refine J_iload (j := 1) dX8_asked_48 rfl ?_
            refine J_istore (L' := [(7, .int (a2 % 10000)), (6, .int 0), (5, .int (a2 % 10000)), (4, .int (a2 / 10000)), (0, .ref 5), (1, .int a1), (2, .int a2), (3, .int a3)]) dX8_asked_50 (by decide) rfl ?_
            refine J_iconst (v := 0) dX8_asked_52 (by decide) ?_
            refine J_istore (L' := [(8, .int 0), (7, .int (a2 % 10000)), (6, .int 0), (5, .int (a2 % 10000)), (4, .int (a2 / 10000)), (0, .ref 5), (1, .int a1), (2, .int a2), (3, .int a3)]) dX8_asked_53 (by decide) rfl ?_
            refine J_sub [5, 6, 8, 4, 3, 2, 1, 0] rfl ?_
            exact Sf_X8_asked_55 hd _ _ _ _ _ _ _ _ _ _ _ hF
          · rw [if_neg q5] at hF
            refine J_iconst (v := (-1)) dX8_asked_29 (by decide) ?_
            obtain ⟨e_r, e_z⟩ := someP hF
            subst e_r
            subst e_z
            exact J_ireturn rfl rfl dX8_asked_30 ⟨rfl, rfl⟩
