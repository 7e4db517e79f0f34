def B_X3_readsLine_63 (v0 : Nat) (v1 : Int32) (v2 : Int32) (x : MX) : Option (Bool × MX) :=
  ob (f_X3_add v0 59 0 x) (fun x9 =>
  if v2 = 0 then
  some (true, x9)
  else
  if 121 ≤ v1 then
  some (true, x9)
  else
  if inb v1 121 = true then
  letx (xs x9 (v0 + 2) (ix v1) (xi x9 v0 4)) (fun x14 =>
  some (true, x14))
  else none)
theorem SB_X3_readsLine_63 {g : GC} {d : Nat} {v0 : Nat} {v1 : Int32} {v2 : Int32} {x : MX} {m : MM} {r : Bool} {z : MX} (hd : 104 ≤ d) (e_v0 : isLaw v0)
  (hF : B_X3_readsLine_63 v0 v1 v2 x = some (r, z)) : J g m_X3_readsLine d 0 0 63 [(0, .ref v0), (1, .int v1), (2, .int v2)] [] (ST x m) 0 0 (EQ (some (.int (b2i r))) (ST z m)) := by
  unfold B_X3_readsLine_63 at hF
  refine J_aload_n (j := 0) dX3_readsLine_63 rfl rfl ?_
  refine J_bipush (v := 59) dX3_readsLine_64 (by decide) ?_
  refine J_iconst (v := 0) dX3_readsLine_66 (by decide) ?_
  obtain ⟨x9, h10, hF⟩ := ob_some hF
  refine JX_callVv (As := [.int 59, .int 0]) (S := []) lkV_Law_49_X3_add rfl (by decide) dX3_readsLine_67 (c_law e_v0) (S_X3_add (by omega) e_v0 h10) (by omega) rfl rfl (Nat.le_of_ble_eq_true rfl) rfl ?_
  refine J_iload_n (j := 2) dX3_readsLine_70 rfl rfl ?_
  refine J_if_eq (tgt := 93) dX3_readsLine_71 (by decide) (fun q11 => ?_) (fun q11 => ?_)
  · rw [if_pos q11] at hF
    refine J_iconst (v := 1) dX3_readsLine_93 (by decide) ?_
    obtain ⟨e_r, e_z⟩ := someP hF
    subst e_r
    subst e_z
    exact J_ireturn rfl rfl dX3_readsLine_94 ⟨rfl, rfl⟩
  · rw [if_neg q11] at hF
    refine J_iload_n (j := 1) dX3_readsLine_74 rfl rfl ?_
    refine J_aload_n (j := 0) dX3_readsLine_75 rfl rfl ?_
    refine JX_getR (r := (v0 + 2)) fl_Law_15_3 dX3_readsLine_76 (c_law e_v0) rfl rfl ?_
    refine JX_alenI (v := 121) dX3_readsLine_79 (c_law2 e_v0) (by decide) ?_
    refine J_icmp_ge (tgt := 93) dX3_readsLine_80 (by decide) (fun q12 => ?_) (fun q12 => ?_)
    · rw [if_pos q12] at hF
      refine J_iconst (v := 1) dX3_readsLine_93 (by decide) ?_
      obtain ⟨e_r, e_z⟩ := someP hF
      subst e_r
      subst e_z
      exact J_ireturn rfl rfl dX3_readsLine_94 ⟨rfl, rfl⟩
    · rw [if_neg q12] at hF
      refine J_aload_n (j := 0) dX3_readsLine_83 rfl rfl ?_
      refine JX_getR (r := (v0 + 2)) fl_Law_15_3 dX3_readsLine_84 (c_law e_v0) rfl rfl ?_
      refine J_iload_n (j := 1) dX3_readsLine_87 rfl rfl ?_
      refine J_aload_n (j := 0) dX3_readsLine_88 rfl rfl ?_
      refine JX_getI fl_Law_27_3 dX3_readsLine_89 (c_law e_v0) rfl ?_
      obtain ⟨b13, hF⟩ := chk hF
      obtain ⟨x14, e_x14, hF⟩ := letx_eq hF
      refine JX_iast (j := ix v1) dX3_readsLine_92 (c_law2 e_v0) (inb_vp b13) rfl ?_
      rw [← e_x14]
      refine J_iconst (v := 1) dX3_readsLine_93 (by decide) ?_
      obtain ⟨e_r, e_z⟩ := someP hF
      subst e_r
      subst e_z
      exact J_ireturn rfl rfl dX3_readsLine_94 ⟨rfl, rfl⟩
def B_X3_readsLine_30 (v0 : Nat) (v1 : Int32) (t0 : Int32) (x : MX) : Option (Bool × MX) :=
  if t0 = 0 then
  B_X3_readsLine_63 v0 v1 t0 x
  else
  letx (xs x v0 6 ((xi x v0 6) + 1)) (fun x15 =>
  ob (f_X3_add v0 63 0 x15) (fun x16 =>
  ob2 (f_X3_readsPart v0 0 0 x16) (fun r18 x19 =>
  if r18 = true then
  B_X3_readsLine_63 v0 v1 t0 x19
  else
  some (false, x19))))
theorem SB_X3_readsLine_30 {g : GC} {d : Nat} {v0 : Nat} {v1 : Int32} {t0 : Int32} {x : MX} {m : MM} {r : Bool} {z : MX} (hd : 104 ≤ d) (e_v0 : isLaw v0)
  (hF : B_X3_readsLine_30 v0 v1 t0 x = some (r, z)) : J g m_X3_readsLine d 0 0 30 [(0, .ref v0), (1, .int v1)] [.int t0] (ST x m) 0 0 (EQ (some (.int (b2i r))) (ST z m)) := by
  unfold B_X3_readsLine_30 at hF
  refine J_istore_n (L' := [(2, .int t0), (0, .ref v0), (1, .int v1)]) dX3_readsLine_30 rfl (by decide) rfl ?_
  refine J_iload_n (j := 0) dX3_readsLine_31 rfl rfl ?_
  refine J_if_eq (tgt := 63) dX3_readsLine_32 (by decide) (fun q8 => ?_) (fun q8 => ?_)
  · rw [if_pos q8] at hF
    refine J_sub [1, 2, 0] rfl ?_
    exact SB_X3_readsLine_63 hd e_v0 hF
  · rw [if_neg q8] at hF
    refine J_aload_n (j := 1) dX3_readsLine_35 rfl rfl ?_
    refine J_dup dX3_readsLine_36 rfl ?_
    refine JX_getI fl_Law_31_3 dX3_readsLine_37 (c_law e_v0) rfl ?_
    refine J_iconst (v := 1) dX3_readsLine_40 (by decide) ?_
    refine J_iadd dX3_readsLine_41 ?_
    obtain ⟨x15, e_x15, hF⟩ := letx_eq hF
    refine JX_putI fl_Law_31_3 dX3_readsLine_42 (c_law e_v0) rfl rfl rfl ?_
    rw [← e_x15]
    refine J_aload_n (j := 1) dX3_readsLine_45 rfl rfl ?_
    refine J_bipush (v := 63) dX3_readsLine_46 (by decide) ?_
    refine J_iconst (v := 0) dX3_readsLine_48 (by decide) ?_
    obtain ⟨x16, h17, hF⟩ := ob_some hF
    refine JX_callVv (As := [.int 63, .int 0]) (S := []) lkV_Law_49_X3_add rfl (by decide) dX3_readsLine_49 (c_law e_v0) (S_X3_add (by omega) e_v0 h17) (by omega) rfl rfl (Nat.le_of_ble_eq_true rfl) rfl ?_
    refine J_aload_n (j := 1) dX3_readsLine_52 rfl rfl ?_
    refine J_iconst (v := 0) dX3_readsLine_53 (by decide) ?_
    refine J_iconst (v := 0) dX3_readsLine_54 (by decide) ?_
    obtain ⟨r18, x19, h20, hF⟩ := ob2_some hF
    refine JX_callVi (As := [.int 0, .int 0]) (S := []) lkV_Law_45_X3_readsPart rfl (by decide) dX3_readsLine_55 (c_law e_v0) (S_X3_readsPart (by omega) e_v0 h20) (by omega) rfl rfl (Nat.le_of_ble_eq_true rfl) rfl ?_
    refine J_ifb_ne (tgt := 63) dX3_readsLine_58 (by decide) (fun q21 => ?_) (fun q21 => ?_)
    · rw [if_pos q21] at hF
      refine J_sub [1, 2, 0] rfl ?_
      exact SB_X3_readsLine_63 hd e_v0 hF
    · rw [if_neg q21] at hF
      refine J_iconst (v := 0) dX3_readsLine_61 (by decide) ?_
      obtain ⟨e_r, e_z⟩ := someP hF
      subst e_r
      subst e_z
      exact J_ireturn rfl rfl dX3_readsLine_62 ⟨rfl, rfl⟩
def f_X3_readsLine (h0 : Nat) (x : MX) : Option (Bool × MX) :=
  ob2 (f_X3_readsPart h0 0 0 x) (fun r1 x2 =>
  if r1 = true then
  ob (f_X3_here h0 x2) (fun r5 =>
  if r5 = 63 then
  B_X3_readsLine_30 h0 (xi x2 h0 4) 1 x2
  else
  B_X3_readsLine_30 h0 (xi x2 h0 4) 0 x2)
  else
  some (false, x2))
theorem S_X3_readsLine {g : GC} {d : Nat} {h0 : Nat} {x : MX} {m : MM} {r : Bool} {z : MX} (hd : 104 ≤ d) (e_h0 : isLaw h0)
  (hF : f_X3_readsLine h0 x = some (r, z)) : JC g m_X3_readsLine d 0 0 [.ref h0] (ST x m) (EQ (some (.int (b2i r))) (ST z m)) := by
  refine JC.of (by decide +kernel) (Nat.le_of_ble_eq_true rfl) ?_
  change J g m_X3_readsLine d 0 0 0 [(0, .ref h0)] [] (ST x m) 0 0 (EQ (some (.int (b2i r))) (ST z m))
  unfold f_X3_readsLine at hF
  refine J_aload_n (j := 0) dX3_readsLine_0 rfl rfl ?_
  refine J_iconst (v := 0) dX3_readsLine_1 (by decide) ?_
  refine J_iconst (v := 0) dX3_readsLine_2 (by decide) ?_
  obtain ⟨r1, x2, h3, hF⟩ := ob2_some hF
  refine JX_callVi (As := [.int 0, .int 0]) (S := []) lkV_Law_45_X3_readsPart rfl (by decide) dX3_readsLine_3 (c_law e_h0) (S_X3_readsPart (by omega) e_h0 h3) (by omega) rfl rfl (Nat.le_of_ble_eq_true rfl) rfl ?_
  refine J_ifb_ne (tgt := 11) dX3_readsLine_6 (by decide) (fun q4 => ?_) (fun q4 => ?_)
  · rw [if_pos q4] at hF
    refine J_aload_n (j := 0) dX3_readsLine_11 rfl rfl ?_
    refine JX_getI fl_Law_27_3 dX3_readsLine_12 (c_law e_h0) rfl ?_
    refine J_istore_n (L' := [(1, .int (xi x2 h0 4)), (0, .ref h0)]) dX3_readsLine_15 rfl (by decide) rfl ?_
    refine J_aload_n (j := 1) dX3_readsLine_16 rfl rfl ?_
    obtain ⟨r5, h6, hF⟩ := ob_some hF
    refine JX_callVi (As := []) (S := []) lkV_Law_41_X3_here rfl (by decide) dX3_readsLine_17 (c_law e_h0) (S_X3_here (by omega) e_h0 h6) (by omega) rfl rfl (Nat.le_of_ble_eq_true rfl) rfl ?_
    refine J_bipush (v := 63) dX3_readsLine_20 (by decide) ?_
    refine J_icmp_ne (tgt := 29) dX3_readsLine_22 (by decide) (fun q7 => ?_) (fun q7 => ?_)
    · rw [if_neg q7] at hF
      refine J_iconst (v := 0) dX3_readsLine_29 (by decide) ?_
      refine J_sub [1, 0] rfl ?_
      exact SB_X3_readsLine_30 hd e_h0 hF
    · rw [if_pos q7] at hF
      refine J_iconst (v := 1) dX3_readsLine_25 (by decide) ?_
      refine J_goto (tgt := 30) dX3_readsLine_26 (by decide) ?_
      refine J_sub [1, 0] rfl ?_
      exact SB_X3_readsLine_30 hd e_h0 hF
  · rw [if_neg q4] at hF
    refine J_iconst (v := 0) dX3_readsLine_9 (by decide) ?_
    obtain ⟨e_r, e_z⟩ := someP hF
    subst e_r
    subst e_z
    exact J_ireturn rfl rfl dX3_readsLine_10 ⟨rfl, rfl⟩
def B_X3_faultOfText_73 (v0 : Nat) (x : MX) : Option (Int32 × MX) :=
  if (xi x v0 8) ≤ (xi x v0 6) then
  some ((-1), x)
  else
  some (xi x v0 6, x)
theorem SB_X3_faultOfText_73 {g : GC} {d : Nat} {v0 : Nat} {x : MX} {m : MM} {r : Int32} {z : MX} (hd : 105 ≤ d) (e_v0 : isLaw v0)
  (hF : B_X3_faultOfText_73 v0 x = some (r, z)) : J g m_X3_faultOfText d 0 0 73 [(0, .ref v0)] [] (ST x m) 0 0 (EQ (some (.int r)) (ST z m)) := by
  unfold B_X3_faultOfText_73 at hF
  refine J_aload_n (j := 0) dX3_faultOfText_73 rfl rfl ?_
  refine JX_getI fl_Law_31_3 dX3_faultOfText_74 (c_law e_v0) rfl ?_
  refine J_aload_n (j := 0) dX3_faultOfText_77 rfl rfl ?_
  refine JX_getI fl_Law_34_3 dX3_faultOfText_78 (c_law e_v0) rfl ?_
  refine J_icmp_ge (tgt := 91) dX3_faultOfText_81 (by decide) (fun q4 => ?_) (fun q4 => ?_)
  · rw [if_pos q4] at hF
    refine J_iconst (v := (-1)) dX3_faultOfText_91 (by decide) ?_
    obtain ⟨e_r, e_z⟩ := someP hF
    subst e_r
    subst e_z
    exact J_ireturn rfl rfl dX3_faultOfText_92 ⟨rfl, rfl⟩
  · rw [if_neg q4] at hF
    refine J_aload_n (j := 0) dX3_faultOfText_84 rfl rfl ?_
    refine JX_getI fl_Law_31_3 dX3_faultOfText_85 (c_law e_v0) rfl ?_
    refine J_goto (tgt := 92) dX3_faultOfText_88 (by decide) ?_
    obtain ⟨e_r, e_z⟩ := someP hF
    subst e_r
    subst e_z
    exact J_ireturn rfl rfl dX3_faultOfText_92 ⟨rfl, rfl⟩
def B_X3_faultOfText_67 (K14 : Nat → Int32 → Int32 → MX → Option (Int32 × MX)) (v0 : Nat) (v1 : Int32) (v2 : Int32) (x : MX) : Option (Int32 × MX) :=
  K14 v0 v1 (v2 + 1) x
theorem SB_X3_faultOfText_67 {g : GC} {d : Nat} {K14 : Nat → Int32 → Int32 → MX → Option (Int32 × MX)} {v0 : Nat} {v1 : Int32} {v2 : Int32} {x : MX} {m : MM} {r : Int32} {z : MX} (hd : 105 ≤ d) (hK14 : ∀ (v0 : Nat) (v1 : Int32) (v2 : Int32) (x : MX) (r : Int32) (z : MX), isLaw v0 → K14 v0 v1 v2 x = some (r, z) → J g m_X3_faultOfText d 0 0 14 [(0, .ref v0), (1, .int v1), (2, .int v2)] [] (ST x m) 0 0 (EQ (some (.int r)) (ST z m))) (e_v0 : isLaw v0)
  (hF : B_X3_faultOfText_67 K14 v0 v1 v2 x = some (r, z)) : J g m_X3_faultOfText d 0 0 67 [(0, .ref v0), (1, .int v1), (2, .int v2)] [] (ST x m) 0 0 (EQ (some (.int r)) (ST z m)) := by
  unfold B_X3_faultOfText_67 at hF
  refine J_iinc (j := 2) (v := v2 + 1) (L' := [(2, .int (v2 + 1)), (0, .ref v0), (1, .int v1)]) dX3_faultOfText_67 rfl rfl (by decide) rfl ?_
  refine J_goto (tgt := 14) dX3_faultOfText_70 (by decide) ?_
  refine J_sub [1, 2, 0] rfl ?_
  exact hK14 _ _ _ _ _ _ e_v0 hF
def B_X3_faultOfText_52 (K14 : Nat → Int32 → Int32 → MX → Option (Int32 × MX)) (v0 : Nat) (v2 : Int32) (t0 : Int32) (x : MX) : Option (Int32 × MX) :=
  if t0 = 0 then
  B_X3_faultOfText_67 K14 v0 t0 v2 x
  else
  letx (xs x v0 6 ((xi x v0 6) + 1)) (fun x14 =>
  B_X3_faultOfText_67 K14 v0 t0 v2 x14)
theorem SB_X3_faultOfText_52 {g : GC} {d : Nat} {K14 : Nat → Int32 → Int32 → MX → Option (Int32 × MX)} {v0 : Nat} {v2 : Int32} {t0 : Int32} {x : MX} {m : MM} {r : Int32} {z : MX} (hd : 105 ≤ d) (hK14 : ∀ (v0 : Nat) (v1 : Int32) (v2 : Int32) (x : MX) (r : Int32) (z : MX), isLaw v0 → K14 v0 v1 v2 x = some (r, z) → J g m_X3_faultOfText d 0 0 14 [(0, .ref v0), (1, .int v1), (2, .int v2)] [] (ST x m) 0 0 (EQ (some (.int r)) (ST z m))) (e_v0 : isLaw v0)
  (hF : B_X3_faultOfText_52 K14 v0 v2 t0 x = some (r, z)) : J g m_X3_faultOfText d 0 0 52 [(0, .ref v0), (2, .int v2)] [.int t0] (ST x m) 0 0 (EQ (some (.int r)) (ST z m)) := by
  unfold B_X3_faultOfText_52 at hF
  refine J_istore_n (L' := [(1, .int t0), (0, .ref v0), (2, .int v2)]) dX3_faultOfText_52 rfl (by decide) rfl ?_
  refine J_iload_n (j := 0) dX3_faultOfText_53 rfl rfl ?_
  refine J_if_eq (tgt := 67) dX3_faultOfText_54 (by decide) (fun q13 => ?_) (fun q13 => ?_)
  · rw [if_pos q13] at hF
    refine J_sub [1, 0, 2] rfl ?_
    exact SB_X3_faultOfText_67 hd hK14 e_v0 hF
  · rw [if_neg q13] at hF
    refine J_aload_n (j := 1) dX3_faultOfText_57 rfl rfl ?_
    refine J_dup dX3_faultOfText_58 rfl ?_
    refine JX_getI fl_Law_31_3 dX3_faultOfText_59 (c_law e_v0) rfl ?_
    refine J_iconst (v := 1) dX3_faultOfText_62 (by decide) ?_
    refine J_iadd dX3_faultOfText_63 ?_
    obtain ⟨x14, e_x14, hF⟩ := letx_eq hF
    refine JX_putI fl_Law_31_3 dX3_faultOfText_64 (c_law e_v0) rfl rfl rfl ?_
    rw [← e_x14]
    refine J_sub [1, 0, 2] rfl ?_
    exact SB_X3_faultOfText_67 hd hK14 e_v0 hF
def B_X3_faultOfText_14 (K14 : Nat → Int32 → Int32 → MX → Option (Int32 × MX)) (v0 : Nat) (v1 : Int32) (v2 : Int32) (x : MX) : Option (Int32 × MX) :=
  if (xi x v0 8) < v2 then
  B_X3_faultOfText_73 v0 x
  else
  if v1 = 0 then
  B_X3_faultOfText_73 v0 x
  else
  ob2 (f_X3_readsLine v0 x) (fun r6 x7 =>
  if r6 = true then
  ob (f_X3_here v0 x7) (fun r10 =>
  if r10 = 59 then
  B_X3_faultOfText_52 K14 v0 v2 1 x7
  else
  B_X3_faultOfText_52 K14 v0 v2 0 x7)
  else
  some (xi x7 v0 6, x7))
theorem SB_X3_faultOfText_14 {g : GC} {d : Nat} {K14 : Nat → Int32 → Int32 → MX → Option (Int32 × MX)} {v0 : Nat} {v1 : Int32} {v2 : Int32} {x : MX} {m : MM} {r : Int32} {z : MX} (hd : 105 ≤ d) (hK14 : ∀ (v0 : Nat) (v1 : Int32) (v2 : Int32) (x : MX) (r : Int32) (z : MX), isLaw v0 → K14 v0 v1 v2 x = some (r, z) → J g m_X3_faultOfText d 0 0 14 [(0, .ref v0), (1, .int v1), (2, .int v2)] [] (ST x m) 0 0 (EQ (some (.int r)) (ST z m))) (e_v0 : isLaw v0)
  (hF : B_X3_faultOfText_14 K14 v0 v1 v2 x = some (r, z)) : J g m_X3_faultOfText d 0 0 14 [(0, .ref v0), (1, .int v1), (2, .int v2)] [] (ST x m) 0 0 (EQ (some (.int r)) (ST z m)) := by
  unfold B_X3_faultOfText_14 at hF
  refine J_iload_n (j := 2) dX3_faultOfText_14 rfl rfl ?_
  refine J_aload_n (j := 0) dX3_faultOfText_15 rfl rfl ?_
  refine JX_getI fl_Law_34_3 dX3_faultOfText_16 (c_law e_v0) rfl ?_
  refine J_icmp_gt (tgt := 73) dX3_faultOfText_19 (by decide) (fun q3 => ?_) (fun q3 => ?_)
  · rw [if_pos q3] at hF
    refine J_sub [0] rfl ?_
    exact SB_X3_faultOfText_73 hd e_v0 hF
  · rw [if_neg q3] at hF
    refine J_iload_n (j := 1) dX3_faultOfText_22 rfl rfl ?_
    refine J_if_eq (tgt := 73) dX3_faultOfText_23 (by decide) (fun q5 => ?_) (fun q5 => ?_)
    · rw [if_pos q5] at hF
      refine J_sub [0] rfl ?_
      exact SB_X3_faultOfText_73 hd e_v0 hF
    · rw [if_neg q5] at hF
      refine J_aload_n (j := 0) dX3_faultOfText_26 rfl rfl ?_
      obtain ⟨r6, x7, h8, hF⟩ := ob2_some hF
      refine JX_callVi (As := []) (S := []) lkV_Law_37_X3_readsLine rfl (by decide) dX3_faultOfText_27 (c_law e_v0) (S_X3_readsLine (by omega) e_v0 h8) (by omega) rfl rfl (Nat.le_of_ble_eq_true rfl) rfl ?_
      refine J_ifb_ne (tgt := 38) dX3_faultOfText_30 (by decide) (fun q9 => ?_) (fun q9 => ?_)
      · rw [if_pos q9] at hF
        refine J_aload_n (j := 0) dX3_faultOfText_38 rfl rfl ?_
        obtain ⟨r10, h11, hF⟩ := ob_some hF
        refine JX_callVi (As := []) (S := []) lkV_Law_41_X3_here rfl (by decide) dX3_faultOfText_39 (c_law e_v0) (S_X3_here (by omega) e_v0 h11) (by omega) rfl rfl (Nat.le_of_ble_eq_true rfl) rfl ?_
        refine J_bipush (v := 59) dX3_faultOfText_42 (by decide) ?_
        refine J_icmp_ne (tgt := 51) dX3_faultOfText_44 (by decide) (fun q12 => ?_) (fun q12 => ?_)
        · rw [if_neg q12] at hF
          refine J_iconst (v := 0) dX3_faultOfText_51 (by decide) ?_
          refine J_sub [0, 2] rfl ?_
          exact SB_X3_faultOfText_52 hd hK14 e_v0 hF
        · rw [if_pos q12] at hF
          refine J_iconst (v := 1) dX3_faultOfText_47 (by decide) ?_
          refine J_goto (tgt := 52) dX3_faultOfText_48 (by decide) ?_
          refine J_sub [0, 2] rfl ?_
          exact SB_X3_faultOfText_52 hd hK14 e_v0 hF
      · rw [if_neg q9] at hF
        refine J_aload_n (j := 0) dX3_faultOfText_33 rfl rfl ?_
        refine JX_getI fl_Law_31_3 dX3_faultOfText_34 (c_law e_v0) rfl ?_
        obtain ⟨e_r, e_z⟩ := someP hF
        subst e_r
        subst e_z
        exact J_ireturn rfl rfl dX3_faultOfText_37 ⟨rfl, rfl⟩
def f_X3_faultOfText_14  : Nat → Nat → Int32 → Int32 → MX → Option (Int32 × MX)
  | 0 => fun _ _ _ _ => none
  | n + 1 => fun v0 v1 v2 x => B_X3_faultOfText_14 (f_X3_faultOfText_14  n) v0 v1 v2 x
theorem Sf_X3_faultOfText_14 {g : GC} {d : Nat} {m : MM} (hd : 105 ≤ d)  : ∀ (n : Nat) (v0 : Nat) (v1 : Int32) (v2 : Int32) (x : MX) (r : Int32) (z : MX), (e_v0 : isLaw v0) → f_X3_faultOfText_14  n v0 v1 v2 x = some (r, z) → J g m_X3_faultOfText d 0 0 14 [(0, .ref v0), (1, .int v1), (2, .int v2)] [] (ST x m) 0 0 (EQ (some (.int r)) (ST z m)) := by
  intro n
  induction n with
  | zero => intro v0 v1 v2 x r z e_v0 hF; exact absurd hF (fun q => by cases q)
  | succ n ih =>
    intro v0 v1 v2 x r z e_v0 hF
    exact SB_X3_faultOfText_14 hd (fun v0 v1 v2 x r z e_v0 hF => ih v0 v1 v2 x r z e_v0 hF) e_v0 hF
def f_X3_faultOfText (h0 : Nat) (x : MX) : Option (Int32 × MX) :=
  letx (xs x h0 6 0) (fun x1 =>
  letx (xs x1 h0 4 0) (fun x2 =>
  f_X3_faultOfText_14 LF h0 1 0 x2))
theorem S_X3_faultOfText {g : GC} {d : Nat} {h0 : Nat} {x : MX} {m : MM} {r : Int32} {z : MX} (hd : 105 ≤ d) (e_h0 : isLaw h0)
  (hF : f_X3_faultOfText h0 x = some (r, z)) : JC g m_X3_faultOfText d 0 0 [.ref h0] (ST x m) (EQ (some (.int r)) (ST z m)) := by
  refine JC.of (by decide +kernel) (Nat.le_of_ble_eq_true rfl) ?_
  change J g m_X3_faultOfText d 0 0 0 [(0, .ref h0)] [] (ST x m) 0 0 (EQ (some (.int r)) (ST z m))
  unfold f_X3_faultOfText at hF
  refine J_aload_n (j := 0) dX3_faultOfText_0 rfl rfl ?_
  refine J_iconst (v := 0) dX3_faultOfText_1 (by decide) ?_
  obtain ⟨x1, e_x1, hF⟩ := letx_eq hF
  refine JX_putI fl_Law_31_3 dX3_faultOfText_2 (c_law e_h0) rfl rfl rfl ?_
  rw [← e_x1]
  refine J_aload_n (j := 0) dX3_faultOfText_5 rfl rfl ?_
  refine J_iconst (v := 0) dX3_faultOfText_6 (by decide) ?_
  obtain ⟨x2, e_x2, hF⟩ := letx_eq hF
  refine JX_putI fl_Law_27_3 dX3_faultOfText_7 (c_law e_h0) rfl rfl rfl ?_
  rw [← e_x2]
  refine J_iconst (v := 1) dX3_faultOfText_10 (by decide) ?_
  refine J_istore_n (L' := [(1, .int 1), (0, .ref h0)]) dX3_faultOfText_11 rfl (by decide) rfl ?_
  refine J_iconst (v := 0) dX3_faultOfText_12 (by decide) ?_
  refine J_istore_n (L' := [(2, .int 0), (1, .int 1), (0, .ref h0)]) dX3_faultOfText_13 rfl (by decide) rfl ?_
  refine J_sub [2, 1, 0] rfl ?_
  exact Sf_X3_faultOfText_14 hd _ _ _ _ _ _ _ e_h0 hF
def f_X8_law (x : MX) : Option (Int32 × MX) :=
  if isLawB x.1.2 = true then
  ob2 (f_X3_faultOfText x.1.2 x) (fun r2 x3 =>
  if isLawB x3.1.2 = true then
  letx (xs x3 x3.1.2 8 0) (fun x6 =>
  if r2 < 0 then
  if isLawB x6.1.1 = true then
  if isLawB x6.1.2 = true then
  letx (xr x6 x6.1.2 x6.1.2) (fun x10 =>
  letx (xr x10 x10.1.1 x6.1.1) (fun x11 =>
  some (1, x11)))
  else none
  else none
  else
  some ((-100) - r2, x6))
  else none)
  else none
theorem S_X8_law {g : GC} {d : Nat}  {x : MX} {m : MM} {r : Int32} {z : MX} (hd : 106 ≤ d) 
  (hF : f_X8_law x = some (r, z)) : JC g m_X8_law d 0 0 [.ref 5] (ST x m) (EQ (some (.int r)) (ST z m)) := by
  refine JC.of (by decide +kernel) (Nat.le_of_ble_eq_true rfl) ?_
  change J g m_X8_law d 0 0 0 [(0, .ref 5)] [] (ST x m) 0 0 (EQ (some (.int r)) (ST z m))
  unfold f_X8_law at hF
  refine J_aload_n (j := 0) dX8_law_0 rfl rfl ?_
  obtain ⟨b1, hF⟩ := chk hF
  refine JX_getR (r := x.1.2) fl_WithOneHand_72_7 dX8_law_1 c_5 rfl rfl ?_
  obtain ⟨r2, x3, h4, hF⟩ := ob2_some hF
  refine JX_callVi (As := []) (S := []) lkV_WithOneHand_128_X3_faultOfText rfl (by decide) dX8_law_4 (c_law (law_of b1)) (S_X3_faultOfText (by omega) (law_of b1) h4) (by omega) rfl rfl (Nat.le_of_ble_eq_true rfl) rfl ?_
  refine J_istore_n (L' := [(1, .int r2), (0, .ref 5)]) dX8_law_7 rfl (by decide) rfl ?_
  refine J_aload_n (j := 1) dX8_law_8 rfl rfl ?_
  obtain ⟨b5, hF⟩ := chk hF
  refine JX_getR (r := x3.1.2) fl_WithOneHand_72_7 dX8_law_9 c_5 rfl rfl ?_
  refine J_iconst (v := 0) dX8_law_12 (by decide) ?_
  obtain ⟨x6, e_x6, hF⟩ := letx_eq hF
  refine JX_putI fl_WithOneHand_122_3 dX8_law_13 (c_law (law_of b5)) rfl rfl rfl ?_
  rw [← e_x6]
  refine J_iload_n (j := 0) dX8_law_16 rfl rfl ?_
  refine J_if_lt (tgt := 25) dX8_law_17 (by decide) (fun q7 => ?_) (fun q7 => ?_)
  · rw [if_pos q7] at hF
    refine J_aload_n (j := 1) dX8_law_25 rfl rfl ?_
    obtain ⟨b8, hF⟩ := chk hF
    refine JX_getR (r := x6.1.1) fl_WithOneHand_68_7 dX8_law_26 c_5 rfl rfl ?_
    refine J_astore_n (L' := [(2, .ref x6.1.1), (1, .int r2), (0, .ref 5)]) dX8_law_29 rfl (by decide) rfl ?_
    refine J_aload_n (j := 2) dX8_law_30 rfl rfl ?_
    refine J_aload_n (j := 2) dX8_law_31 rfl rfl ?_
    obtain ⟨b9, hF⟩ := chk hF
    refine JX_getR (r := x6.1.2) fl_WithOneHand_72_7 dX8_law_32 c_5 rfl rfl ?_
    obtain ⟨x10, e_x10, hF⟩ := letx_eq hF
    refine JX_putRul fl_WithOneHand_68_7 dX8_law_35 (fun _ => rfl) (fun _ => rfl) ?_
    rw [← e_x10]
    refine J_aload_n (j := 2) dX8_law_38 rfl rfl ?_
    refine J_aload_n (j := 0) dX8_law_39 rfl rfl ?_
    obtain ⟨x11, e_x11, hF⟩ := letx_eq hF
    refine JX_putCom fl_WithOneHand_72_7 dX8_law_40 (fun _ => rfl) (fun _ => rfl) ?_
    rw [← e_x11]
    refine J_iconst (v := 1) dX8_law_43 (by decide) ?_
    obtain ⟨e_r, e_z⟩ := someP hF
    subst e_r
    subst e_z
    exact J_ireturn rfl rfl dX8_law_44 ⟨rfl, rfl⟩
  · rw [if_neg q7] at hF
    refine J_bipush (v := (-100)) dX8_law_20 (by decide) ?_
    refine J_iload_n (j := 0) dX8_law_22 rfl rfl ?_
    refine J_isub dX8_law_23 ?_
    obtain ⟨e_r, e_z⟩ := someP hF
    subst e_r
    subst e_z
    exact J_ireturn rfl rfl dX8_law_24 ⟨rfl, rfl⟩
def f_X9_next (m : MM) : Option Int32 :=
  if (mi m 80 5) ≤ (mi m 80 30) then
  some (-1)
  else
  if inb (mi m 80 30) 120 = true then
  some (mi m 93 (ix (mi m 80 30)))
  else none
theorem S_X9_next {g : GC} {d : Nat}  {x : MX} {m : MM} {r : Int32} (hd : 1 ≤ d) 
  (hF : f_X9_next m = some r) : JC g m_X9_next d 0 0 [.ref 80] (ST x m) (EQ (some (.int r)) (ST x m)) := by
  refine JC.of (by decide +kernel) (Nat.le_of_ble_eq_true rfl) ?_
  change J g m_X9_next d 0 0 0 [(0, .ref 80)] [] (ST x m) 0 0 (EQ (some (.int r)) (ST x m))
  unfold f_X9_next at hF
  refine J_aload_n (j := 0) dX9_next_0 rfl rfl ?_
  refine JM_getI fl_WithOneHandModel_171_8 dX9_next_1 c_80 rfl ?_
  refine J_aload_n (j := 0) dX9_next_4 rfl rfl ?_
  refine JM_getI fl_WithOneHandModel_168_8 dX9_next_5 c_80 rfl ?_
  refine J_icmp_ge (tgt := 23) dX9_next_8 (by decide) (fun q1 => ?_) (fun q1 => ?_)
  · rw [if_pos q1] at hF
    refine J_iconst (v := (-1)) dX9_next_23 (by decide) ?_
    have e_r := Option.some.inj hF
    subst e_r
    exact J_ireturn rfl rfl dX9_next_24 ⟨rfl, rfl⟩
  · rw [if_neg q1] at hF
    refine J_aload_n (j := 0) dX9_next_11 rfl rfl ?_
    refine JM_getR (r := 93) fl_WithOneHandModel_50_8 dX9_next_12 c_80 rfl rfl ?_
    refine J_aload_n (j := 0) dX9_next_15 rfl rfl ?_
    refine JM_getI fl_WithOneHandModel_171_8 dX9_next_16 c_80 rfl ?_
    obtain ⟨b2, hF⟩ := chk hF
    refine JM_iald (j := ix (mi m 80 30)) dX9_next_19 c_93 (inb_vp b2) rfl ?_
    refine J_goto (tgt := 24) dX9_next_20 (by decide) ?_
    have e_r := Option.some.inj hF
    subst e_r
    exact J_ireturn rfl rfl dX9_next_24 ⟨rfl, rfl⟩
def f_X9_isDigit (a1 : Int32) : Bool :=
  if a1 < 48 then
  false
  else
  if 57 < a1 then
  false
  else
  true
theorem S_X9_isDigit {g : GC} {d : Nat} {a1 : Int32} {x : MX} {m : MM} {r : Bool} (hd : 1 ≤ d) 
  (hF : f_X9_isDigit a1 = r) : JC g m_X9_isDigit d 0 0 [.ref 80, .int a1] (ST x m) (EQ (some (.int (b2i r))) (ST x m)) := by
  refine JC.of (by decide +kernel) (Nat.le_of_ble_eq_true rfl) ?_
  change J g m_X9_isDigit d 0 0 0 [(0, .ref 80), (1, .int a1)] [] (ST x m) 0 0 (EQ (some (.int (b2i r))) (ST x m))
  unfold f_X9_isDigit at hF
  refine J_iload_n (j := 1) dX9_isDigit_0 rfl rfl ?_
  refine J_bipush (v := 48) dX9_isDigit_1 (by decide) ?_
  refine J_icmp_lt (tgt := 16) dX9_isDigit_3 (by decide) (fun q1 => ?_) (fun q1 => ?_)
  · rw [if_pos q1] at hF
    refine J_iconst (v := 0) dX9_isDigit_16 (by decide) ?_
    subst hF
    exact J_ireturn rfl rfl dX9_isDigit_17 ⟨rfl, rfl⟩
  · rw [if_neg q1] at hF
    refine J_iload_n (j := 1) dX9_isDigit_6 rfl rfl ?_
    refine J_bipush (v := 57) dX9_isDigit_7 (by decide) ?_
    refine J_icmp_gt (tgt := 16) dX9_isDigit_9 (by decide) (fun q2 => ?_) (fun q2 => ?_)
    · rw [if_pos q2] at hF
      refine J_iconst (v := 0) dX9_isDigit_16 (by decide) ?_
      subst hF
      exact J_ireturn rfl rfl dX9_isDigit_17 ⟨rfl, rfl⟩
    · rw [if_neg q2] at hF
      refine J_iconst (v := 1) dX9_isDigit_12 (by decide) ?_
      refine J_goto (tgt := 17) dX9_isDigit_13 (by decide) ?_
      subst hF
      exact J_ireturn rfl rfl dX9_isDigit_17 ⟨rfl, rfl⟩
def f_X9_isName (a1 : Int32) : Bool :=
  if a1 = 104 then
  true
  else
  if a1 = 108 then
  true
  else
  if a1 = 111 then
  true
  else
  if a1 = 115 then
  true
  else
  if a1 = 110 then
  true
  else
  if a1 = 99 then
  true
  else
  false
theorem S_X9_isName {g : GC} {d : Nat} {a1 : Int32} {x : MX} {m : MM} {r : Bool} (hd : 1 ≤ d) 
  (hF : f_X9_isName a1 = r) : JC g m_X9_isName d 0 0 [.ref 80, .int a1] (ST x m) (EQ (some (.int (b2i r))) (ST x m)) := by
  refine JC.of (by decide +kernel) (Nat.le_of_ble_eq_true rfl) ?_
  change J g m_X9_isName d 0 0 0 [(0, .ref 80), (1, .int a1)] [] (ST x m) 0 0 (EQ (some (.int (b2i r))) (ST x m))
  unfold f_X9_isName at hF
  refine J_iload_n (j := 1) dX9_isName_0 rfl rfl ?_
  refine J_bipush (v := 104) dX9_isName_1 (by decide) ?_
  refine J_icmp_eq (tgt := 36) dX9_isName_3 (by decide) (fun q1 => ?_) (fun q1 => ?_)
  · rw [if_pos q1] at hF
    refine J_iconst (v := 1) dX9_isName_36 (by decide) ?_
    refine J_goto (tgt := 41) dX9_isName_37 (by decide) ?_
    subst hF
    exact J_ireturn rfl rfl dX9_isName_41 ⟨rfl, rfl⟩
  · rw [if_neg q1] at hF
    refine J_iload_n (j := 1) dX9_isName_6 rfl rfl ?_
    refine J_bipush (v := 108) dX9_isName_7 (by decide) ?_
    refine J_icmp_eq (tgt := 36) dX9_isName_9 (by decide) (fun q2 => ?_) (fun q2 => ?_)
    · rw [if_pos q2] at hF
      refine J_iconst (v := 1) dX9_isName_36 (by decide) ?_
      refine J_goto (tgt := 41) dX9_isName_37 (by decide) ?_
      subst hF
      exact J_ireturn rfl rfl dX9_isName_41 ⟨rfl, rfl⟩
    · rw [if_neg q2] at hF
      refine J_iload_n (j := 1) dX9_isName_12 rfl rfl ?_
      refine J_bipush (v := 111) dX9_isName_13 (by decide) ?_
      refine J_icmp_eq (tgt := 36) dX9_isName_15 (by decide) (fun q3 => ?_) (fun q3 => ?_)
      · rw [if_pos q3] at hF
        refine J_iconst (v := 1) dX9_isName_36 (by decide) ?_
        refine J_goto (tgt := 41) dX9_isName_37 (by decide) ?_
        subst hF
        exact J_ireturn rfl rfl dX9_isName_41 ⟨rfl, rfl⟩
      · rw [if_neg q3] at hF
        refine J_iload_n (j := 1) dX9_isName_18 rfl rfl ?_
        refine J_bipush (v := 115) dX9_isName_19 (by decide) ?_
        refine J_icmp_eq (tgt := 36) dX9_isName_21 (by decide) (fun q4 => ?_) (fun q4 => ?_)
        · rw [if_pos q4] at hF
          refine J_iconst (v := 1) dX9_isName_36 (by decide) ?_
          refine J_goto (tgt := 41) dX9_isName_37 (by decide) ?_
          subst hF
          exact J_ireturn rfl rfl dX9_isName_41 ⟨rfl, rfl⟩
        · rw [if_neg q4] at hF
          refine J_iload_n (j := 1) dX9_isName_24 rfl rfl ?_
          refine J_bipush (v := 110) dX9_isName_25 (by decide) ?_
          refine J_icmp_eq (tgt := 36) dX9_isName_27 (by decide) (fun q5 => ?_) (fun q5 => ?_)
          · rw [if_pos q5] at hF
            refine J_iconst (v := 1) dX9_isName_36 (by decide) ?_
            refine J_goto (tgt := 41) dX9_isName_37 (by decide) ?_
            subst hF
            exact J_ireturn rfl rfl dX9_isName_41 ⟨rfl, rfl⟩
          · rw [if_neg q5] at hF
            refine J_iload_n (j := 1) dX9_isName_30 rfl rfl ?_
            refine J_bipush (v := 99) dX9_isName_31 (by decide) ?_
            refine J_icmp_ne (tgt := 40) dX9_isName_33 (by decide) (fun q6 => ?_) (fun q6 => ?_)
            · rw [if_neg q6] at hF
              refine J_iconst (v := 0) dX9_isName_40 (by decide) ?_
              subst hF
              exact J_ireturn rfl rfl dX9_isName_41 ⟨rfl, rfl⟩
            · rw [if_pos q6] at hF
              refine J_iconst (v := 1) dX9_isName_36 (by decide) ?_
              refine J_goto (tgt := 41) dX9_isName_37 (by decide) ?_
              subst hF
              exact J_ireturn rfl rfl dX9_isName_41 ⟨rfl, rfl⟩
def f_X9_isNext (a1 : Int32) (m : MM) : Option (Bool × MM) :=
  if (mi m 80 32) = 0 then
  some (false, m)
  else
  ob (f_X9_next m) (fun r2 =>
  if r2 = a1 then
  letx (ms m 80 30 ((mi m 80 30) + 1)) (fun m5 =>
  some (true, m5))
  else
  some (false, m))
theorem S_X9_isNext {g : GC} {d : Nat} {a1 : Int32} {x : MX} {m : MM} {r : Bool} {z : MM} (hd : 2 ≤ d) 
  (hF : f_X9_isNext a1 m = some (r, z)) : JC g m_X9_isNext d 0 0 [.ref 80, .int a1] (ST x m) (EQ (some (.int (b2i r))) (ST x z)) := by
  refine JC.of (by decide +kernel) (Nat.le_of_ble_eq_true rfl) ?_
  change J g m_X9_isNext d 0 0 0 [(0, .ref 80), (1, .int a1)] [] (ST x m) 0 0 (EQ (some (.int (b2i r))) (ST x z))
  unfold f_X9_isNext at hF
  refine J_aload_n (j := 0) dX9_isNext_0 rfl rfl ?_
  refine JM_getI fl_WithOneHandModel_174_8 dX9_isNext_1 c_80 rfl ?_
  refine J_if_eq (tgt := 15) dX9_isNext_4 (by decide) (fun q1 => ?_) (fun q1 => ?_)
  · rw [if_pos q1] at hF
    refine J_iconst (v := 0) dX9_isNext_15 (by decide) ?_
    obtain ⟨e_r, e_z⟩ := someP hF
    subst e_r
    subst e_z
    exact J_ireturn rfl rfl dX9_isNext_16 ⟨rfl, rfl⟩
  · rw [if_neg q1] at hF
    refine J_aload_n (j := 0) dX9_isNext_7 rfl rfl ?_
    obtain ⟨r2, h3, hF⟩ := ob_some hF
    refine JM_callVi (As := []) (S := []) lkV_WithOneHandModel_178_X9_next rfl (by decide) dX9_isNext_8 c_80 (S_X9_next (by omega) h3) (by omega) rfl rfl (Nat.le_of_ble_eq_true rfl) rfl ?_
    refine J_iload_n (j := 1) dX9_isNext_11 rfl rfl ?_
    refine J_icmp_eq (tgt := 17) dX9_isNext_12 (by decide) (fun q4 => ?_) (fun q4 => ?_)
    · rw [if_pos q4] at hF
      refine J_aload_n (j := 0) dX9_isNext_17 rfl rfl ?_
      refine J_dup dX9_isNext_18 rfl ?_
      refine JM_getI fl_WithOneHandModel_171_8 dX9_isNext_19 c_80 rfl ?_
      refine J_iconst (v := 1) dX9_isNext_22 (by decide) ?_
      refine J_iadd dX9_isNext_23 ?_
      obtain ⟨m5, e_m5, hF⟩ := letx_eq hF
      refine JM_putI fl_WithOneHandModel_171_8 dX9_isNext_24 c_80 rfl rfl rfl ?_
      rw [← e_m5]
      refine J_iconst (v := 1) dX9_isNext_27 (by decide) ?_
      obtain ⟨e_r, e_z⟩ := someP hF
      subst e_r
      subst e_z
      exact J_ireturn rfl rfl dX9_isNext_28 ⟨rfl, rfl⟩
    · rw [if_neg q4] at hF
      refine J_iconst (v := 0) dX9_isNext_15 (by decide) ?_
      obtain ⟨e_r, e_z⟩ := someP hF
      subst e_r
      subst e_z
      exact J_ireturn rfl rfl dX9_isNext_16 ⟨rfl, rfl⟩
def B_X9_readsO_166 (s_X9_readsO : MM → Option MM) (s_X9_readsP : MM → Option MM) (s_X9_readsS : MM → Option MM) (s_X9_readsB : MM → Option MM) (s_X9_readsA : MM → Option MM) (s_X9_readsE : MM → Option MM) (m : MM) : Option MM :=
  letx (ms m 80 31 ((mi m 80 31) - 1)) (fun m13 =>
  some m13)
theorem SB_X9_readsO_166 {g : GC} {nn d : Nat} {s_X9_readsO : MM → Option MM} {s_X9_readsP : MM → Option MM} {s_X9_readsS : MM → Option MM} {s_X9_readsB : MM → Option MM} {s_X9_readsA : MM → Option MM} {s_X9_readsE : MM → Option MM} {x : MX} {m : MM} {z : MM} (hd : nn + 4 ≤ d) (hs_s_X9_readsO : ∀ (d : Nat), nn + 3 ≤ d → ∀  (m : MM) (z : MM), s_X9_readsO m = some z → JC g m_X9_readsO d 0 0 [.ref 80] (ST x m) (EQ (none) (ST x z))) (hs_s_X9_readsP : ∀ (d : Nat), nn + 3 ≤ d → ∀  (m : MM) (z : MM), s_X9_readsP m = some z → JC g m_X9_readsP d 0 0 [.ref 80] (ST x m) (EQ (none) (ST x z))) (hs_s_X9_readsS : ∀ (d : Nat), nn + 3 ≤ d → ∀  (m : MM) (z : MM), s_X9_readsS m = some z → JC g m_X9_readsS d 0 0 [.ref 80] (ST x m) (EQ (none) (ST x z))) (hs_s_X9_readsB : ∀ (d : Nat), nn + 3 ≤ d → ∀  (m : MM) (z : MM), s_X9_readsB m = some z → JC g m_X9_readsB d 0 0 [.ref 80] (ST x m) (EQ (none) (ST x z))) (hs_s_X9_readsA : ∀ (d : Nat), nn + 3 ≤ d → ∀  (m : MM) (z : MM), s_X9_readsA m = some z → JC g m_X9_readsA d 0 0 [.ref 80] (ST x m) (EQ (none) (ST x z))) (hs_s_X9_readsE : ∀ (d : Nat), nn + 3 ≤ d → ∀  (m : MM) (z : MM), s_X9_readsE m = some z → JC g m_X9_readsE d 0 0 [.ref 80] (ST x m) (EQ (none) (ST x z)))
  (hF : B_X9_readsO_166 s_X9_readsO s_X9_readsP s_X9_readsS s_X9_readsB s_X9_readsA s_X9_readsE m = some z) : J g m_X9_readsO d 0 0 166 [(0, .ref 80)] [] (ST x m) 0 0 (EQ (none) (ST x z)) := by
  unfold B_X9_readsO_166 at hF
  refine J_aload_n (j := 0) dX9_readsO_166 rfl rfl ?_
  refine J_dup dX9_readsO_167 rfl ?_
  refine JM_getI fl_WithOneHandModel_188_8 dX9_readsO_168 c_80 rfl ?_
  refine J_iconst (v := 1) dX9_readsO_171 (by decide) ?_
  refine J_isub dX9_readsO_172 ?_
  obtain ⟨m13, e_m13, hF⟩ := letx_eq hF
  refine JM_putI fl_WithOneHandModel_188_8 dX9_readsO_173 c_80 rfl rfl rfl ?_
  rw [← e_m13]
  have e_r := Option.some.inj hF
  subst e_r
  exact J_return rfl dX9_readsO_176 ⟨rfl, rfl⟩
def B_X9_readsO_93 (s_X9_readsO : MM → Option MM) (s_X9_readsP : MM → Option MM) (s_X9_readsS : MM → Option MM) (s_X9_readsB : MM → Option MM) (s_X9_readsA : MM → Option MM) (s_X9_readsE : MM → Option MM) (v1 : Int32) (m : MM) : Option MM :=
  if (mi m 80 31) = 6 then
  letx (ms m 80 32 0) (fun m22 =>
  some m22)
  else
  letx (ms m 80 30 ((mi m 80 30) + 1)) (fun m8 =>
  letx (ms m8 80 31 ((mi m8 80 31) + 1)) (fun m9 =>
  if v1 = 40 then
  ob (s_X9_readsE m9) (fun m14 =>
  if (mi m14 80 32) = 0 then
  B_X9_readsO_166 s_X9_readsO s_X9_readsP s_X9_readsS s_X9_readsB s_X9_readsA s_X9_readsE m14
  else
  ob2 (f_X9_isNext 41 m14) (fun r17 m18 =>
  if r17 = true then
  B_X9_readsO_166 s_X9_readsO s_X9_readsP s_X9_readsS s_X9_readsB s_X9_readsA s_X9_readsE m18
  else
  letx (ms m18 80 32 0) (fun m21 =>
  B_X9_readsO_166 s_X9_readsO s_X9_readsP s_X9_readsS s_X9_readsB s_X9_readsA s_X9_readsE m21)))
  else
  ob (s_X9_readsO m9) (fun m11 =>
  B_X9_readsO_166 s_X9_readsO s_X9_readsP s_X9_readsS s_X9_readsB s_X9_readsA s_X9_readsE m11)))
theorem SB_X9_readsO_93 {g : GC} {nn d : Nat} {s_X9_readsO : MM → Option MM} {s_X9_readsP : MM → Option MM} {s_X9_readsS : MM → Option MM} {s_X9_readsB : MM → Option MM} {s_X9_readsA : MM → Option MM} {s_X9_readsE : MM → Option MM} {v1 : Int32} {x : MX} {m : MM} {z : MM} (hd : nn + 4 ≤ d) (hs_s_X9_readsO : ∀ (d : Nat), nn + 3 ≤ d → ∀  (m : MM) (z : MM), s_X9_readsO m = some z → JC g m_X9_readsO d 0 0 [.ref 80] (ST x m) (EQ (none) (ST x z))) (hs_s_X9_readsP : ∀ (d : Nat), nn + 3 ≤ d → ∀  (m : MM) (z : MM), s_X9_readsP m = some z → JC g m_X9_readsP d 0 0 [.ref 80] (ST x m) (EQ (none) (ST x z))) (hs_s_X9_readsS : ∀ (d : Nat), nn + 3 ≤ d → ∀  (m : MM) (z : MM), s_X9_readsS m = some z → JC g m_X9_readsS d 0 0 [.ref 80] (ST x m) (EQ (none) (ST x z))) (hs_s_X9_readsB : ∀ (d : Nat), nn + 3 ≤ d → ∀  (m : MM) (z : MM), s_X9_readsB m = some z → JC g m_X9_readsB d 0 0 [.ref 80] (ST x m) (EQ (none) (ST x z))) (hs_s_X9_readsA : ∀ (d : Nat), nn + 3 ≤ d → ∀  (m : MM) (z : MM), s_X9_readsA m = some z → JC g m_X9_readsA d 0 0 [.ref 80] (ST x m) (EQ (none) (ST x z))) (hs_s_X9_readsE : ∀ (d : Nat), nn + 3 ≤ d → ∀  (m : MM) (z : MM), s_X9_readsE m = some z → JC g m_X9_readsE d 0 0 [.ref 80] (ST x m) (EQ (none) (ST x z)))
  (hF : B_X9_readsO_93 s_X9_readsO s_X9_readsP s_X9_readsS s_X9_readsB s_X9_readsA s_X9_readsE v1 m = some z) : J g m_X9_readsO d 0 0 93 [(0, .ref 80), (1, .int v1)] [] (ST x m) 0 0 (EQ (none) (ST x z)) := by
  unfold B_X9_readsO_93 at hF
  refine J_aload_n (j := 0) dX9_readsO_93 rfl rfl ?_
  refine JM_getI fl_WithOneHandModel_188_8 dX9_readsO_94 c_80 rfl ?_
  refine J_bipush (v := 6) dX9_readsO_97 (by decide) ?_
  refine J_icmp_ne (tgt := 108) dX9_readsO_99 (by decide) (fun q7 => ?_) (fun q7 => ?_)
  · rw [if_neg q7] at hF
    refine J_aload_n (j := 0) dX9_readsO_108 rfl rfl ?_
    refine J_dup dX9_readsO_109 rfl ?_
    refine JM_getI fl_WithOneHandModel_171_8 dX9_readsO_110 c_80 rfl ?_
    refine J_iconst (v := 1) dX9_readsO_113 (by decide) ?_
    refine J_iadd dX9_readsO_114 ?_
    obtain ⟨m8, e_m8, hF⟩ := letx_eq hF
    refine JM_putI fl_WithOneHandModel_171_8 dX9_readsO_115 c_80 rfl rfl rfl ?_
    rw [← e_m8]
    refine J_aload_n (j := 0) dX9_readsO_118 rfl rfl ?_
    refine J_dup dX9_readsO_119 rfl ?_
    refine JM_getI fl_WithOneHandModel_188_8 dX9_readsO_120 c_80 rfl ?_
    refine J_iconst (v := 1) dX9_readsO_123 (by decide) ?_
    refine J_iadd dX9_readsO_124 ?_
    obtain ⟨m9, e_m9, hF⟩ := letx_eq hF
    refine JM_putI fl_WithOneHandModel_188_8 dX9_readsO_125 c_80 rfl rfl rfl ?_
    rw [← e_m9]
    refine J_iload_n (j := 1) dX9_readsO_128 rfl rfl ?_
    refine J_bipush (v := 40) dX9_readsO_129 (by decide) ?_
    refine J_icmp_ne (tgt := 162) dX9_readsO_131 (by decide) (fun q10 => ?_) (fun q10 => ?_)
    · rw [if_neg q10] at hF
      refine J_aload_n (j := 0) dX9_readsO_162 rfl rfl ?_
      obtain ⟨m11, h12, hF⟩ := ob_some hF
      refine JM_callVv (As := []) (S := []) lkV_WithOneHandModel_198_X9_readsO rfl (by decide) dX9_readsO_163 c_80 (hs_s_X9_readsO (d - 1) (by omega) _ _ h12) (by omega) rfl rfl (Nat.le_of_ble_eq_true rfl) rfl ?_
      refine J_sub [0] rfl ?_
      exact SB_X9_readsO_166 hd hs_s_X9_readsO hs_s_X9_readsP hs_s_X9_readsS hs_s_X9_readsB hs_s_X9_readsA hs_s_X9_readsE hF
    · rw [if_pos q10] at hF
      refine J_aload_n (j := 0) dX9_readsO_134 rfl rfl ?_
      obtain ⟨m14, h15, hF⟩ := ob_some hF
      refine JM_callVv (As := []) (S := []) lkV_WithOneHandModel_191_X9_readsE rfl (by decide) dX9_readsO_135 c_80 (hs_s_X9_readsE (d - 1) (by omega) _ _ h15) (by omega) rfl rfl (Nat.le_of_ble_eq_true rfl) rfl ?_
      refine J_aload_n (j := 0) dX9_readsO_138 rfl rfl ?_
      refine JM_getI fl_WithOneHandModel_174_8 dX9_readsO_139 c_80 rfl ?_
      refine J_if_eq (tgt := 166) dX9_readsO_142 (by decide) (fun q16 => ?_) (fun q16 => ?_)
      · rw [if_pos q16] at hF
        refine J_sub [0] rfl ?_
        exact SB_X9_readsO_166 hd hs_s_X9_readsO hs_s_X9_readsP hs_s_X9_readsS hs_s_X9_readsB hs_s_X9_readsA hs_s_X9_readsE hF
      · rw [if_neg q16] at hF
        refine J_aload_n (j := 0) dX9_readsO_145 rfl rfl ?_
        refine J_bipush (v := 41) dX9_readsO_146 (by decide) ?_
        obtain ⟨r17, m18, h19, hF⟩ := ob2_some hF
        refine JM_callVi (As := [.int 41]) (S := []) lkV_WithOneHandModel_194_X9_isNext rfl (by decide) dX9_readsO_148 c_80 (S_X9_isNext (by omega) h19) (by omega) rfl rfl (Nat.le_of_ble_eq_true rfl) rfl ?_
        refine J_ifb_ne (tgt := 166) dX9_readsO_151 (by decide) (fun q20 => ?_) (fun q20 => ?_)
        · rw [if_pos q20] at hF
          refine J_sub [0] rfl ?_
          exact SB_X9_readsO_166 hd hs_s_X9_readsO hs_s_X9_readsP hs_s_X9_readsS hs_s_X9_readsB hs_s_X9_readsA hs_s_X9_readsE hF
        · rw [if_neg q20] at hF
          refine J_aload_n (j := 0) dX9_readsO_154 rfl rfl ?_
          refine J_iconst (v := 0) dX9_readsO_155 (by decide) ?_
          obtain ⟨m21, e_m21, hF⟩ := letx_eq hF
          refine JM_putI fl_WithOneHandModel_174_8 dX9_readsO_156 c_80 rfl rfl rfl ?_
          rw [← e_m21]
          refine J_goto (tgt := 166) dX9_readsO_159 (by decide) ?_
          refine J_sub [0] rfl ?_
          exact SB_X9_readsO_166 hd hs_s_X9_readsO hs_s_X9_readsP hs_s_X9_readsS hs_s_X9_readsB hs_s_X9_readsA hs_s_X9_readsE hF
  · rw [if_pos q7] at hF
    refine J_aload_n (j := 0) dX9_readsO_102 rfl rfl ?_
    refine J_iconst (v := 0) dX9_readsO_103 (by decide) ?_
    obtain ⟨m22, e_m22, hF⟩ := letx_eq hF
    refine JM_putI fl_WithOneHandModel_174_8 dX9_readsO_104 c_80 rfl rfl rfl ?_
    rw [← e_m22]
    have e_r := Option.some.inj hF
    subst e_r
    exact J_return rfl dX9_readsO_107 ⟨rfl, rfl⟩
def B_X9_readsO_23 (s_X9_readsO : MM → Option MM) (s_X9_readsP : MM → Option MM) (s_X9_readsS : MM → Option MM) (s_X9_readsB : MM → Option MM) (s_X9_readsA : MM → Option MM) (s_X9_readsE : MM → Option MM) (K23 : Int32 → MM → Option MM) (v2 : Int32) (m : MM) : Option MM :=
  if 4 ≤ v2 then
  some m
  else
  ob (f_X9_next m) (fun r28 =>
  if (f_X9_isDigit r28) = true then
  letx (ms m 80 30 ((mi m 80 30) + 1)) (fun m31 =>
  K23 (v2 + 1) m31)
  else
  some m)
theorem SB_X9_readsO_23 {g : GC} {nn d : Nat} {s_X9_readsO : MM → Option MM} {s_X9_readsP : MM → Option MM} {s_X9_readsS : MM → Option MM} {s_X9_readsB : MM → Option MM} {s_X9_readsA : MM → Option MM} {s_X9_readsE : MM → Option MM} {K23 : Int32 → MM → Option MM} {v2 : Int32} {x : MX} {m : MM} {z : MM} (hd : nn + 4 ≤ d) (hs_s_X9_readsO : ∀ (d : Nat), nn + 3 ≤ d → ∀  (m : MM) (z : MM), s_X9_readsO m = some z → JC g m_X9_readsO d 0 0 [.ref 80] (ST x m) (EQ (none) (ST x z))) (hs_s_X9_readsP : ∀ (d : Nat), nn + 3 ≤ d → ∀  (m : MM) (z : MM), s_X9_readsP m = some z → JC g m_X9_readsP d 0 0 [.ref 80] (ST x m) (EQ (none) (ST x z))) (hs_s_X9_readsS : ∀ (d : Nat), nn + 3 ≤ d → ∀  (m : MM) (z : MM), s_X9_readsS m = some z → JC g m_X9_readsS d 0 0 [.ref 80] (ST x m) (EQ (none) (ST x z))) (hs_s_X9_readsB : ∀ (d : Nat), nn + 3 ≤ d → ∀  (m : MM) (z : MM), s_X9_readsB m = some z → JC g m_X9_readsB d 0 0 [.ref 80] (ST x m) (EQ (none) (ST x z))) (hs_s_X9_readsA : ∀ (d : Nat), nn + 3 ≤ d → ∀  (m : MM) (z : MM), s_X9_readsA m = some z → JC g m_X9_readsA d 0 0 [.ref 80] (ST x m) (EQ (none) (ST x z))) (hs_s_X9_readsE : ∀ (d : Nat), nn + 3 ≤ d → ∀  (m : MM) (z : MM), s_X9_readsE m = some z → JC g m_X9_readsE d 0 0 [.ref 80] (ST x m) (EQ (none) (ST x z))) (hK23 : ∀ (v2 : Int32) (m : MM) (z : MM), K23 v2 m = some z → J g m_X9_readsO d 0 0 23 [(0, .ref 80), (2, .int v2)] [] (ST x m) 0 0 (EQ (none) (ST x z)))
  (hF : B_X9_readsO_23 s_X9_readsO s_X9_readsP s_X9_readsS s_X9_readsB s_X9_readsA s_X9_readsE K23 v2 m = some z) : J g m_X9_readsO d 0 0 23 [(0, .ref 80), (2, .int v2)] [] (ST x m) 0 0 (EQ (none) (ST x z)) := by
  unfold B_X9_readsO_23 at hF
  refine J_iload_n (j := 1) dX9_readsO_23 rfl rfl ?_
  refine J_iconst (v := 4) dX9_readsO_24 (by decide) ?_
  refine J_icmp_ge (tgt := 55) dX9_readsO_25 (by decide) (fun q27 => ?_) (fun q27 => ?_)
  · rw [if_pos q27] at hF
    have e_r := Option.some.inj hF
    subst e_r
    exact J_return rfl dX9_readsO_55 ⟨rfl, rfl⟩
  · rw [if_neg q27] at hF
    refine J_aload_n (j := 0) dX9_readsO_28 rfl rfl ?_
    refine J_aload_n (j := 0) dX9_readsO_29 rfl rfl ?_
    obtain ⟨r28, h29, hF⟩ := ob_some hF
    refine JM_callVi (As := []) (S := [.ref 80]) lkV_WithOneHandModel_178_X9_next rfl (by decide) dX9_readsO_30 c_80 (S_X9_next (by omega) h29) (by omega) rfl rfl (Nat.le_of_ble_eq_true rfl) rfl ?_
    refine JM_callVi (As := [.int r28]) (S := []) lkV_WithOneHandModel_182_X9_isDigit rfl (by decide) dX9_readsO_33 c_80 (S_X9_isDigit (by omega) rfl) (by omega) rfl rfl (Nat.le_of_ble_eq_true rfl) rfl ?_
    refine J_ifb_eq (tgt := 55) dX9_readsO_36 (by decide) (fun q30 => ?_) (fun q30 => ?_)
    · rw [if_neg q30] at hF
      have e_r := Option.some.inj hF
      subst e_r
      exact J_return rfl dX9_readsO_55 ⟨rfl, rfl⟩
    · rw [if_pos q30] at hF
      refine J_aload_n (j := 0) dX9_readsO_39 rfl rfl ?_
      refine J_dup dX9_readsO_40 rfl ?_
      refine JM_getI fl_WithOneHandModel_171_8 dX9_readsO_41 c_80 rfl ?_
      refine J_iconst (v := 1) dX9_readsO_44 (by decide) ?_
      refine J_iadd dX9_readsO_45 ?_
      obtain ⟨m31, e_m31, hF⟩ := letx_eq hF
      refine JM_putI fl_WithOneHandModel_171_8 dX9_readsO_46 c_80 rfl rfl rfl ?_
      rw [← e_m31]
      refine J_iinc (j := 1) (v := v2 + 1) (L' := [(2, .int (v2 + 1)), (0, .ref 80)]) dX9_readsO_49 rfl rfl (by decide) rfl ?_
      refine J_goto (tgt := 23) dX9_readsO_52 (by decide) ?_
      refine J_sub [1, 0] rfl ?_
      exact hK23 _ _ _  hF
def f_X9_readsO_23 (s_X9_readsO : MM → Option MM) (s_X9_readsP : MM → Option MM) (s_X9_readsS : MM → Option MM) (s_X9_readsB : MM → Option MM) (s_X9_readsA : MM → Option MM) (s_X9_readsE : MM → Option MM) : Nat → Int32 → MM → Option MM
  | 0 => fun _ _ => none
  | n + 1 => fun v2 m => B_X9_readsO_23 s_X9_readsO s_X9_readsP s_X9_readsS s_X9_readsB s_X9_readsA s_X9_readsE (f_X9_readsO_23 s_X9_readsO s_X9_readsP s_X9_readsS s_X9_readsB s_X9_readsA s_X9_readsE n) v2 m
theorem Sf_X9_readsO_23 {g : GC} {nn d : Nat} {x : MX} {s_X9_readsO : MM → Option MM} {s_X9_readsP : MM → Option MM} {s_X9_readsS : MM → Option MM} {s_X9_readsB : MM → Option MM} {s_X9_readsA : MM → Option MM} {s_X9_readsE : MM → Option MM} (hd : nn + 4 ≤ d) (hs_s_X9_readsO : ∀ (d : Nat), nn + 3 ≤ d → ∀  (m : MM) (z : MM), s_X9_readsO m = some z → JC g m_X9_readsO d 0 0 [.ref 80] (ST x m) (EQ (none) (ST x z))) (hs_s_X9_readsP : ∀ (d : Nat), nn + 3 ≤ d → ∀  (m : MM) (z : MM), s_X9_readsP m = some z → JC g m_X9_readsP d 0 0 [.ref 80] (ST x m) (EQ (none) (ST x z))) (hs_s_X9_readsS : ∀ (d : Nat), nn + 3 ≤ d → ∀  (m : MM) (z : MM), s_X9_readsS m = some z → JC g m_X9_readsS d 0 0 [.ref 80] (ST x m) (EQ (none) (ST x z))) (hs_s_X9_readsB : ∀ (d : Nat), nn + 3 ≤ d → ∀  (m : MM) (z : MM), s_X9_readsB m = some z → JC g m_X9_readsB d 0 0 [.ref 80] (ST x m) (EQ (none) (ST x z))) (hs_s_X9_readsA : ∀ (d : Nat), nn + 3 ≤ d → ∀  (m : MM) (z : MM), s_X9_readsA m = some z → JC g m_X9_readsA d 0 0 [.ref 80] (ST x m) (EQ (none) (ST x z))) (hs_s_X9_readsE : ∀ (d : Nat), nn + 3 ≤ d → ∀  (m : MM) (z : MM), s_X9_readsE m = some z → JC g m_X9_readsE d 0 0 [.ref 80] (ST x m) (EQ (none) (ST x z))) : ∀ (n : Nat) (v2 : Int32) (m : MM) (z : MM), f_X9_readsO_23 s_X9_readsO s_X9_readsP s_X9_readsS s_X9_readsB s_X9_readsA s_X9_readsE n v2 m = some z → J g m_X9_readsO d 0 0 23 [(0, .ref 80), (2, .int v2)] [] (ST x m) 0 0 (EQ (none) (ST x z)) := by
  intro n
  induction n with
  | zero => intro v2 m z  hF; exact absurd hF (fun q => by cases q)
  | succ n ih =>
    intro v2 m z  hF
    exact SB_X9_readsO_23 hd hs_s_X9_readsO hs_s_X9_readsP hs_s_X9_readsS hs_s_X9_readsB hs_s_X9_readsA hs_s_X9_readsE (fun v2 m z  hF => ih v2 m z  hF) hF
def R_X9_readsO (s_X9_readsO : MM → Option MM) (s_X9_readsP : MM → Option MM) (s_X9_readsS : MM → Option MM) (s_X9_readsB : MM → Option MM) (s_X9_readsA : MM → Option MM) (s_X9_readsE : MM → Option MM) (m : MM) : Option MM :=
  if (mi m 80 32) = 0 then
  some m
  else
  ob (f_X9_next m) (fun r2 =>
  if (f_X9_isDigit r2) = true then
  f_X9_readsO_23 s_X9_readsO s_X9_readsP s_X9_readsS s_X9_readsB s_X9_readsA s_X9_readsE LF 0 m
  else
  if (f_X9_isName r2) = true then
  letx (ms m 80 30 ((mi m 80 30) + 1)) (fun m26 =>
  some m26)
  else
  if r2 = 33 then
  B_X9_readsO_93 s_X9_readsO s_X9_readsP s_X9_readsS s_X9_readsB s_X9_readsA s_X9_readsE r2 m
  else
  if r2 = 45 then
  B_X9_readsO_93 s_X9_readsO s_X9_readsP s_X9_readsS s_X9_readsB s_X9_readsA s_X9_readsE r2 m
  else
  if r2 = 40 then
  B_X9_readsO_93 s_X9_readsO s_X9_readsP s_X9_readsS s_X9_readsB s_X9_readsA s_X9_readsE r2 m
  else
  letx (ms m 80 32 0) (fun m25 =>
  some m25))
theorem SR_X9_readsO {g : GC} {nn d : Nat} {s_X9_readsO : MM → Option MM} {s_X9_readsP : MM → Option MM} {s_X9_readsS : MM → Option MM} {s_X9_readsB : MM → Option MM} {s_X9_readsA : MM → Option MM} {s_X9_readsE : MM → Option MM}  {x : MX} {m : MM} {z : MM} (hd : nn + 4 ≤ d) (hs_s_X9_readsO : ∀ (d : Nat), nn + 3 ≤ d → ∀  (m : MM) (z : MM), s_X9_readsO m = some z → JC g m_X9_readsO d 0 0 [.ref 80] (ST x m) (EQ (none) (ST x z))) (hs_s_X9_readsP : ∀ (d : Nat), nn + 3 ≤ d → ∀  (m : MM) (z : MM), s_X9_readsP m = some z → JC g m_X9_readsP d 0 0 [.ref 80] (ST x m) (EQ (none) (ST x z))) (hs_s_X9_readsS : ∀ (d : Nat), nn + 3 ≤ d → ∀  (m : MM) (z : MM), s_X9_readsS m = some z → JC g m_X9_readsS d 0 0 [.ref 80] (ST x m) (EQ (none) (ST x z))) (hs_s_X9_readsB : ∀ (d : Nat), nn + 3 ≤ d → ∀  (m : MM) (z : MM), s_X9_readsB m = some z → JC g m_X9_readsB d 0 0 [.ref 80] (ST x m) (EQ (none) (ST x z))) (hs_s_X9_readsA : ∀ (d : Nat), nn + 3 ≤ d → ∀  (m : MM) (z : MM), s_X9_readsA m = some z → JC g m_X9_readsA d 0 0 [.ref 80] (ST x m) (EQ (none) (ST x z))) (hs_s_X9_readsE : ∀ (d : Nat), nn + 3 ≤ d → ∀  (m : MM) (z : MM), s_X9_readsE m = some z → JC g m_X9_readsE d 0 0 [.ref 80] (ST x m) (EQ (none) (ST x z))) 
  (hF : R_X9_readsO s_X9_readsO s_X9_readsP s_X9_readsS s_X9_readsB s_X9_readsA s_X9_readsE m = some z) : JC g m_X9_readsO d 0 0 [.ref 80] (ST x m) (EQ (none) (ST x z)) := by
  refine JC.of (by decide +kernel) (Nat.le_of_ble_eq_true rfl) ?_
  change J g m_X9_readsO d 0 0 0 [(0, .ref 80)] [] (ST x m) 0 0 (EQ (none) (ST x z))
  unfold R_X9_readsO at hF
  refine J_aload_n (j := 0) dX9_readsO_0 rfl rfl ?_
  refine JM_getI fl_WithOneHandModel_174_8 dX9_readsO_1 c_80 rfl ?_
  refine J_if_ne (tgt := 8) dX9_readsO_4 (by decide) (fun q1 => ?_) (fun q1 => ?_)
  · rw [if_neg q1] at hF
    refine J_aload_n (j := 0) dX9_readsO_8 rfl rfl ?_
    obtain ⟨r2, h3, hF⟩ := ob_some hF
    refine JM_callVi (As := []) (S := []) lkV_WithOneHandModel_178_X9_next rfl (by decide) dX9_readsO_9 c_80 (S_X9_next (by omega) h3) (by omega) rfl rfl (Nat.le_of_ble_eq_true rfl) rfl ?_
    refine J_istore_n (L' := [(1, .int r2), (0, .ref 80)]) dX9_readsO_12 rfl (by decide) rfl ?_
    refine J_aload_n (j := 1) dX9_readsO_13 rfl rfl ?_
    refine J_iload_n (j := 0) dX9_readsO_14 rfl rfl ?_
    refine JM_callVi (As := [.int r2]) (S := []) lkV_WithOneHandModel_182_X9_isDigit rfl (by decide) dX9_readsO_15 c_80 (S_X9_isDigit (by omega) rfl) (by omega) rfl rfl (Nat.le_of_ble_eq_true rfl) rfl ?_
    refine J_ifb_eq (tgt := 56) dX9_readsO_18 (by decide) (fun q4 => ?_) (fun q4 => ?_)
    · rw [if_neg q4] at hF
      refine J_aload_n (j := 1) dX9_readsO_56 rfl rfl ?_
      refine J_iload_n (j := 0) dX9_readsO_57 rfl rfl ?_
      refine JM_callVi (As := [.int r2]) (S := []) lkV_WithOneHandModel_185_X9_isName rfl (by decide) dX9_readsO_58 c_80 (S_X9_isName (by omega) rfl) (by omega) rfl rfl (Nat.le_of_ble_eq_true rfl) rfl ?_
      refine J_ifb_eq (tgt := 75) dX9_readsO_61 (by decide) (fun q5 => ?_) (fun q5 => ?_)
      · rw [if_neg q5] at hF
        refine J_iload_n (j := 0) dX9_readsO_75 rfl rfl ?_
        refine J_bipush (v := 33) dX9_readsO_76 (by decide) ?_
        refine J_icmp_eq (tgt := 93) dX9_readsO_78 (by decide) (fun q6 => ?_) (fun q6 => ?_)
        · rw [if_pos q6] at hF
          refine J_sub [1, 0] rfl ?_
          exact SB_X9_readsO_93 hd hs_s_X9_readsO hs_s_X9_readsP hs_s_X9_readsS hs_s_X9_readsB hs_s_X9_readsA hs_s_X9_readsE hF
        · rw [if_neg q6] at hF
          refine J_iload_n (j := 0) dX9_readsO_81 rfl rfl ?_
          refine J_bipush (v := 45) dX9_readsO_82 (by decide) ?_
          refine J_icmp_eq (tgt := 93) dX9_readsO_84 (by decide) (fun q23 => ?_) (fun q23 => ?_)
          · rw [if_pos q23] at hF
            refine J_sub [1, 0] rfl ?_
            exact SB_X9_readsO_93 hd hs_s_X9_readsO hs_s_X9_readsP hs_s_X9_readsS hs_s_X9_readsB hs_s_X9_readsA hs_s_X9_readsE hF
          · rw [if_neg q23] at hF
            refine J_iload_n (j := 0) dX9_readsO_87 rfl rfl ?_
            refine J_bipush (v := 40) dX9_readsO_88 (by decide) ?_
            refine J_icmp_ne (tgt := 102) dX9_readsO_90 (by decide) (fun q24 => ?_) (fun q24 => ?_)
            · rw [if_neg q24] at hF
              refine J_aload_n (j := 1) dX9_readsO_102 rfl rfl ?_
              refine J_iconst (v := 0) dX9_readsO_103 (by decide) ?_
              obtain ⟨m25, e_m25, hF⟩ := letx_eq hF
              refine JM_putI fl_WithOneHandModel_174_8 dX9_readsO_104 c_80 rfl rfl rfl ?_
              rw [← e_m25]
              have e_r := Option.some.inj hF
              subst e_r
              exact J_return rfl dX9_readsO_107 ⟨rfl, rfl⟩
            · rw [if_pos q24] at hF
              refine J_sub [1, 0] rfl ?_
              exact SB_X9_readsO_93 hd hs_s_X9_readsO hs_s_X9_readsP hs_s_X9_readsS hs_s_X9_readsB hs_s_X9_readsA hs_s_X9_readsE hF
      · rw [if_pos q5] at hF
        refine J_aload_n (j := 1) dX9_readsO_64 rfl rfl ?_
        refine J_dup dX9_readsO_65 rfl ?_
        refine JM_getI fl_WithOneHandModel_171_8 dX9_readsO_66 c_80 rfl ?_
        refine J_iconst (v := 1) dX9_readsO_69 (by decide) ?_
        refine J_iadd dX9_readsO_70 ?_
        obtain ⟨m26, e_m26, hF⟩ := letx_eq hF
        refine JM_putI fl_WithOneHandModel_171_8 dX9_readsO_71 c_80 rfl rfl rfl ?_
        rw [← e_m26]
        have e_r := Option.some.inj hF
        subst e_r
        exact J_return rfl dX9_readsO_74 ⟨rfl, rfl⟩
    · rw [if_pos q4] at hF
      refine J_iconst (v := 0) dX9_readsO_21 (by decide) ?_
      refine J_istore_n (L' := [(2, .int 0), (1, .int r2), (0, .ref 80)]) dX9_readsO_22 rfl (by decide) rfl ?_
      refine J_sub [2, 0] rfl ?_
      exact Sf_X9_readsO_23 hd hs_s_X9_readsO hs_s_X9_readsP hs_s_X9_readsS hs_s_X9_readsB hs_s_X9_readsA hs_s_X9_readsE _ _ _ _ hF
  · rw [if_pos q1] at hF
    have e_r := Option.some.inj hF
    subst e_r
    exact J_return rfl dX9_readsO_7 ⟨rfl, rfl⟩
def B_X9_readsP_31 (s_X9_readsO : MM → Option MM) (s_X9_readsP : MM → Option MM) (s_X9_readsS : MM → Option MM) (s_X9_readsB : MM → Option MM) (s_X9_readsA : MM → Option MM) (s_X9_readsE : MM → Option MM) (K4 : MM → Option MM) (m : MM) : Option MM :=
  ob (s_X9_readsO m) (fun m7 =>
  K4 m7)
theorem SB_X9_readsP_31 {g : GC} {nn d : Nat} {s_X9_readsO : MM → Option MM} {s_X9_readsP : MM → Option MM} {s_X9_readsS : MM → Option MM} {s_X9_readsB : MM → Option MM} {s_X9_readsA : MM → Option MM} {s_X9_readsE : MM → Option MM} {K4 : MM → Option MM} {x : MX} {m : MM} {z : MM} (hd : nn + 4 ≤ d) (hs_s_X9_readsO : ∀ (d : Nat), nn + 3 ≤ d → ∀  (m : MM) (z : MM), s_X9_readsO m = some z → JC g m_X9_readsO d 0 0 [.ref 80] (ST x m) (EQ (none) (ST x z))) (hs_s_X9_readsP : ∀ (d : Nat), nn + 3 ≤ d → ∀  (m : MM) (z : MM), s_X9_readsP m = some z → JC g m_X9_readsP d 0 0 [.ref 80] (ST x m) (EQ (none) (ST x z))) (hs_s_X9_readsS : ∀ (d : Nat), nn + 3 ≤ d → ∀  (m : MM) (z : MM), s_X9_readsS m = some z → JC g m_X9_readsS d 0 0 [.ref 80] (ST x m) (EQ (none) (ST x z))) (hs_s_X9_readsB : ∀ (d : Nat), nn + 3 ≤ d → ∀  (m : MM) (z : MM), s_X9_readsB m = some z → JC g m_X9_readsB d 0 0 [.ref 80] (ST x m) (EQ (none) (ST x z))) (hs_s_X9_readsA : ∀ (d : Nat), nn + 3 ≤ d → ∀  (m : MM) (z : MM), s_X9_readsA m = some z → JC g m_X9_readsA d 0 0 [.ref 80] (ST x m) (EQ (none) (ST x z))) (hs_s_X9_readsE : ∀ (d : Nat), nn + 3 ≤ d → ∀  (m : MM) (z : MM), s_X9_readsE m = some z → JC g m_X9_readsE d 0 0 [.ref 80] (ST x m) (EQ (none) (ST x z))) (hK4 : ∀  (m : MM) (z : MM), K4 m = some z → J g m_X9_readsP d 0 0 4 [(0, .ref 80)] [] (ST x m) 0 0 (EQ (none) (ST x z)))
  (hF : B_X9_readsP_31 s_X9_readsO s_X9_readsP s_X9_readsS s_X9_readsB s_X9_readsA s_X9_readsE K4 m = some z) : J g m_X9_readsP d 0 0 31 [(0, .ref 80)] [] (ST x m) 0 0 (EQ (none) (ST x z)) := by
  unfold B_X9_readsP_31 at hF
  refine J_aload_n (j := 0) dX9_readsP_31 rfl rfl ?_
  obtain ⟨m7, h8, hF⟩ := ob_some hF
  refine JM_callVv (As := []) (S := []) lkV_WithOneHandModel_198_X9_readsO rfl (by decide) dX9_readsP_32 c_80 (hs_s_X9_readsO (d - 1) (by omega) _ _ h8) (by omega) rfl rfl (Nat.le_of_ble_eq_true rfl) rfl ?_
  refine J_goto (tgt := 4) dX9_readsP_35 (by decide) ?_
  exact hK4 _ _  hF
def B_X9_readsP_4 (s_X9_readsO : MM → Option MM) (s_X9_readsP : MM → Option MM) (s_X9_readsS : MM → Option MM) (s_X9_readsB : MM → Option MM) (s_X9_readsA : MM → Option MM) (s_X9_readsE : MM → Option MM) (K4 : MM → Option MM) (m : MM) : Option MM :=
  ob2 (f_X9_isNext 42 m) (fun r3 m4 =>
  if r3 = true then
  B_X9_readsP_31 s_X9_readsO s_X9_readsP s_X9_readsS s_X9_readsB s_X9_readsA s_X9_readsE K4 m4
  else
  ob2 (f_X9_isNext 47 m4) (fun r9 m10 =>
  if r9 = true then
  B_X9_readsP_31 s_X9_readsO s_X9_readsP s_X9_readsS s_X9_readsB s_X9_readsA s_X9_readsE K4 m10
  else
  ob2 (f_X9_isNext 37 m10) (fun r13 m14 =>
  if r13 = true then
  B_X9_readsP_31 s_X9_readsO s_X9_readsP s_X9_readsS s_X9_readsB s_X9_readsA s_X9_readsE K4 m14
  else
  some m14)))
theorem SB_X9_readsP_4 {g : GC} {nn d : Nat} {s_X9_readsO : MM → Option MM} {s_X9_readsP : MM → Option MM} {s_X9_readsS : MM → Option MM} {s_X9_readsB : MM → Option MM} {s_X9_readsA : MM → Option MM} {s_X9_readsE : MM → Option MM} {K4 : MM → Option MM} {x : MX} {m : MM} {z : MM} (hd : nn + 4 ≤ d) (hs_s_X9_readsO : ∀ (d : Nat), nn + 3 ≤ d → ∀  (m : MM) (z : MM), s_X9_readsO m = some z → JC g m_X9_readsO d 0 0 [.ref 80] (ST x m) (EQ (none) (ST x z))) (hs_s_X9_readsP : ∀ (d : Nat), nn + 3 ≤ d → ∀  (m : MM) (z : MM), s_X9_readsP m = some z → JC g m_X9_readsP d 0 0 [.ref 80] (ST x m) (EQ (none) (ST x z))) (hs_s_X9_readsS : ∀ (d : Nat), nn + 3 ≤ d → ∀  (m : MM) (z : MM), s_X9_readsS m = some z → JC g m_X9_readsS d 0 0 [.ref 80] (ST x m) (EQ (none) (ST x z))) (hs_s_X9_readsB : ∀ (d : Nat), nn + 3 ≤ d → ∀  (m : MM) (z : MM), s_X9_readsB m = some z → JC g m_X9_readsB d 0 0 [.ref 80] (ST x m) (EQ (none) (ST x z))) (hs_s_X9_readsA : ∀ (d : Nat), nn + 3 ≤ d → ∀  (m : MM) (z : MM), s_X9_readsA m = some z → JC g m_X9_readsA d 0 0 [.ref 80] (ST x m) (EQ (none) (ST x z))) (hs_s_X9_readsE : ∀ (d : Nat), nn + 3 ≤ d → ∀  (m : MM) (z : MM), s_X9_readsE m = some z → JC g m_X9_readsE d 0 0 [.ref 80] (ST x m) (EQ (none) (ST x z))) (hK4 : ∀  (m : MM) (z : MM), K4 m = some z → J g m_X9_readsP d 0 0 4 [(0, .ref 80)] [] (ST x m) 0 0 (EQ (none) (ST x z)))
  (hF : B_X9_readsP_4 s_X9_readsO s_X9_readsP s_X9_readsS s_X9_readsB s_X9_readsA s_X9_readsE K4 m = some z) : J g m_X9_readsP d 0 0 4 [(0, .ref 80)] [] (ST x m) 0 0 (EQ (none) (ST x z)) := by
  unfold B_X9_readsP_4 at hF
  refine J_aload_n (j := 0) dX9_readsP_4 rfl rfl ?_
  refine J_bipush (v := 42) dX9_readsP_5 (by decide) ?_
  obtain ⟨r3, m4, h5, hF⟩ := ob2_some hF
  refine JM_callVi (As := [.int 42]) (S := []) lkV_WithOneHandModel_194_X9_isNext rfl (by decide) dX9_readsP_7 c_80 (S_X9_isNext (by omega) h5) (by omega) rfl rfl (Nat.le_of_ble_eq_true rfl) rfl ?_
  refine J_ifb_ne (tgt := 31) dX9_readsP_10 (by decide) (fun q6 => ?_) (fun q6 => ?_)
  · rw [if_pos q6] at hF
    exact SB_X9_readsP_31 hd hs_s_X9_readsO hs_s_X9_readsP hs_s_X9_readsS hs_s_X9_readsB hs_s_X9_readsA hs_s_X9_readsE hK4 hF
  · rw [if_neg q6] at hF
    refine J_aload_n (j := 0) dX9_readsP_13 rfl rfl ?_
    refine J_bipush (v := 47) dX9_readsP_14 (by decide) ?_
    obtain ⟨r9, m10, h11, hF⟩ := ob2_some hF
    refine JM_callVi (As := [.int 47]) (S := []) lkV_WithOneHandModel_194_X9_isNext rfl (by decide) dX9_readsP_16 c_80 (S_X9_isNext (by omega) h11) (by omega) rfl rfl (Nat.le_of_ble_eq_true rfl) rfl ?_
    refine J_ifb_ne (tgt := 31) dX9_readsP_19 (by decide) (fun q12 => ?_) (fun q12 => ?_)
    · rw [if_pos q12] at hF
      exact SB_X9_readsP_31 hd hs_s_X9_readsO hs_s_X9_readsP hs_s_X9_readsS hs_s_X9_readsB hs_s_X9_readsA hs_s_X9_readsE hK4 hF
    · rw [if_neg q12] at hF
      refine J_aload_n (j := 0) dX9_readsP_22 rfl rfl ?_
      refine J_bipush (v := 37) dX9_readsP_23 (by decide) ?_
      obtain ⟨r13, m14, h15, hF⟩ := ob2_some hF
      refine JM_callVi (As := [.int 37]) (S := []) lkV_WithOneHandModel_194_X9_isNext rfl (by decide) dX9_readsP_25 c_80 (S_X9_isNext (by omega) h15) (by omega) rfl rfl (Nat.le_of_ble_eq_true rfl) rfl ?_
      refine J_ifb_eq (tgt := 38) dX9_readsP_28 (by decide) (fun q16 => ?_) (fun q16 => ?_)
      · rw [if_neg q16] at hF
        have e_r := Option.some.inj hF
        subst e_r
        exact J_return rfl dX9_readsP_38 ⟨rfl, rfl⟩
      · rw [if_pos q16] at hF
        exact SB_X9_readsP_31 hd hs_s_X9_readsO hs_s_X9_readsP hs_s_X9_readsS hs_s_X9_readsB hs_s_X9_readsA hs_s_X9_readsE hK4 hF
def f_X9_readsP_4 (s_X9_readsO : MM → Option MM) (s_X9_readsP : MM → Option MM) (s_X9_readsS : MM → Option MM) (s_X9_readsB : MM → Option MM) (s_X9_readsA : MM → Option MM) (s_X9_readsE : MM → Option MM) : Nat → MM → Option MM
  | 0 => fun _ => none
  | n + 1 => fun  m => B_X9_readsP_4 s_X9_readsO s_X9_readsP s_X9_readsS s_X9_readsB s_X9_readsA s_X9_readsE (f_X9_readsP_4 s_X9_readsO s_X9_readsP s_X9_readsS s_X9_readsB s_X9_readsA s_X9_readsE n)  m
theorem Sf_X9_readsP_4 {g : GC} {nn d : Nat} {x : MX} {s_X9_readsO : MM → Option MM} {s_X9_readsP : MM → Option MM} {s_X9_readsS : MM → Option MM} {s_X9_readsB : MM → Option MM} {s_X9_readsA : MM → Option MM} {s_X9_readsE : MM → Option MM} (hd : nn + 4 ≤ d) (hs_s_X9_readsO : ∀ (d : Nat), nn + 3 ≤ d → ∀  (m : MM) (z : MM), s_X9_readsO m = some z → JC g m_X9_readsO d 0 0 [.ref 80] (ST x m) (EQ (none) (ST x z))) (hs_s_X9_readsP : ∀ (d : Nat), nn + 3 ≤ d → ∀  (m : MM) (z : MM), s_X9_readsP m = some z → JC g m_X9_readsP d 0 0 [.ref 80] (ST x m) (EQ (none) (ST x z))) (hs_s_X9_readsS : ∀ (d : Nat), nn + 3 ≤ d → ∀  (m : MM) (z : MM), s_X9_readsS m = some z → JC g m_X9_readsS d 0 0 [.ref 80] (ST x m) (EQ (none) (ST x z))) (hs_s_X9_readsB : ∀ (d : Nat), nn + 3 ≤ d → ∀  (m : MM) (z : MM), s_X9_readsB m = some z → JC g m_X9_readsB d 0 0 [.ref 80] (ST x m) (EQ (none) (ST x z))) (hs_s_X9_readsA : ∀ (d : Nat), nn + 3 ≤ d → ∀  (m : MM) (z : MM), s_X9_readsA m = some z → JC g m_X9_readsA d 0 0 [.ref 80] (ST x m) (EQ (none) (ST x z))) (hs_s_X9_readsE : ∀ (d : Nat), nn + 3 ≤ d → ∀  (m : MM) (z : MM), s_X9_readsE m = some z → JC g m_X9_readsE d 0 0 [.ref 80] (ST x m) (EQ (none) (ST x z))) : ∀ (n : Nat)  (m : MM) (z : MM), f_X9_readsP_4 s_X9_readsO s_X9_readsP s_X9_readsS s_X9_readsB s_X9_readsA s_X9_readsE n  m = some z → J g m_X9_readsP d 0 0 4 [(0, .ref 80)] [] (ST x m) 0 0 (EQ (none) (ST x z)) := by
  intro n
  induction n with
  | zero => intro m z  hF; exact absurd hF (fun q => by cases q)
  | succ n ih =>
    intro m z  hF
    exact SB_X9_readsP_4 hd hs_s_X9_readsO hs_s_X9_readsP hs_s_X9_readsS hs_s_X9_readsB hs_s_X9_readsA hs_s_X9_readsE (fun m z  hF => ih m z  hF) hF
def R_X9_readsP (s_X9_readsO : MM → Option MM) (s_X9_readsP : MM → Option MM) (s_X9_readsS : MM → Option MM) (s_X9_readsB : MM → Option MM) (s_X9_readsA : MM → Option MM) (s_X9_readsE : MM → Option MM) (m : MM) : Option MM :=
  ob (s_X9_readsO m) (fun m1 =>
  f_X9_readsP_4 s_X9_readsO s_X9_readsP s_X9_readsS s_X9_readsB s_X9_readsA s_X9_readsE LF m1)
theorem SR_X9_readsP {g : GC} {nn d : Nat} {s_X9_readsO : MM → Option MM} {s_X9_readsP : MM → Option MM} {s_X9_readsS : MM → Option MM} {s_X9_readsB : MM → Option MM} {s_X9_readsA : MM → Option MM} {s_X9_readsE : MM → Option MM}  {x : MX} {m : MM} {z : MM} (hd : nn + 4 ≤ d) (hs_s_X9_readsO : ∀ (d : Nat), nn + 3 ≤ d → ∀  (m : MM) (z : MM), s_X9_readsO m = some z → JC g m_X9_readsO d 0 0 [.ref 80] (ST x m) (EQ (none) (ST x z))) (hs_s_X9_readsP : ∀ (d : Nat), nn + 3 ≤ d → ∀  (m : MM) (z : MM), s_X9_readsP m = some z → JC g m_X9_readsP d 0 0 [.ref 80] (ST x m) (EQ (none) (ST x z))) (hs_s_X9_readsS : ∀ (d : Nat), nn + 3 ≤ d → ∀  (m : MM) (z : MM), s_X9_readsS m = some z → JC g m_X9_readsS d 0 0 [.ref 80] (ST x m) (EQ (none) (ST x z))) (hs_s_X9_readsB : ∀ (d : Nat), nn + 3 ≤ d → ∀  (m : MM) (z : MM), s_X9_readsB m = some z → JC g m_X9_readsB d 0 0 [.ref 80] (ST x m) (EQ (none) (ST x z))) (hs_s_X9_readsA : ∀ (d : Nat), nn + 3 ≤ d → ∀  (m : MM) (z : MM), s_X9_readsA m = some z → JC g m_X9_readsA d 0 0 [.ref 80] (ST x m) (EQ (none) (ST x z))) (hs_s_X9_readsE : ∀ (d : Nat), nn + 3 ≤ d → ∀  (m : MM) (z : MM), s_X9_readsE m = some z → JC g m_X9_readsE d 0 0 [.ref 80] (ST x m) (EQ (none) (ST x z))) 
  (hF : R_X9_readsP s_X9_readsO s_X9_readsP s_X9_readsS s_X9_readsB s_X9_readsA s_X9_readsE m = some z) : JC g m_X9_readsP d 0 0 [.ref 80] (ST x m) (EQ (none) (ST x z)) := by
  refine JC.of (by decide +kernel) (Nat.le_of_ble_eq_true rfl) ?_
  change J g m_X9_readsP d 0 0 0 [(0, .ref 80)] [] (ST x m) 0 0 (EQ (none) (ST x z))
  unfold R_X9_readsP at hF
  refine J_aload_n (j := 0) dX9_readsP_0 rfl rfl ?_
  obtain ⟨m1, h2, hF⟩ := ob_some hF
  refine JM_callVv (As := []) (S := []) lkV_WithOneHandModel_198_X9_readsO rfl (by decide) dX9_readsP_1 c_80 (hs_s_X9_readsO (d - 1) (by omega) _ _ h2) (by omega) rfl rfl (Nat.le_of_ble_eq_true rfl) rfl ?_
  exact Sf_X9_readsP_4 hd hs_s_X9_readsO hs_s_X9_readsP hs_s_X9_readsS hs_s_X9_readsB hs_s_X9_readsA hs_s_X9_readsE _ _ _ hF
def B_X9_readsS_22 (s_X9_readsO : MM → Option MM) (s_X9_readsP : MM → Option MM) (s_X9_readsS : MM → Option MM) (s_X9_readsB : MM → Option MM) (s_X9_readsA : MM → Option MM) (s_X9_readsE : MM → Option MM) (K4 : MM → Option MM) (m : MM) : Option MM :=
  ob (s_X9_readsP m) (fun m7 =>
  K4 m7)
theorem SB_X9_readsS_22 {g : GC} {nn d : Nat} {s_X9_readsO : MM → Option MM} {s_X9_readsP : MM → Option MM} {s_X9_readsS : MM → Option MM} {s_X9_readsB : MM → Option MM} {s_X9_readsA : MM → Option MM} {s_X9_readsE : MM → Option MM} {K4 : MM → Option MM} {x : MX} {m : MM} {z : MM} (hd : nn + 4 ≤ d) (hs_s_X9_readsO : ∀ (d : Nat), nn + 3 ≤ d → ∀  (m : MM) (z : MM), s_X9_readsO m = some z → JC g m_X9_readsO d 0 0 [.ref 80] (ST x m) (EQ (none) (ST x z))) (hs_s_X9_readsP : ∀ (d : Nat), nn + 3 ≤ d → ∀  (m : MM) (z : MM), s_X9_readsP m = some z → JC g m_X9_readsP d 0 0 [.ref 80] (ST x m) (EQ (none) (ST x z))) (hs_s_X9_readsS : ∀ (d : Nat), nn + 3 ≤ d → ∀  (m : MM) (z : MM), s_X9_readsS m = some z → JC g m_X9_readsS d 0 0 [.ref 80] (ST x m) (EQ (none) (ST x z))) (hs_s_X9_readsB : ∀ (d : Nat), nn + 3 ≤ d → ∀  (m : MM) (z : MM), s_X9_readsB m = some z → JC g m_X9_readsB d 0 0 [.ref 80] (ST x m) (EQ (none) (ST x z))) (hs_s_X9_readsA : ∀ (d : Nat), nn + 3 ≤ d → ∀  (m : MM) (z : MM), s_X9_readsA m = some z → JC g m_X9_readsA d 0 0 [.ref 80] (ST x m) (EQ (none) (ST x z))) (hs_s_X9_readsE : ∀ (d : Nat), nn + 3 ≤ d → ∀  (m : MM) (z : MM), s_X9_readsE m = some z → JC g m_X9_readsE d 0 0 [.ref 80] (ST x m) (EQ (none) (ST x z))) (hK4 : ∀  (m : MM) (z : MM), K4 m = some z → J g m_X9_readsS d 0 0 4 [(0, .ref 80)] [] (ST x m) 0 0 (EQ (none) (ST x z)))
  (hF : B_X9_readsS_22 s_X9_readsO s_X9_readsP s_X9_readsS s_X9_readsB s_X9_readsA s_X9_readsE K4 m = some z) : J g m_X9_readsS d 0 0 22 [(0, .ref 80)] [] (ST x m) 0 0 (EQ (none) (ST x z)) := by
  unfold B_X9_readsS_22 at hF
  refine J_aload_n (j := 0) dX9_readsS_22 rfl rfl ?_
  obtain ⟨m7, h8, hF⟩ := ob_some hF
  refine JM_callVv (As := []) (S := []) lkV_WithOneHandModel_201_X9_readsP rfl (by decide) dX9_readsS_23 c_80 (hs_s_X9_readsP (d - 1) (by omega) _ _ h8) (by omega) rfl rfl (Nat.le_of_ble_eq_true rfl) rfl ?_
  refine J_goto (tgt := 4) dX9_readsS_26 (by decide) ?_
  exact hK4 _ _  hF
def B_X9_readsS_4 (s_X9_readsO : MM → Option MM) (s_X9_readsP : MM → Option MM) (s_X9_readsS : MM → Option MM) (s_X9_readsB : MM → Option MM) (s_X9_readsA : MM → Option MM) (s_X9_readsE : MM → Option MM) (K4 : MM → Option MM) (m : MM) : Option MM :=
  ob2 (f_X9_isNext 43 m) (fun r3 m4 =>
  if r3 = true then
  B_X9_readsS_22 s_X9_readsO s_X9_readsP s_X9_readsS s_X9_readsB s_X9_readsA s_X9_readsE K4 m4
  else
  ob2 (f_X9_isNext 45 m4) (fun r9 m10 =>
  if r9 = true then
  B_X9_readsS_22 s_X9_readsO s_X9_readsP s_X9_readsS s_X9_readsB s_X9_readsA s_X9_readsE K4 m10
  else
  some m10))
theorem SB_X9_readsS_4 {g : GC} {nn d : Nat} {s_X9_readsO : MM → Option MM} {s_X9_readsP : MM → Option MM} {s_X9_readsS : MM → Option MM} {s_X9_readsB : MM → Option MM} {s_X9_readsA : MM → Option MM} {s_X9_readsE : MM → Option MM} {K4 : MM → Option MM} {x : MX} {m : MM} {z : MM} (hd : nn + 4 ≤ d) (hs_s_X9_readsO : ∀ (d : Nat), nn + 3 ≤ d → ∀  (m : MM) (z : MM), s_X9_readsO m = some z → JC g m_X9_readsO d 0 0 [.ref 80] (ST x m) (EQ (none) (ST x z))) (hs_s_X9_readsP : ∀ (d : Nat), nn + 3 ≤ d → ∀  (m : MM) (z : MM), s_X9_readsP m = some z → JC g m_X9_readsP d 0 0 [.ref 80] (ST x m) (EQ (none) (ST x z))) (hs_s_X9_readsS : ∀ (d : Nat), nn + 3 ≤ d → ∀  (m : MM) (z : MM), s_X9_readsS m = some z → JC g m_X9_readsS d 0 0 [.ref 80] (ST x m) (EQ (none) (ST x z))) (hs_s_X9_readsB : ∀ (d : Nat), nn + 3 ≤ d → ∀  (m : MM) (z : MM), s_X9_readsB m = some z → JC g m_X9_readsB d 0 0 [.ref 80] (ST x m) (EQ (none) (ST x z))) (hs_s_X9_readsA : ∀ (d : Nat), nn + 3 ≤ d → ∀  (m : MM) (z : MM), s_X9_readsA m = some z → JC g m_X9_readsA d 0 0 [.ref 80] (ST x m) (EQ (none) (ST x z))) (hs_s_X9_readsE : ∀ (d : Nat), nn + 3 ≤ d → ∀  (m : MM) (z : MM), s_X9_readsE m = some z → JC g m_X9_readsE d 0 0 [.ref 80] (ST x m) (EQ (none) (ST x z))) (hK4 : ∀  (m : MM) (z : MM), K4 m = some z → J g m_X9_readsS d 0 0 4 [(0, .ref 80)] [] (ST x m) 0 0 (EQ (none) (ST x z)))
  (hF : B_X9_readsS_4 s_X9_readsO s_X9_readsP s_X9_readsS s_X9_readsB s_X9_readsA s_X9_readsE K4 m = some z) : J g m_X9_readsS d 0 0 4 [(0, .ref 80)] [] (ST x m) 0 0 (EQ (none) (ST x z)) := by
  unfold B_X9_readsS_4 at hF
  refine J_aload_n (j := 0) dX9_readsS_4 rfl rfl ?_
  refine J_bipush (v := 43) dX9_readsS_5 (by decide) ?_
  obtain ⟨r3, m4, h5, hF⟩ := ob2_some hF
  refine JM_callVi (As := [.int 43]) (S := []) lkV_WithOneHandModel_194_X9_isNext rfl (by decide) dX9_readsS_7 c_80 (S_X9_isNext (by omega) h5) (by omega) rfl rfl (Nat.le_of_ble_eq_true rfl) rfl ?_
  refine J_ifb_ne (tgt := 22) dX9_readsS_10 (by decide) (fun q6 => ?_) (fun q6 => ?_)
  · rw [if_pos q6] at hF
    exact SB_X9_readsS_22 hd hs_s_X9_readsO hs_s_X9_readsP hs_s_X9_readsS hs_s_X9_readsB hs_s_X9_readsA hs_s_X9_readsE hK4 hF
  · rw [if_neg q6] at hF
    refine J_aload_n (j := 0) dX9_readsS_13 rfl rfl ?_
    refine J_bipush (v := 45) dX9_readsS_14 (by decide) ?_
    obtain ⟨r9, m10, h11, hF⟩ := ob2_some hF
    refine JM_callVi (As := [.int 45]) (S := []) lkV_WithOneHandModel_194_X9_isNext rfl (by decide) dX9_readsS_16 c_80 (S_X9_isNext (by omega) h11) (by omega) rfl rfl (Nat.le_of_ble_eq_true rfl) rfl ?_
    refine J_ifb_eq (tgt := 29) dX9_readsS_19 (by decide) (fun q12 => ?_) (fun q12 => ?_)
    · rw [if_neg q12] at hF
      have e_r := Option.some.inj hF
      subst e_r
      exact J_return rfl dX9_readsS_29 ⟨rfl, rfl⟩
    · rw [if_pos q12] at hF
      exact SB_X9_readsS_22 hd hs_s_X9_readsO hs_s_X9_readsP hs_s_X9_readsS hs_s_X9_readsB hs_s_X9_readsA hs_s_X9_readsE hK4 hF
def f_X9_readsS_4 (s_X9_readsO : MM → Option MM) (s_X9_readsP : MM → Option MM) (s_X9_readsS : MM → Option MM) (s_X9_readsB : MM → Option MM) (s_X9_readsA : MM → Option MM) (s_X9_readsE : MM → Option MM) : Nat → MM → Option MM
  | 0 => fun _ => none
  | n + 1 => fun  m => B_X9_readsS_4 s_X9_readsO s_X9_readsP s_X9_readsS s_X9_readsB s_X9_readsA s_X9_readsE (f_X9_readsS_4 s_X9_readsO s_X9_readsP s_X9_readsS s_X9_readsB s_X9_readsA s_X9_readsE n)  m
theorem Sf_X9_readsS_4 {g : GC} {nn d : Nat} {x : MX} {s_X9_readsO : MM → Option MM} {s_X9_readsP : MM → Option MM} {s_X9_readsS : MM → Option MM} {s_X9_readsB : MM → Option MM} {s_X9_readsA : MM → Option MM} {s_X9_readsE : MM → Option MM} (hd : nn + 4 ≤ d) (hs_s_X9_readsO : ∀ (d : Nat), nn + 3 ≤ d → ∀  (m : MM) (z : MM), s_X9_readsO m = some z → JC g m_X9_readsO d 0 0 [.ref 80] (ST x m) (EQ (none) (ST x z))) (hs_s_X9_readsP : ∀ (d : Nat), nn + 3 ≤ d → ∀  (m : MM) (z : MM), s_X9_readsP m = some z → JC g m_X9_readsP d 0 0 [.ref 80] (ST x m) (EQ (none) (ST x z))) (hs_s_X9_readsS : ∀ (d : Nat), nn + 3 ≤ d → ∀  (m : MM) (z : MM), s_X9_readsS m = some z → JC g m_X9_readsS d 0 0 [.ref 80] (ST x m) (EQ (none) (ST x z))) (hs_s_X9_readsB : ∀ (d : Nat), nn + 3 ≤ d → ∀  (m : MM) (z : MM), s_X9_readsB m = some z → JC g m_X9_readsB d 0 0 [.ref 80] (ST x m) (EQ (none) (ST x z))) (hs_s_X9_readsA : ∀ (d : Nat), nn + 3 ≤ d → ∀  (m : MM) (z : MM), s_X9_readsA m = some z → JC g m_X9_readsA d 0 0 [.ref 80] (ST x m) (EQ (none) (ST x z))) (hs_s_X9_readsE : ∀ (d : Nat), nn + 3 ≤ d → ∀  (m : MM) (z : MM), s_X9_readsE m = some z → JC g m_X9_readsE d 0 0 [.ref 80] (ST x m) (EQ (none) (ST x z))) : ∀ (n : Nat)  (m : MM) (z : MM), f_X9_readsS_4 s_X9_readsO s_X9_readsP s_X9_readsS s_X9_readsB s_X9_readsA s_X9_readsE n  m = some z → J g m_X9_readsS d 0 0 4 [(0, .ref 80)] [] (ST x m) 0 0 (EQ (none) (ST x z)) := by
  intro n
  induction n with
  | zero => intro m z  hF; exact absurd hF (fun q => by cases q)
  | succ n ih =>
    intro m z  hF
    exact SB_X9_readsS_4 hd hs_s_X9_readsO hs_s_X9_readsP hs_s_X9_readsS hs_s_X9_readsB hs_s_X9_readsA hs_s_X9_readsE (fun m z  hF => ih m z  hF) hF
def R_X9_readsS (s_X9_readsO : MM → Option MM) (s_X9_readsP : MM → Option MM) (s_X9_readsS : MM → Option MM) (s_X9_readsB : MM → Option MM) (s_X9_readsA : MM → Option MM) (s_X9_readsE : MM → Option MM) (m : MM) : Option MM :=
  ob (s_X9_readsP m) (fun m1 =>
  f_X9_readsS_4 s_X9_readsO s_X9_readsP s_X9_readsS s_X9_readsB s_X9_readsA s_X9_readsE LF m1)
theorem SR_X9_readsS {g : GC} {nn d : Nat} {s_X9_readsO : MM → Option MM} {s_X9_readsP : MM → Option MM} {s_X9_readsS : MM → Option MM} {s_X9_readsB : MM → Option MM} {s_X9_readsA : MM → Option MM} {s_X9_readsE : MM → Option MM}  {x : MX} {m : MM} {z : MM} (hd : nn + 4 ≤ d) (hs_s_X9_readsO : ∀ (d : Nat), nn + 3 ≤ d → ∀  (m : MM) (z : MM), s_X9_readsO m = some z → JC g m_X9_readsO d 0 0 [.ref 80] (ST x m) (EQ (none) (ST x z))) (hs_s_X9_readsP : ∀ (d : Nat), nn + 3 ≤ d → ∀  (m : MM) (z : MM), s_X9_readsP m = some z → JC g m_X9_readsP d 0 0 [.ref 80] (ST x m) (EQ (none) (ST x z))) (hs_s_X9_readsS : ∀ (d : Nat), nn + 3 ≤ d → ∀  (m : MM) (z : MM), s_X9_readsS m = some z → JC g m_X9_readsS d 0 0 [.ref 80] (ST x m) (EQ (none) (ST x z))) (hs_s_X9_readsB : ∀ (d : Nat), nn + 3 ≤ d → ∀  (m : MM) (z : MM), s_X9_readsB m = some z → JC g m_X9_readsB d 0 0 [.ref 80] (ST x m) (EQ (none) (ST x z))) (hs_s_X9_readsA : ∀ (d : Nat), nn + 3 ≤ d → ∀  (m : MM) (z : MM), s_X9_readsA m = some z → JC g m_X9_readsA d 0 0 [.ref 80] (ST x m) (EQ (none) (ST x z))) (hs_s_X9_readsE : ∀ (d : Nat), nn + 3 ≤ d → ∀  (m : MM) (z : MM), s_X9_readsE m = some z → JC g m_X9_readsE d 0 0 [.ref 80] (ST x m) (EQ (none) (ST x z))) 
  (hF : R_X9_readsS s_X9_readsO s_X9_readsP s_X9_readsS s_X9_readsB s_X9_readsA s_X9_readsE m = some z) : JC g m_X9_readsS d 0 0 [.ref 80] (ST x m) (EQ (none) (ST x z)) := by
  refine JC.of (by decide +kernel) (Nat.le_of_ble_eq_true rfl) ?_
  change J g m_X9_readsS d 0 0 0 [(0, .ref 80)] [] (ST x m) 0 0 (EQ (none) (ST x z))
  unfold R_X9_readsS at hF
  refine J_aload_n (j := 0) dX9_readsS_0 rfl rfl ?_
  obtain ⟨m1, h2, hF⟩ := ob_some hF
  refine JM_callVv (As := []) (S := []) lkV_WithOneHandModel_201_X9_readsP rfl (by decide) dX9_readsS_1 c_80 (hs_s_X9_readsP (d - 1) (by omega) _ _ h2) (by omega) rfl rfl (Nat.le_of_ble_eq_true rfl) rfl ?_
  exact Sf_X9_readsS_4 hd hs_s_X9_readsO hs_s_X9_readsP hs_s_X9_readsS hs_s_X9_readsB hs_s_X9_readsA hs_s_X9_readsE _ _ _ hF
def B_X9_readsB_31 (s_X9_readsO : MM → Option MM) (s_X9_readsP : MM → Option MM) (s_X9_readsS : MM → Option MM) (s_X9_readsB : MM → Option MM) (s_X9_readsA : MM → Option MM) (s_X9_readsE : MM → Option MM) (m : MM) : Option MM :=
  ob (s_X9_readsS m) (fun m7 =>
  some m7)
theorem SB_X9_readsB_31 {g : GC} {nn d : Nat} {s_X9_readsO : MM → Option MM} {s_X9_readsP : MM → Option MM} {s_X9_readsS : MM → Option MM} {s_X9_readsB : MM → Option MM} {s_X9_readsA : MM → Option MM} {s_X9_readsE : MM → Option MM} {x : MX} {m : MM} {z : MM} (hd : nn + 4 ≤ d) (hs_s_X9_readsO : ∀ (d : Nat), nn + 3 ≤ d → ∀  (m : MM) (z : MM), s_X9_readsO m = some z → JC g m_X9_readsO d 0 0 [.ref 80] (ST x m) (EQ (none) (ST x z))) (hs_s_X9_readsP : ∀ (d : Nat), nn + 3 ≤ d → ∀  (m : MM) (z : MM), s_X9_readsP m = some z → JC g m_X9_readsP d 0 0 [.ref 80] (ST x m) (EQ (none) (ST x z))) (hs_s_X9_readsS : ∀ (d : Nat), nn + 3 ≤ d → ∀  (m : MM) (z : MM), s_X9_readsS m = some z → JC g m_X9_readsS d 0 0 [.ref 80] (ST x m) (EQ (none) (ST x z))) (hs_s_X9_readsB : ∀ (d : Nat), nn + 3 ≤ d → ∀  (m : MM) (z : MM), s_X9_readsB m = some z → JC g m_X9_readsB d 0 0 [.ref 80] (ST x m) (EQ (none) (ST x z))) (hs_s_X9_readsA : ∀ (d : Nat), nn + 3 ≤ d → ∀  (m : MM) (z : MM), s_X9_readsA m = some z → JC g m_X9_readsA d 0 0 [.ref 80] (ST x m) (EQ (none) (ST x z))) (hs_s_X9_readsE : ∀ (d : Nat), nn + 3 ≤ d → ∀  (m : MM) (z : MM), s_X9_readsE m = some z → JC g m_X9_readsE d 0 0 [.ref 80] (ST x m) (EQ (none) (ST x z)))
  (hF : B_X9_readsB_31 s_X9_readsO s_X9_readsP s_X9_readsS s_X9_readsB s_X9_readsA s_X9_readsE m = some z) : J g m_X9_readsB d 0 0 31 [(0, .ref 80)] [] (ST x m) 0 0 (EQ (none) (ST x z)) := by
  unfold B_X9_readsB_31 at hF
  refine J_aload_n (j := 0) dX9_readsB_31 rfl rfl ?_
  obtain ⟨m7, h8, hF⟩ := ob_some hF
  refine JM_callVv (As := []) (S := []) lkV_WithOneHandModel_204_X9_readsS rfl (by decide) dX9_readsB_32 c_80 (hs_s_X9_readsS (d - 1) (by omega) _ _ h8) (by omega) rfl rfl (Nat.le_of_ble_eq_true rfl) rfl ?_
  have e_r := Option.some.inj hF
  subst e_r
  exact J_return rfl dX9_readsB_35 ⟨rfl, rfl⟩
def R_X9_readsB (s_X9_readsO : MM → Option MM) (s_X9_readsP : MM → Option MM) (s_X9_readsS : MM → Option MM) (s_X9_readsB : MM → Option MM) (s_X9_readsA : MM → Option MM) (s_X9_readsE : MM → Option MM) (m : MM) : Option MM :=
  ob (s_X9_readsS m) (fun m1 =>
  ob2 (f_X9_isNext 60 m1) (fun r3 m4 =>
  if r3 = true then
  B_X9_readsB_31 s_X9_readsO s_X9_readsP s_X9_readsS s_X9_readsB s_X9_readsA s_X9_readsE m4
  else
  ob2 (f_X9_isNext 61 m4) (fun r9 m10 =>
  if r9 = true then
  B_X9_readsB_31 s_X9_readsO s_X9_readsP s_X9_readsS s_X9_readsB s_X9_readsA s_X9_readsE m10
  else
  ob2 (f_X9_isNext 62 m10) (fun r13 m14 =>
  if r13 = true then
  B_X9_readsB_31 s_X9_readsO s_X9_readsP s_X9_readsS s_X9_readsB s_X9_readsA s_X9_readsE m14
  else
  some m14))))
theorem SR_X9_readsB {g : GC} {nn d : Nat} {s_X9_readsO : MM → Option MM} {s_X9_readsP : MM → Option MM} {s_X9_readsS : MM → Option MM} {s_X9_readsB : MM → Option MM} {s_X9_readsA : MM → Option MM} {s_X9_readsE : MM → Option MM}  {x : MX} {m : MM} {z : MM} (hd : nn + 4 ≤ d) (hs_s_X9_readsO : ∀ (d : Nat), nn + 3 ≤ d → ∀  (m : MM) (z : MM), s_X9_readsO m = some z → JC g m_X9_readsO d 0 0 [.ref 80] (ST x m) (EQ (none) (ST x z))) (hs_s_X9_readsP : ∀ (d : Nat), nn + 3 ≤ d → ∀  (m : MM) (z : MM), s_X9_readsP m = some z → JC g m_X9_readsP d 0 0 [.ref 80] (ST x m) (EQ (none) (ST x z))) (hs_s_X9_readsS : ∀ (d : Nat), nn + 3 ≤ d → ∀  (m : MM) (z : MM), s_X9_readsS m = some z → JC g m_X9_readsS d 0 0 [.ref 80] (ST x m) (EQ (none) (ST x z))) (hs_s_X9_readsB : ∀ (d : Nat), nn + 3 ≤ d → ∀  (m : MM) (z : MM), s_X9_readsB m = some z → JC g m_X9_readsB d 0 0 [.ref 80] (ST x m) (EQ (none) (ST x z))) (hs_s_X9_readsA : ∀ (d : Nat), nn + 3 ≤ d → ∀  (m : MM) (z : MM), s_X9_readsA m = some z → JC g m_X9_readsA d 0 0 [.ref 80] (ST x m) (EQ (none) (ST x z))) (hs_s_X9_readsE : ∀ (d : Nat), nn + 3 ≤ d → ∀  (m : MM) (z : MM), s_X9_readsE m = some z → JC g m_X9_readsE d 0 0 [.ref 80] (ST x m) (EQ (none) (ST x z))) 
  (hF : R_X9_readsB s_X9_readsO s_X9_readsP s_X9_readsS s_X9_readsB s_X9_readsA s_X9_readsE m = some z) : JC g m_X9_readsB d 0 0 [.ref 80] (ST x m) (EQ (none) (ST x z)) := by
  refine JC.of (by decide +kernel) (Nat.le_of_ble_eq_true rfl) ?_
  change J g m_X9_readsB d 0 0 0 [(0, .ref 80)] [] (ST x m) 0 0 (EQ (none) (ST x z))
  unfold R_X9_readsB at hF
  refine J_aload_n (j := 0) dX9_readsB_0 rfl rfl ?_
  obtain ⟨m1, h2, hF⟩ := ob_some hF
  refine JM_callVv (As := []) (S := []) lkV_WithOneHandModel_204_X9_readsS rfl (by decide) dX9_readsB_1 c_80 (hs_s_X9_readsS (d - 1) (by omega) _ _ h2) (by omega) rfl rfl (Nat.le_of_ble_eq_true rfl) rfl ?_
  refine J_aload_n (j := 0) dX9_readsB_4 rfl rfl ?_
  refine J_bipush (v := 60) dX9_readsB_5 (by decide) ?_
  obtain ⟨r3, m4, h5, hF⟩ := ob2_some hF
  refine JM_callVi (As := [.int 60]) (S := []) lkV_WithOneHandModel_194_X9_isNext rfl (by decide) dX9_readsB_7 c_80 (S_X9_isNext (by omega) h5) (by omega) rfl rfl (Nat.le_of_ble_eq_true rfl) rfl ?_
  refine J_ifb_ne (tgt := 31) dX9_readsB_10 (by decide) (fun q6 => ?_) (fun q6 => ?_)
  · rw [if_pos q6] at hF
    exact SB_X9_readsB_31 hd hs_s_X9_readsO hs_s_X9_readsP hs_s_X9_readsS hs_s_X9_readsB hs_s_X9_readsA hs_s_X9_readsE hF
  · rw [if_neg q6] at hF
    refine J_aload_n (j := 0) dX9_readsB_13 rfl rfl ?_
    refine J_bipush (v := 61) dX9_readsB_14 (by decide) ?_
    obtain ⟨r9, m10, h11, hF⟩ := ob2_some hF
    refine JM_callVi (As := [.int 61]) (S := []) lkV_WithOneHandModel_194_X9_isNext rfl (by decide) dX9_readsB_16 c_80 (S_X9_isNext (by omega) h11) (by omega) rfl rfl (Nat.le_of_ble_eq_true rfl) rfl ?_
    refine J_ifb_ne (tgt := 31) dX9_readsB_19 (by decide) (fun q12 => ?_) (fun q12 => ?_)
    · rw [if_pos q12] at hF
      exact SB_X9_readsB_31 hd hs_s_X9_readsO hs_s_X9_readsP hs_s_X9_readsS hs_s_X9_readsB hs_s_X9_readsA hs_s_X9_readsE hF
    · rw [if_neg q12] at hF
      refine J_aload_n (j := 0) dX9_readsB_22 rfl rfl ?_
      refine J_bipush (v := 62) dX9_readsB_23 (by decide) ?_
      obtain ⟨r13, m14, h15, hF⟩ := ob2_some hF
      refine JM_callVi (As := [.int 62]) (S := []) lkV_WithOneHandModel_194_X9_isNext rfl (by decide) dX9_readsB_25 c_80 (S_X9_isNext (by omega) h15) (by omega) rfl rfl (Nat.le_of_ble_eq_true rfl) rfl ?_
      refine J_ifb_eq (tgt := 35) dX9_readsB_28 (by decide) (fun q16 => ?_) (fun q16 => ?_)
      · rw [if_neg q16] at hF
        have e_r := Option.some.inj hF
        subst e_r
        exact J_return rfl dX9_readsB_35 ⟨rfl, rfl⟩
      · rw [if_pos q16] at hF
        exact SB_X9_readsB_31 hd hs_s_X9_readsO hs_s_X9_readsP hs_s_X9_readsS hs_s_X9_readsB hs_s_X9_readsA hs_s_X9_readsE hF
def B_X9_readsA_4 (s_X9_readsO : MM → Option MM) (s_X9_readsP : MM → Option MM) (s_X9_readsS : MM → Option MM) (s_X9_readsB : MM → Option MM) (s_X9_readsA : MM → Option MM) (s_X9_readsE : MM → Option MM) (K4 : MM → Option MM) (m : MM) : Option MM :=
  ob2 (f_X9_isNext 38 m) (fun r3 m4 =>
  if r3 = true then
  ob (s_X9_readsB m4) (fun m7 =>
  K4 m7)
  else
  some m4)
theorem SB_X9_readsA_4 {g : GC} {nn d : Nat} {s_X9_readsO : MM → Option MM} {s_X9_readsP : MM → Option MM} {s_X9_readsS : MM → Option MM} {s_X9_readsB : MM → Option MM} {s_X9_readsA : MM → Option MM} {s_X9_readsE : MM → Option MM} {K4 : MM → Option MM} {x : MX} {m : MM} {z : MM} (hd : nn + 4 ≤ d) (hs_s_X9_readsO : ∀ (d : Nat), nn + 3 ≤ d → ∀  (m : MM) (z : MM), s_X9_readsO m = some z → JC g m_X9_readsO d 0 0 [.ref 80] (ST x m) (EQ (none) (ST x z))) (hs_s_X9_readsP : ∀ (d : Nat), nn + 3 ≤ d → ∀  (m : MM) (z : MM), s_X9_readsP m = some z → JC g m_X9_readsP d 0 0 [.ref 80] (ST x m) (EQ (none) (ST x z))) (hs_s_X9_readsS : ∀ (d : Nat), nn + 3 ≤ d → ∀  (m : MM) (z : MM), s_X9_readsS m = some z → JC g m_X9_readsS d 0 0 [.ref 80] (ST x m) (EQ (none) (ST x z))) (hs_s_X9_readsB : ∀ (d : Nat), nn + 3 ≤ d → ∀  (m : MM) (z : MM), s_X9_readsB m = some z → JC g m_X9_readsB d 0 0 [.ref 80] (ST x m) (EQ (none) (ST x z))) (hs_s_X9_readsA : ∀ (d : Nat), nn + 3 ≤ d → ∀  (m : MM) (z : MM), s_X9_readsA m = some z → JC g m_X9_readsA d 0 0 [.ref 80] (ST x m) (EQ (none) (ST x z))) (hs_s_X9_readsE : ∀ (d : Nat), nn + 3 ≤ d → ∀  (m : MM) (z : MM), s_X9_readsE m = some z → JC g m_X9_readsE d 0 0 [.ref 80] (ST x m) (EQ (none) (ST x z))) (hK4 : ∀  (m : MM) (z : MM), K4 m = some z → J g m_X9_readsA d 0 0 4 [(0, .ref 80)] [] (ST x m) 0 0 (EQ (none) (ST x z)))
  (hF : B_X9_readsA_4 s_X9_readsO s_X9_readsP s_X9_readsS s_X9_readsB s_X9_readsA s_X9_readsE K4 m = some z) : J g m_X9_readsA d 0 0 4 [(0, .ref 80)] [] (ST x m) 0 0 (EQ (none) (ST x z)) := by
  unfold B_X9_readsA_4 at hF
  refine J_aload_n (j := 0) dX9_readsA_4 rfl rfl ?_
  refine J_bipush (v := 38) dX9_readsA_5 (by decide) ?_
  obtain ⟨r3, m4, h5, hF⟩ := ob2_some hF
  refine JM_callVi (As := [.int 38]) (S := []) lkV_WithOneHandModel_194_X9_isNext rfl (by decide) dX9_readsA_7 c_80 (S_X9_isNext (by omega) h5) (by omega) rfl rfl (Nat.le_of_ble_eq_true rfl) rfl ?_
  refine J_ifb_eq (tgt := 20) dX9_readsA_10 (by decide) (fun q6 => ?_) (fun q6 => ?_)
  · rw [if_neg q6] at hF
    have e_r := Option.some.inj hF
    subst e_r
    exact J_return rfl dX9_readsA_20 ⟨rfl, rfl⟩
  · rw [if_pos q6] at hF
    refine J_aload_n (j := 0) dX9_readsA_13 rfl rfl ?_
    obtain ⟨m7, h8, hF⟩ := ob_some hF
    refine JM_callVv (As := []) (S := []) lkV_WithOneHandModel_207_X9_readsB rfl (by decide) dX9_readsA_14 c_80 (hs_s_X9_readsB (d - 1) (by omega) _ _ h8) (by omega) rfl rfl (Nat.le_of_ble_eq_true rfl) rfl ?_
    refine J_goto (tgt := 4) dX9_readsA_17 (by decide) ?_
    exact hK4 _ _  hF
def f_X9_readsA_4 (s_X9_readsO : MM → Option MM) (s_X9_readsP : MM → Option MM) (s_X9_readsS : MM → Option MM) (s_X9_readsB : MM → Option MM) (s_X9_readsA : MM → Option MM) (s_X9_readsE : MM → Option MM) : Nat → MM → Option MM
  | 0 => fun _ => none
  | n + 1 => fun  m => B_X9_readsA_4 s_X9_readsO s_X9_readsP s_X9_readsS s_X9_readsB s_X9_readsA s_X9_readsE (f_X9_readsA_4 s_X9_readsO s_X9_readsP s_X9_readsS s_X9_readsB s_X9_readsA s_X9_readsE n)  m
theorem Sf_X9_readsA_4 {g : GC} {nn d : Nat} {x : MX} {s_X9_readsO : MM → Option MM} {s_X9_readsP : MM → Option MM} {s_X9_readsS : MM → Option MM} {s_X9_readsB : MM → Option MM} {s_X9_readsA : MM → Option MM} {s_X9_readsE : MM → Option MM} (hd : nn + 4 ≤ d) (hs_s_X9_readsO : ∀ (d : Nat), nn + 3 ≤ d → ∀  (m : MM) (z : MM), s_X9_readsO m = some z → JC g m_X9_readsO d 0 0 [.ref 80] (ST x m) (EQ (none) (ST x z))) (hs_s_X9_readsP : ∀ (d : Nat), nn + 3 ≤ d → ∀  (m : MM) (z : MM), s_X9_readsP m = some z → JC g m_X9_readsP d 0 0 [.ref 80] (ST x m) (EQ (none) (ST x z))) (hs_s_X9_readsS : ∀ (d : Nat), nn + 3 ≤ d → ∀  (m : MM) (z : MM), s_X9_readsS m = some z → JC g m_X9_readsS d 0 0 [.ref 80] (ST x m) (EQ (none) (ST x z))) (hs_s_X9_readsB : ∀ (d : Nat), nn + 3 ≤ d → ∀  (m : MM) (z : MM), s_X9_readsB m = some z → JC g m_X9_readsB d 0 0 [.ref 80] (ST x m) (EQ (none) (ST x z))) (hs_s_X9_readsA : ∀ (d : Nat), nn + 3 ≤ d → ∀  (m : MM) (z : MM), s_X9_readsA m = some z → JC g m_X9_readsA d 0 0 [.ref 80] (ST x m) (EQ (none) (ST x z))) (hs_s_X9_readsE : ∀ (d : Nat), nn + 3 ≤ d → ∀  (m : MM) (z : MM), s_X9_readsE m = some z → JC g m_X9_readsE d 0 0 [.ref 80] (ST x m) (EQ (none) (ST x z))) : ∀ (n : Nat)  (m : MM) (z : MM), f_X9_readsA_4 s_X9_readsO s_X9_readsP s_X9_readsS s_X9_readsB s_X9_readsA s_X9_readsE n  m = some z → J g m_X9_readsA d 0 0 4 [(0, .ref 80)] [] (ST x m) 0 0 (EQ (none) (ST x z)) := by
  intro n
  induction n with
  | zero => intro m z  hF; exact absurd hF (fun q => by cases q)
  | succ n ih =>
    intro m z  hF
    exact SB_X9_readsA_4 hd hs_s_X9_readsO hs_s_X9_readsP hs_s_X9_readsS hs_s_X9_readsB hs_s_X9_readsA hs_s_X9_readsE (fun m z  hF => ih m z  hF) hF
def R_X9_readsA (s_X9_readsO : MM → Option MM) (s_X9_readsP : MM → Option MM) (s_X9_readsS : MM → Option MM) (s_X9_readsB : MM → Option MM) (s_X9_readsA : MM → Option MM) (s_X9_readsE : MM → Option MM) (m : MM) : Option MM :=
  ob (s_X9_readsB m) (fun m1 =>
  f_X9_readsA_4 s_X9_readsO s_X9_readsP s_X9_readsS s_X9_readsB s_X9_readsA s_X9_readsE LF m1)
theorem SR_X9_readsA {g : GC} {nn d : Nat} {s_X9_readsO : MM → Option MM} {s_X9_readsP : MM → Option MM} {s_X9_readsS : MM → Option MM} {s_X9_readsB : MM → Option MM} {s_X9_readsA : MM → Option MM} {s_X9_readsE : MM → Option MM}  {x : MX} {m : MM} {z : MM} (hd : nn + 4 ≤ d) (hs_s_X9_readsO : ∀ (d : Nat), nn + 3 ≤ d → ∀  (m : MM) (z : MM), s_X9_readsO m = some z → JC g m_X9_readsO d 0 0 [.ref 80] (ST x m) (EQ (none) (ST x z))) (hs_s_X9_readsP : ∀ (d : Nat), nn + 3 ≤ d → ∀  (m : MM) (z : MM), s_X9_readsP m = some z → JC g m_X9_readsP d 0 0 [.ref 80] (ST x m) (EQ (none) (ST x z))) (hs_s_X9_readsS : ∀ (d : Nat), nn + 3 ≤ d → ∀  (m : MM) (z : MM), s_X9_readsS m = some z → JC g m_X9_readsS d 0 0 [.ref 80] (ST x m) (EQ (none) (ST x z))) (hs_s_X9_readsB : ∀ (d : Nat), nn + 3 ≤ d → ∀  (m : MM) (z : MM), s_X9_readsB m = some z → JC g m_X9_readsB d 0 0 [.ref 80] (ST x m) (EQ (none) (ST x z))) (hs_s_X9_readsA : ∀ (d : Nat), nn + 3 ≤ d → ∀  (m : MM) (z : MM), s_X9_readsA m = some z → JC g m_X9_readsA d 0 0 [.ref 80] (ST x m) (EQ (none) (ST x z))) (hs_s_X9_readsE : ∀ (d : Nat), nn + 3 ≤ d → ∀  (m : MM) (z : MM), s_X9_readsE m = some z → JC g m_X9_readsE d 0 0 [.ref 80] (ST x m) (EQ (none) (ST x z))) 
  (hF : R_X9_readsA s_X9_readsO s_X9_readsP s_X9_readsS s_X9_readsB s_X9_readsA s_X9_readsE m = some z) : JC g m_X9_readsA d 0 0 [.ref 80] (ST x m) (EQ (none) (ST x z)) := by
  refine JC.of (by decide +kernel) (Nat.le_of_ble_eq_true rfl) ?_
  change J g m_X9_readsA d 0 0 0 [(0, .ref 80)] [] (ST x m) 0 0 (EQ (none) (ST x z))
  unfold R_X9_readsA at hF
  refine J_aload_n (j := 0) dX9_readsA_0 rfl rfl ?_
  obtain ⟨m1, h2, hF⟩ := ob_some hF
  refine JM_callVv (As := []) (S := []) lkV_WithOneHandModel_207_X9_readsB rfl (by decide) dX9_readsA_1 c_80 (hs_s_X9_readsB (d - 1) (by omega) _ _ h2) (by omega) rfl rfl (Nat.le_of_ble_eq_true rfl) rfl ?_
  exact Sf_X9_readsA_4 hd hs_s_X9_readsO hs_s_X9_readsP hs_s_X9_readsS hs_s_X9_readsB hs_s_X9_readsA hs_s_X9_readsE _ _ _ hF
def B_X9_readsE_4 (s_X9_readsO : MM → Option MM) (s_X9_readsP : MM → Option MM) (s_X9_readsS : MM → Option MM) (s_X9_readsB : MM → Option MM) (s_X9_readsA : MM → Option MM) (s_X9_readsE : MM → Option MM) (K4 : MM → Option MM) (m : MM) : Option MM :=
  ob2 (f_X9_isNext 124 m) (fun r3 m4 =>
  if r3 = true then
  ob (s_X9_readsA m4) (fun m7 =>
  K4 m7)
  else
  some m4)
theorem SB_X9_readsE_4 {g : GC} {nn d : Nat} {s_X9_readsO : MM → Option MM} {s_X9_readsP : MM → Option MM} {s_X9_readsS : MM → Option MM} {s_X9_readsB : MM → Option MM} {s_X9_readsA : MM → Option MM} {s_X9_readsE : MM → Option MM} {K4 : MM → Option MM} {x : MX} {m : MM} {z : MM} (hd : nn + 4 ≤ d) (hs_s_X9_readsO : ∀ (d : Nat), nn + 3 ≤ d → ∀  (m : MM) (z : MM), s_X9_readsO m = some z → JC g m_X9_readsO d 0 0 [.ref 80] (ST x m) (EQ (none) (ST x z))) (hs_s_X9_readsP : ∀ (d : Nat), nn + 3 ≤ d → ∀  (m : MM) (z : MM), s_X9_readsP m = some z → JC g m_X9_readsP d 0 0 [.ref 80] (ST x m) (EQ (none) (ST x z))) (hs_s_X9_readsS : ∀ (d : Nat), nn + 3 ≤ d → ∀  (m : MM) (z : MM), s_X9_readsS m = some z → JC g m_X9_readsS d 0 0 [.ref 80] (ST x m) (EQ (none) (ST x z))) (hs_s_X9_readsB : ∀ (d : Nat), nn + 3 ≤ d → ∀  (m : MM) (z : MM), s_X9_readsB m = some z → JC g m_X9_readsB d 0 0 [.ref 80] (ST x m) (EQ (none) (ST x z))) (hs_s_X9_readsA : ∀ (d : Nat), nn + 3 ≤ d → ∀  (m : MM) (z : MM), s_X9_readsA m = some z → JC g m_X9_readsA d 0 0 [.ref 80] (ST x m) (EQ (none) (ST x z))) (hs_s_X9_readsE : ∀ (d : Nat), nn + 3 ≤ d → ∀  (m : MM) (z : MM), s_X9_readsE m = some z → JC g m_X9_readsE d 0 0 [.ref 80] (ST x m) (EQ (none) (ST x z))) (hK4 : ∀  (m : MM) (z : MM), K4 m = some z → J g m_X9_readsE d 0 0 4 [(0, .ref 80)] [] (ST x m) 0 0 (EQ (none) (ST x z)))
  (hF : B_X9_readsE_4 s_X9_readsO s_X9_readsP s_X9_readsS s_X9_readsB s_X9_readsA s_X9_readsE K4 m = some z) : J g m_X9_readsE d 0 0 4 [(0, .ref 80)] [] (ST x m) 0 0 (EQ (none) (ST x z)) := by
  unfold B_X9_readsE_4 at hF
  refine J_aload_n (j := 0) dX9_readsE_4 rfl rfl ?_
  refine J_bipush (v := 124) dX9_readsE_5 (by decide) ?_
  obtain ⟨r3, m4, h5, hF⟩ := ob2_some hF
  refine JM_callVi (As := [.int 124]) (S := []) lkV_WithOneHandModel_194_X9_isNext rfl (by decide) dX9_readsE_7 c_80 (S_X9_isNext (by omega) h5) (by omega) rfl rfl (Nat.le_of_ble_eq_true rfl) rfl ?_
  refine J_ifb_eq (tgt := 20) dX9_readsE_10 (by decide) (fun q6 => ?_) (fun q6 => ?_)
  · rw [if_neg q6] at hF
    have e_r := Option.some.inj hF
    subst e_r
    exact J_return rfl dX9_readsE_20 ⟨rfl, rfl⟩
  · rw [if_pos q6] at hF
    refine J_aload_n (j := 0) dX9_readsE_13 rfl rfl ?_
    obtain ⟨m7, h8, hF⟩ := ob_some hF
    refine JM_callVv (As := []) (S := []) lkV_WithOneHandModel_210_X9_readsA rfl (by decide) dX9_readsE_14 c_80 (hs_s_X9_readsA (d - 1) (by omega) _ _ h8) (by omega) rfl rfl (Nat.le_of_ble_eq_true rfl) rfl ?_
    refine J_goto (tgt := 4) dX9_readsE_17 (by decide) ?_
    exact hK4 _ _  hF
def f_X9_readsE_4 (s_X9_readsO : MM → Option MM) (s_X9_readsP : MM → Option MM) (s_X9_readsS : MM → Option MM) (s_X9_readsB : MM → Option MM) (s_X9_readsA : MM → Option MM) (s_X9_readsE : MM → Option MM) : Nat → MM → Option MM
  | 0 => fun _ => none
  | n + 1 => fun  m => B_X9_readsE_4 s_X9_readsO s_X9_readsP s_X9_readsS s_X9_readsB s_X9_readsA s_X9_readsE (f_X9_readsE_4 s_X9_readsO s_X9_readsP s_X9_readsS s_X9_readsB s_X9_readsA s_X9_readsE n)  m
theorem Sf_X9_readsE_4 {g : GC} {nn d : Nat} {x : MX} {s_X9_readsO : MM → Option MM} {s_X9_readsP : MM → Option MM} {s_X9_readsS : MM → Option MM} {s_X9_readsB : MM → Option MM} {s_X9_readsA : MM → Option MM} {s_X9_readsE : MM → Option MM} (hd : nn + 4 ≤ d) (hs_s_X9_readsO : ∀ (d : Nat), nn + 3 ≤ d → ∀  (m : MM) (z : MM), s_X9_readsO m = some z → JC g m_X9_readsO d 0 0 [.ref 80] (ST x m) (EQ (none) (ST x z))) (hs_s_X9_readsP : ∀ (d : Nat), nn + 3 ≤ d → ∀  (m : MM) (z : MM), s_X9_readsP m = some z → JC g m_X9_readsP d 0 0 [.ref 80] (ST x m) (EQ (none) (ST x z))) (hs_s_X9_readsS : ∀ (d : Nat), nn + 3 ≤ d → ∀  (m : MM) (z : MM), s_X9_readsS m = some z → JC g m_X9_readsS d 0 0 [.ref 80] (ST x m) (EQ (none) (ST x z))) (hs_s_X9_readsB : ∀ (d : Nat), nn + 3 ≤ d → ∀  (m : MM) (z : MM), s_X9_readsB m = some z → JC g m_X9_readsB d 0 0 [.ref 80] (ST x m) (EQ (none) (ST x z))) (hs_s_X9_readsA : ∀ (d : Nat), nn + 3 ≤ d → ∀  (m : MM) (z : MM), s_X9_readsA m = some z → JC g m_X9_readsA d 0 0 [.ref 80] (ST x m) (EQ (none) (ST x z))) (hs_s_X9_readsE : ∀ (d : Nat), nn + 3 ≤ d → ∀  (m : MM) (z : MM), s_X9_readsE m = some z → JC g m_X9_readsE d 0 0 [.ref 80] (ST x m) (EQ (none) (ST x z))) : ∀ (n : Nat)  (m : MM) (z : MM), f_X9_readsE_4 s_X9_readsO s_X9_readsP s_X9_readsS s_X9_readsB s_X9_readsA s_X9_readsE n  m = some z → J g m_X9_readsE d 0 0 4 [(0, .ref 80)] [] (ST x m) 0 0 (EQ (none) (ST x z)) := by
  intro n
  induction n with
  | zero => intro m z  hF; exact absurd hF (fun q => by cases q)
  | succ n ih =>
    intro m z  hF
    exact SB_X9_readsE_4 hd hs_s_X9_readsO hs_s_X9_readsP hs_s_X9_readsS hs_s_X9_readsB hs_s_X9_readsA hs_s_X9_readsE (fun m z  hF => ih m z  hF) hF
def R_X9_readsE (s_X9_readsO : MM → Option MM) (s_X9_readsP : MM → Option MM) (s_X9_readsS : MM → Option MM) (s_X9_readsB : MM → Option MM) (s_X9_readsA : MM → Option MM) (s_X9_readsE : MM → Option MM) (m : MM) : Option MM :=
  ob (s_X9_readsA m) (fun m1 =>
  f_X9_readsE_4 s_X9_readsO s_X9_readsP s_X9_readsS s_X9_readsB s_X9_readsA s_X9_readsE LF m1)
theorem SR_X9_readsE {g : GC} {nn d : Nat} {s_X9_readsO : MM → Option MM} {s_X9_readsP : MM → Option MM} {s_X9_readsS : MM → Option MM} {s_X9_readsB : MM → Option MM} {s_X9_readsA : MM → Option MM} {s_X9_readsE : MM → Option MM}  {x : MX} {m : MM} {z : MM} (hd : nn + 4 ≤ d) (hs_s_X9_readsO : ∀ (d : Nat), nn + 3 ≤ d → ∀  (m : MM) (z : MM), s_X9_readsO m = some z → JC g m_X9_readsO d 0 0 [.ref 80] (ST x m) (EQ (none) (ST x z))) (hs_s_X9_readsP : ∀ (d : Nat), nn + 3 ≤ d → ∀  (m : MM) (z : MM), s_X9_readsP m = some z → JC g m_X9_readsP d 0 0 [.ref 80] (ST x m) (EQ (none) (ST x z))) (hs_s_X9_readsS : ∀ (d : Nat), nn + 3 ≤ d → ∀  (m : MM) (z : MM), s_X9_readsS m = some z → JC g m_X9_readsS d 0 0 [.ref 80] (ST x m) (EQ (none) (ST x z))) (hs_s_X9_readsB : ∀ (d : Nat), nn + 3 ≤ d → ∀  (m : MM) (z : MM), s_X9_readsB m = some z → JC g m_X9_readsB d 0 0 [.ref 80] (ST x m) (EQ (none) (ST x z))) (hs_s_X9_readsA : ∀ (d : Nat), nn + 3 ≤ d → ∀  (m : MM) (z : MM), s_X9_readsA m = some z → JC g m_X9_readsA d 0 0 [.ref 80] (ST x m) (EQ (none) (ST x z))) (hs_s_X9_readsE : ∀ (d : Nat), nn + 3 ≤ d → ∀  (m : MM) (z : MM), s_X9_readsE m = some z → JC g m_X9_readsE d 0 0 [.ref 80] (ST x m) (EQ (none) (ST x z))) 
  (hF : R_X9_readsE s_X9_readsO s_X9_readsP s_X9_readsS s_X9_readsB s_X9_readsA s_X9_readsE m = some z) : JC g m_X9_readsE d 0 0 [.ref 80] (ST x m) (EQ (none) (ST x z)) := by
  refine JC.of (by decide +kernel) (Nat.le_of_ble_eq_true rfl) ?_
  change J g m_X9_readsE d 0 0 0 [(0, .ref 80)] [] (ST x m) 0 0 (EQ (none) (ST x z))
  unfold R_X9_readsE at hF
  refine J_aload_n (j := 0) dX9_readsE_0 rfl rfl ?_
  obtain ⟨m1, h2, hF⟩ := ob_some hF
  refine JM_callVv (As := []) (S := []) lkV_WithOneHandModel_210_X9_readsA rfl (by decide) dX9_readsE_1 c_80 (hs_s_X9_readsA (d - 1) (by omega) _ _ h2) (by omega) rfl rfl (Nat.le_of_ble_eq_true rfl) rfl ?_
  exact Sf_X9_readsE_4 hd hs_s_X9_readsO hs_s_X9_readsP hs_s_X9_readsS hs_s_X9_readsB hs_s_X9_readsA hs_s_X9_readsE _ _ _ hF
def G_X9_readsO : Nat → (MM → Option MM) × (MM → Option MM) × (MM → Option MM) × (MM → Option MM) × (MM → Option MM) × (MM → Option MM)
  | 0 => (fun _ => none, fun _ => none, fun _ => none, fun _ => none, fun _ => none, fun _ => none)
  | n + 1 => (R_X9_readsO (G_X9_readsO n).1 (G_X9_readsO n).2.1 (G_X9_readsO n).2.2.1 (G_X9_readsO n).2.2.2.1 (G_X9_readsO n).2.2.2.2.1 (G_X9_readsO n).2.2.2.2.2, R_X9_readsP (G_X9_readsO n).1 (G_X9_readsO n).2.1 (G_X9_readsO n).2.2.1 (G_X9_readsO n).2.2.2.1 (G_X9_readsO n).2.2.2.2.1 (G_X9_readsO n).2.2.2.2.2, R_X9_readsS (G_X9_readsO n).1 (G_X9_readsO n).2.1 (G_X9_readsO n).2.2.1 (G_X9_readsO n).2.2.2.1 (G_X9_readsO n).2.2.2.2.1 (G_X9_readsO n).2.2.2.2.2, R_X9_readsB (G_X9_readsO n).1 (G_X9_readsO n).2.1 (G_X9_readsO n).2.2.1 (G_X9_readsO n).2.2.2.1 (G_X9_readsO n).2.2.2.2.1 (G_X9_readsO n).2.2.2.2.2, R_X9_readsA (G_X9_readsO n).1 (G_X9_readsO n).2.1 (G_X9_readsO n).2.2.1 (G_X9_readsO n).2.2.2.1 (G_X9_readsO n).2.2.2.2.1 (G_X9_readsO n).2.2.2.2.2, R_X9_readsE (G_X9_readsO n).1 (G_X9_readsO n).2.1 (G_X9_readsO n).2.2.1 (G_X9_readsO n).2.2.2.1 (G_X9_readsO n).2.2.2.2.1 (G_X9_readsO n).2.2.2.2.2)
theorem SG_X9_readsO {g : GC} {x : MX} : ∀ n : Nat, (∀ (d : Nat), n + 3 ≤ d → ∀  (m : MM) (z : MM), (G_X9_readsO n).1 m = some z → JC g m_X9_readsO d 0 0 [.ref 80] (ST x m) (EQ (none) (ST x z))) ∧ (∀ (d : Nat), n + 3 ≤ d → ∀  (m : MM) (z : MM), (G_X9_readsO n).2.1 m = some z → JC g m_X9_readsP d 0 0 [.ref 80] (ST x m) (EQ (none) (ST x z))) ∧ (∀ (d : Nat), n + 3 ≤ d → ∀  (m : MM) (z : MM), (G_X9_readsO n).2.2.1 m = some z → JC g m_X9_readsS d 0 0 [.ref 80] (ST x m) (EQ (none) (ST x z))) ∧ (∀ (d : Nat), n + 3 ≤ d → ∀  (m : MM) (z : MM), (G_X9_readsO n).2.2.2.1 m = some z → JC g m_X9_readsB d 0 0 [.ref 80] (ST x m) (EQ (none) (ST x z))) ∧ (∀ (d : Nat), n + 3 ≤ d → ∀  (m : MM) (z : MM), (G_X9_readsO n).2.2.2.2.1 m = some z → JC g m_X9_readsA d 0 0 [.ref 80] (ST x m) (EQ (none) (ST x z))) ∧ (∀ (d : Nat), n + 3 ≤ d → ∀  (m : MM) (z : MM), (G_X9_readsO n).2.2.2.2.2 m = some z → JC g m_X9_readsE d 0 0 [.ref 80] (ST x m) (EQ (none) (ST x z))) := by
  intro n
  induction n with
  | zero =>
    exact ⟨fun d hd _ _ hF => absurd hF (fun q => by cases q), fun d hd _ _ hF => absurd hF (fun q => by cases q), fun d hd _ _ hF => absurd hF (fun q => by cases q), fun d hd _ _ hF => absurd hF (fun q => by cases q), fun d hd _ _ hF => absurd hF (fun q => by cases q), fun d hd _ _ hF => absurd hF (fun q => by cases q)⟩
  | succ n ih =>
    exact ⟨fun d hd _ _  hF => SR_X9_readsO (nn := n) (by omega) ih.1 ih.2.1 ih.2.2.1 ih.2.2.2.1 ih.2.2.2.2.1 ih.2.2.2.2.2  hF, fun d hd _ _  hF => SR_X9_readsP (nn := n) (by omega) ih.1 ih.2.1 ih.2.2.1 ih.2.2.2.1 ih.2.2.2.2.1 ih.2.2.2.2.2  hF, fun d hd _ _  hF => SR_X9_readsS (nn := n) (by omega) ih.1 ih.2.1 ih.2.2.1 ih.2.2.2.1 ih.2.2.2.2.1 ih.2.2.2.2.2  hF, fun d hd _ _  hF => SR_X9_readsB (nn := n) (by omega) ih.1 ih.2.1 ih.2.2.1 ih.2.2.2.1 ih.2.2.2.2.1 ih.2.2.2.2.2  hF, fun d hd _ _  hF => SR_X9_readsA (nn := n) (by omega) ih.1 ih.2.1 ih.2.2.1 ih.2.2.2.1 ih.2.2.2.2.1 ih.2.2.2.2.2  hF, fun d hd _ _  hF => SR_X9_readsE (nn := n) (by omega) ih.1 ih.2.1 ih.2.2.1 ih.2.2.2.1 ih.2.2.2.2.1 ih.2.2.2.2.2  hF⟩
def f_X9_readsO (m : MM) : Option MM := (G_X9_readsO RF).1 m
theorem S_X9_readsO {g : GC} {d : Nat}  {x : MX} {m : MM} {z : MM} (hd : 103 ≤ d) 
  (hF : f_X9_readsO m = some z) : JC g m_X9_readsO d 0 0 [.ref 80] (ST x m) (EQ (none) (ST x z)) := (SG_X9_readsO RF).1 d (by unfold RF; omega) _ _  hF
def f_X9_readsP (m : MM) : Option MM := (G_X9_readsO RF).2.1 m
theorem S_X9_readsP {g : GC} {d : Nat}  {x : MX} {m : MM} {z : MM} (hd : 103 ≤ d) 
  (hF : f_X9_readsP m = some z) : JC g m_X9_readsP d 0 0 [.ref 80] (ST x m) (EQ (none) (ST x z)) := (SG_X9_readsO RF).2.1 d (by unfold RF; omega) _ _  hF
def f_X9_readsS (m : MM) : Option MM := (G_X9_readsO RF).2.2.1 m
theorem S_X9_readsS {g : GC} {d : Nat}  {x : MX} {m : MM} {z : MM} (hd : 103 ≤ d) 
  (hF : f_X9_readsS m = some z) : JC g m_X9_readsS d 0 0 [.ref 80] (ST x m) (EQ (none) (ST x z)) := (SG_X9_readsO RF).2.2.1 d (by unfold RF; omega) _ _  hF
def f_X9_readsB (m : MM) : Option MM := (G_X9_readsO RF).2.2.2.1 m
theorem S_X9_readsB {g : GC} {d : Nat}  {x : MX} {m : MM} {z : MM} (hd : 103 ≤ d) 
  (hF : f_X9_readsB m = some z) : JC g m_X9_readsB d 0 0 [.ref 80] (ST x m) (EQ (none) (ST x z)) := (SG_X9_readsO RF).2.2.2.1 d (by unfold RF; omega) _ _  hF
def f_X9_readsA (m : MM) : Option MM := (G_X9_readsO RF).2.2.2.2.1 m
theorem S_X9_readsA {g : GC} {d : Nat}  {x : MX} {m : MM} {z : MM} (hd : 103 ≤ d) 
  (hF : f_X9_readsA m = some z) : JC g m_X9_readsA d 0 0 [.ref 80] (ST x m) (EQ (none) (ST x z)) := (SG_X9_readsO RF).2.2.2.2.1 d (by unfold RF; omega) _ _  hF
def f_X9_readsE (m : MM) : Option MM := (G_X9_readsO RF).2.2.2.2.2 m
theorem S_X9_readsE {g : GC} {d : Nat}  {x : MX} {m : MM} {z : MM} (hd : 103 ≤ d) 
  (hF : f_X9_readsE m = some z) : JC g m_X9_readsE d 0 0 [.ref 80] (ST x m) (EQ (none) (ST x z)) := (SG_X9_readsO RF).2.2.2.2.2 d (by unfold RF; omega) _ _  hF
