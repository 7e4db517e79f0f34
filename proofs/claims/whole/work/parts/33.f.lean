def f_X8_judge (a1 : Int32) (a2 : Int32) (x : MX) : Option (Int32 × MX) :=
  if (f_X8_isShelf a1) = true then
  ob (f_X8_isLinkAndCuff a2 x) (fun r2 =>
  if r2 = true then
  if inb a1 6 = true then
  if (f_X6_refusalAs (68 + 2 * ix a1) 1 x) = 0 then
  if inb (a2 % 10) 8 = true then
  ob2 (f_X8_firstNotSo (68 + 2 * ix a1) (a2 / 10) (a2 % 10) (xi x 9 (ix (a2 % 10))) (xi x 11 (ix (a2 % 10))) x) (fun r8 x9 =>
  some (r8, x9))
  else none
  else
  some (f_X6_refusalAs (68 + 2 * ix a1) 1 x, x)
  else none
  else
  some ((-1), x))
  else
  some ((-1), x)
theorem S_X8_judge {g : GC} {d : Nat} {a1 : Int32} {a2 : Int32} {x : MX} {m : MM} {r : Int32} {z : MX} (hd : 5 ≤ d) 
  (hF : f_X8_judge a1 a2 x = some (r, z)) : JC g m_X8_judge d 0 0 [.ref 5, .int a1, .int a2] (ST x m) (EQ (some (.int r)) (ST z m)) := by
  refine JC.of (by decide +kernel) (Nat.le_of_ble_eq_true rfl) ?_
  change J g m_X8_judge d 0 0 0 [(0, .ref 5), (1, .int a1), (2, .int a2)] [] (ST x m) 0 0 (EQ (some (.int r)) (ST z m))
  unfold f_X8_judge at hF
  refine J_iload_n (j := 1) dX8_judge_0 rfl rfl ?_
  refine J_callSi (As := [.int a1]) (S := []) lkS_WithOneHand_91_X8_isShelf dX8_judge_1 (S_X8_isShelf (by omega) rfl) (by omega) rfl rfl (Nat.le_of_ble_eq_true rfl) rfl ?_
  refine J_ifb_eq (tgt := 15) dX8_judge_4 (by decide) (fun q1 => ?_) (fun q1 => ?_)
  · rw [if_neg q1] at hF
    refine J_iconst (v := (-1)) dX8_judge_15 (by decide) ?_
    obtain ⟨e_r, e_z⟩ := someP hF
    subst e_r
    subst e_z
    exact J_ireturn rfl rfl dX8_judge_16 ⟨rfl, rfl⟩
  · rw [if_pos q1] at hF
    refine J_aload_n (j := 0) dX8_judge_7 rfl rfl ?_
    refine J_iload_n (j := 2) dX8_judge_8 rfl rfl ?_
    obtain ⟨r2, h3, hF⟩ := ob_some hF
    refine JX_callVi (As := [.int a2]) (S := []) lkV_WithOneHand_132_X8_isLinkAndCuff rfl (by decide) dX8_judge_9 c_5 (S_X8_isLinkAndCuff (by omega) h3) (by omega) rfl rfl (Nat.le_of_ble_eq_true rfl) rfl ?_
    refine J_ifb_ne (tgt := 17) dX8_judge_12 (by decide) (fun q4 => ?_) (fun q4 => ?_)
    · rw [if_pos q4] at hF
      refine J_aload_n (j := 0) dX8_judge_17 rfl rfl ?_
      refine JX_getR (r := 54) fl_WithOneHand_58_7 dX8_judge_18 c_5 rfl rfl ?_
      refine J_iload_n (j := 1) dX8_judge_21 rfl rfl ?_
      obtain ⟨b5, hF⟩ := chk hF
      refine JX_aald (j := ix a1) (r := 68 + 2 * ix a1) (by decide) dX8_judge_22 c_54 (inb_vp b5) rfl (rw_54 _ (inb_lt b5)) ?_
      refine J_astore_n (L' := [(3, .ref (68 + 2 * ix a1)), (0, .ref 5), (1, .int a1), (2, .int a2)]) dX8_judge_23 rfl (by decide) rfl ?_
      refine J_aload_n (j := 0) dX8_judge_24 rfl rfl ?_
      refine J_iconst (v := 1) dX8_judge_25 (by decide) ?_
      refine JX_callVi (As := [.int 1]) (S := []) lkV_WithOneHand_224_X6_refusalAs rfl (by decide) dX8_judge_26 (c_sh (sh_of (inb_lt b5))) (S_X6_refusalAs (by omega) (sh_of (inb_lt b5)) rfl) (by omega) rfl rfl (Nat.le_of_ble_eq_true rfl) rfl ?_
      refine J_if_eq (tgt := 38) dX8_judge_29 (by decide) (fun q6 => ?_) (fun q6 => ?_)
      · rw [if_pos q6] at hF
        refine J_iload_n (j := 3) dX8_judge_38 rfl rfl ?_
        refine J_bipush (v := 10) dX8_judge_39 (by decide) ?_
        refine J_irem dX8_judge_41 (by decide) ?_
        refine J_istore (L' := [(4, .int (a2 % 10)), (3, .ref (68 + 2 * ix a1)), (0, .ref 5), (1, .int a1), (2, .int a2)]) dX8_judge_42 (by decide) rfl ?_
        refine J_aload_n (j := 2) dX8_judge_44 rfl rfl ?_
        refine J_aload_n (j := 1) dX8_judge_45 rfl rfl ?_
        refine J_iload_n (j := 4) dX8_judge_46 rfl rfl ?_
        refine J_bipush (v := 10) dX8_judge_47 (by decide) ?_
        refine J_idiv dX8_judge_49 (by decide) ?_
        refine J_iload (j := 0) dX8_judge_50 rfl ?_
        refine J_aload_n (j := 2) dX8_judge_52 rfl rfl ?_
        refine JX_getR (r := 6) fl_WithOneHand_11_7 dX8_judge_53 c_5 rfl rfl ?_
        refine J_iconst (v := 2) dX8_judge_56 (by decide) ?_
        refine JX_aald (j := 2) (r := 9) (by decide) dX8_judge_57 c_6 (by unfold vp_in; decide) (by decide) rfl ?_
        refine J_iload (j := 0) dX8_judge_58 rfl ?_
        obtain ⟨b7, hF⟩ := chk hF
        refine JX_iald (j := ix (a2 % 10)) dX8_judge_60 c_9 (inb_vp b7) rfl ?_
        refine J_aload_n (j := 2) dX8_judge_61 rfl rfl ?_
        refine JX_getR (r := 6) fl_WithOneHand_11_7 dX8_judge_62 c_5 rfl rfl ?_
        refine J_iconst (v := 4) dX8_judge_65 (by decide) ?_
        refine JX_aald (j := 4) (r := 11) (by decide) dX8_judge_66 c_6 (by unfold vp_in; decide) (by decide) rfl ?_
        refine J_iload (j := 0) dX8_judge_67 rfl ?_
        refine JX_iald (j := ix (a2 % 10)) dX8_judge_69 c_11 (inb_vp b7) rfl ?_
        obtain ⟨r8, x9, h10, hF⟩ := ob2_some hF
        refine JX_callVi (As := [.ref (68 + 2 * ix a1), .int (a2 / 10), .int (a2 % 10), .int (xi x 9 (ix (a2 % 10))), .int (xi x 11 (ix (a2 % 10)))]) (S := []) lkV_WithOneHand_227_X8_firstNotSo rfl (by decide) dX8_judge_70 c_5 (S_X8_firstNotSo (by omega) (sh_of (inb_lt b5)) h10) (by omega) rfl rfl (Nat.le_of_ble_eq_true rfl) rfl ?_
        obtain ⟨e_r, e_z⟩ := someP hF
        subst e_r
        subst e_z
        exact J_ireturn rfl rfl dX8_judge_73 ⟨rfl, rfl⟩
      · rw [if_neg q6] at hF
        refine J_aload_n (j := 0) dX8_judge_32 rfl rfl ?_
        refine J_iconst (v := 1) dX8_judge_33 (by decide) ?_
        refine JX_callVi (As := [.int 1]) (S := []) lkV_WithOneHand_224_X6_refusalAs rfl (by decide) dX8_judge_34 (c_sh (sh_of (inb_lt b5))) (S_X6_refusalAs (by omega) (sh_of (inb_lt b5)) rfl) (by omega) rfl rfl (Nat.le_of_ble_eq_true rfl) rfl ?_
        obtain ⟨e_r, e_z⟩ := someP hF
        subst e_r
        subst e_z
        exact J_ireturn rfl rfl dX8_judge_37 ⟨rfl, rfl⟩
    · rw [if_neg q4] at hF
      refine J_iconst (v := (-1)) dX8_judge_15 (by decide) ?_
      obtain ⟨e_r, e_z⟩ := someP hF
      subst e_r
      subst e_z
      exact J_ireturn rfl rfl dX8_judge_16 ⟨rfl, rfl⟩
def f_X9_barsOf (a1 : Int32) (m : MM) : Option Int32 :=
  if inb a1 6 = true then
  if (mi m 105 (ix a1)) = 0 then
  some (-11)
  else
  if (mi m 105 (ix a1)) = 2 then
  if (mi m 106 (ix a1)) = 1 then
  some 0
  else
  some (-12)
  else
  some (-12)
  else none
theorem S_X9_barsOf {g : GC} {d : Nat} {a1 : Int32} {x : MX} {m : MM} {r : Int32} (hd : 1 ≤ d) 
  (hF : f_X9_barsOf a1 m = some r) : JC g m_X9_barsOf d 0 0 [.ref 80, .int a1] (ST x m) (EQ (some (.int r)) (ST x m)) := by
  refine JC.of (by decide +kernel) (Nat.le_of_ble_eq_true rfl) ?_
  change J g m_X9_barsOf d 0 0 0 [(0, .ref 80), (1, .int a1)] [] (ST x m) 0 0 (EQ (some (.int r)) (ST x m))
  unfold f_X9_barsOf at hF
  refine J_aload_n (j := 0) dX9_barsOf_0 rfl rfl ?_
  refine JM_getR (r := 105) fl_WithOneHandModel_89_8 dX9_barsOf_1 c_80 rfl rfl ?_
  refine J_iload_n (j := 1) dX9_barsOf_4 rfl rfl ?_
  obtain ⟨b1, hF⟩ := chk hF
  refine JM_iald (j := ix a1) dX9_barsOf_5 c_105 (inb_vp b1) rfl ?_
  refine J_if_ne (tgt := 14) dX9_barsOf_6 (by decide) (fun q2 => ?_) (fun q2 => ?_)
  · rw [if_neg q2] at hF
    refine J_aload_n (j := 0) dX9_barsOf_14 rfl rfl ?_
    refine JM_getR (r := 105) fl_WithOneHandModel_89_8 dX9_barsOf_15 c_80 rfl rfl ?_
    refine J_iload_n (j := 1) dX9_barsOf_18 rfl rfl ?_
    refine JM_iald (j := ix a1) dX9_barsOf_19 c_105 (inb_vp b1) rfl ?_
    refine J_iconst (v := 2) dX9_barsOf_20 (by decide) ?_
    refine J_icmp_ne (tgt := 34) dX9_barsOf_21 (by decide) (fun q3 => ?_) (fun q3 => ?_)
    · rw [if_neg q3] at hF
      refine J_bipush (v := (-12)) dX9_barsOf_34 (by decide) ?_
      refine J_goto (tgt := 40) dX9_barsOf_36 (by decide) ?_
      have e_r := Option.some.inj hF
      subst e_r
      exact J_ireturn rfl rfl dX9_barsOf_40 ⟨rfl, rfl⟩
    · rw [if_pos q3] at hF
      refine J_aload_n (j := 0) dX9_barsOf_24 rfl rfl ?_
      refine JM_getR (r := 106) fl_WithOneHandModel_92_8 dX9_barsOf_25 c_80 rfl rfl ?_
      refine J_iload_n (j := 1) dX9_barsOf_28 rfl rfl ?_
      refine JM_iald (j := ix a1) dX9_barsOf_29 c_106 (inb_vp b1) rfl ?_
      refine J_iconst (v := 1) dX9_barsOf_30 (by decide) ?_
      refine J_icmp_eq (tgt := 39) dX9_barsOf_31 (by decide) (fun q4 => ?_) (fun q4 => ?_)
      · rw [if_pos q4] at hF
        refine J_iconst (v := 0) dX9_barsOf_39 (by decide) ?_
        have e_r := Option.some.inj hF
        subst e_r
        exact J_ireturn rfl rfl dX9_barsOf_40 ⟨rfl, rfl⟩
      · rw [if_neg q4] at hF
        refine J_bipush (v := (-12)) dX9_barsOf_34 (by decide) ?_
        refine J_goto (tgt := 40) dX9_barsOf_36 (by decide) ?_
        have e_r := Option.some.inj hF
        subst e_r
        exact J_ireturn rfl rfl dX9_barsOf_40 ⟨rfl, rfl⟩
  · rw [if_pos q2] at hF
    refine J_bipush (v := (-11)) dX9_barsOf_9 (by decide) ?_
    refine J_goto (tgt := 40) dX9_barsOf_11 (by decide) ?_
    have e_r := Option.some.inj hF
    subst e_r
    exact J_ireturn rfl rfl dX9_barsOf_40 ⟨rfl, rfl⟩
def B_X9_unlike_3 (K3 : Int32 → Int32 → Int32 → Int32 → Int32 → Int32 → MM → Option (Int32 × MM)) (v1 : Int32) (v2 : Int32) (v3 : Int32) (v4 : Int32) (v5 : Int32) (v6 : Int32) (m : MM) : Option (Int32 × MM) :=
  if inb v1 6 = true then
  if (mi m 107 (ix v1)) ≤ v6 then
  some ((-2), m)
  else
  if inb v4 2 = true then
  ob2 (f_X9_takesSo v2 v3 (mi m 88 (ix v4)) ((mi m 90 (ix v4)) + v6) v5 m) (fun r4 m5 =>
  ob (f_X9_intAt v1 v6 m5) (fun r7 =>
  if r4 = r7 then
  K3 v1 v2 v3 v4 v5 (v6 + 1) m5
  else
  some (v6, m5)))
  else none
  else none
theorem SB_X9_unlike_3 {g : GC} {d : Nat} {K3 : Int32 → Int32 → Int32 → Int32 → Int32 → Int32 → MM → Option (Int32 × MM)} {v1 : Int32} {v2 : Int32} {v3 : Int32} {v4 : Int32} {v5 : Int32} {v6 : Int32} {x : MX} {m : MM} {r : Int32} {z : MM} (hd : 106 ≤ d) (hK3 : ∀ (v1 : Int32) (v2 : Int32) (v3 : Int32) (v4 : Int32) (v5 : Int32) (v6 : Int32) (m : MM) (r : Int32) (z : MM), K3 v1 v2 v3 v4 v5 v6 m = some (r, z) → J g m_X9_unlike d 0 0 3 [(0, .ref 80), (1, .int v1), (2, .int v2), (3, .int v3), (4, .int v4), (5, .int v5), (6, .int v6)] [] (ST x m) 0 0 (EQ (some (.int r)) (ST x z)))
  (hF : B_X9_unlike_3 K3 v1 v2 v3 v4 v5 v6 m = some (r, z)) : J g m_X9_unlike d 0 0 3 [(0, .ref 80), (1, .int v1), (2, .int v2), (3, .int v3), (4, .int v4), (5, .int v5), (6, .int v6)] [] (ST x m) 0 0 (EQ (some (.int r)) (ST x z)) := by
  unfold B_X9_unlike_3 at hF
  refine J_iload (j := 6) dX9_unlike_3 rfl ?_
  refine J_aload_n (j := 0) dX9_unlike_5 rfl rfl ?_
  refine JM_getR (r := 107) fl_WithOneHandModel_95_8 dX9_unlike_6 c_80 rfl rfl ?_
  refine J_iload_n (j := 1) dX9_unlike_9 rfl rfl ?_
  obtain ⟨b1, hF⟩ := chk hF
  refine JM_iald (j := ix v1) dX9_unlike_10 c_107 (inb_vp b1) rfl ?_
  refine J_icmp_ge (tgt := 58) dX9_unlike_11 (by decide) (fun q2 => ?_) (fun q2 => ?_)
  · rw [if_pos q2] at hF
    refine J_bipush (v := (-2)) dX9_unlike_58 (by decide) ?_
    obtain ⟨e_r, e_z⟩ := someP hF
    subst e_r
    subst e_z
    exact J_ireturn rfl rfl dX9_unlike_60 ⟨rfl, rfl⟩
  · rw [if_neg q2] at hF
    refine J_aload_n (j := 0) dX9_unlike_14 rfl rfl ?_
    refine J_iload_n (j := 2) dX9_unlike_15 rfl rfl ?_
    refine J_iload_n (j := 3) dX9_unlike_16 rfl rfl ?_
    refine J_aload_n (j := 0) dX9_unlike_17 rfl rfl ?_
    refine JM_getR (r := 88) fl_WithOneHandModel_35_8 dX9_unlike_18 c_80 rfl rfl ?_
    refine J_iload (j := 4) dX9_unlike_21 rfl ?_
    obtain ⟨b3, hF⟩ := chk hF
    refine JM_iald (j := ix v4) dX9_unlike_23 c_88 (inb_vp b3) rfl ?_
    refine J_aload_n (j := 0) dX9_unlike_24 rfl rfl ?_
    refine JM_getR (r := 90) fl_WithOneHandModel_41_8 dX9_unlike_25 c_80 rfl rfl ?_
    refine J_iload (j := 4) dX9_unlike_28 rfl ?_
    refine JM_iald (j := ix v4) dX9_unlike_30 c_90 (inb_vp b3) rfl ?_
    refine J_iload (j := 6) dX9_unlike_31 rfl ?_
    refine J_iadd dX9_unlike_33 ?_
    refine J_iload (j := 5) dX9_unlike_34 rfl ?_
    obtain ⟨r4, m5, h6, hF⟩ := ob2_some hF
    refine JM_callVi (As := [.int v2, .int v3, .int (mi m 88 (ix v4)), .int ((mi m 90 (ix v4)) + v6), .int v5]) (S := []) lkV_WithOneHandModel_250_X9_takesSo rfl (by decide) dX9_unlike_36 c_80 (S_X9_takesSo (by omega) h6) (by omega) rfl rfl (Nat.le_of_ble_eq_true rfl) rfl ?_
    refine J_aload_n (j := 0) dX9_unlike_39 rfl rfl ?_
    refine J_iload_n (j := 1) dX9_unlike_40 rfl rfl ?_
    refine J_iload (j := 6) dX9_unlike_41 rfl ?_
    obtain ⟨r7, h8, hF⟩ := ob_some hF
    refine JM_callVi (As := [.int v1, .int v6]) (S := [.int r4]) lkV_WithOneHandModel_126_X9_intAt rfl (by decide) dX9_unlike_43 c_80 (S_X9_intAt (by omega) h8) (by omega) rfl rfl (Nat.le_of_ble_eq_true rfl) rfl ?_
    refine J_icmp_eq (tgt := 52) dX9_unlike_46 (by decide) (fun q9 => ?_) (fun q9 => ?_)
    · rw [if_pos q9] at hF
      refine J_iinc (j := 6) (v := v6 + 1) (L' := [(6, .int (v6 + 1)), (0, .ref 80), (1, .int v1), (2, .int v2), (3, .int v3), (4, .int v4), (5, .int v5)]) dX9_unlike_52 rfl rfl (by decide) rfl ?_
      refine J_goto (tgt := 3) dX9_unlike_55 (by decide) ?_
      refine J_sub [1, 2, 3, 4, 5, 6, 0] rfl ?_
      exact hK3 _ _ _ _ _ _ _ _ _  hF
    · rw [if_neg q9] at hF
      refine J_iload (j := 6) dX9_unlike_49 rfl ?_
      obtain ⟨e_r, e_z⟩ := someP hF
      subst e_r
      subst e_z
      exact J_ireturn rfl rfl dX9_unlike_51 ⟨rfl, rfl⟩
def f_X9_unlike_3  : Nat → Int32 → Int32 → Int32 → Int32 → Int32 → Int32 → MM → Option (Int32 × MM)
  | 0 => fun _ _ _ _ _ _ _ => none
  | n + 1 => fun v1 v2 v3 v4 v5 v6 m => B_X9_unlike_3 (f_X9_unlike_3  n) v1 v2 v3 v4 v5 v6 m
theorem Sf_X9_unlike_3 {g : GC} {d : Nat} {x : MX} (hd : 106 ≤ d)  : ∀ (n : Nat) (v1 : Int32) (v2 : Int32) (v3 : Int32) (v4 : Int32) (v5 : Int32) (v6 : Int32) (m : MM) (r : Int32) (z : MM), f_X9_unlike_3  n v1 v2 v3 v4 v5 v6 m = some (r, z) → J g m_X9_unlike d 0 0 3 [(0, .ref 80), (1, .int v1), (2, .int v2), (3, .int v3), (4, .int v4), (5, .int v5), (6, .int v6)] [] (ST x m) 0 0 (EQ (some (.int r)) (ST x z)) := by
  intro n
  induction n with
  | zero => intro v1 v2 v3 v4 v5 v6 m r z  hF; exact absurd hF (fun q => by cases q)
  | succ n ih =>
    intro v1 v2 v3 v4 v5 v6 m r z  hF
    exact SB_X9_unlike_3 hd (fun v1 v2 v3 v4 v5 v6 m r z  hF => ih v1 v2 v3 v4 v5 v6 m r z  hF) hF
def f_X9_unlike (a1 : Int32) (a2 : Int32) (a3 : Int32) (a4 : Int32) (a5 : Int32) (m : MM) : Option (Int32 × MM) :=
  f_X9_unlike_3 LF a1 a2 a3 a4 a5 0 m
theorem S_X9_unlike {g : GC} {d : Nat} {a1 : Int32} {a2 : Int32} {a3 : Int32} {a4 : Int32} {a5 : Int32} {x : MX} {m : MM} {r : Int32} {z : MM} (hd : 106 ≤ d) 
  (hF : f_X9_unlike a1 a2 a3 a4 a5 m = some (r, z)) : JC g m_X9_unlike d 0 0 [.ref 80, .int a1, .int a2, .int a3, .int a4, .int a5] (ST x m) (EQ (some (.int r)) (ST x z)) := by
  refine JC.of (by decide +kernel) (Nat.le_of_ble_eq_true rfl) ?_
  change J g m_X9_unlike d 0 0 0 [(0, .ref 80), (1, .int a1), (2, .int a2), (3, .int a3), (4, .int a4), (5, .int a5)] [] (ST x m) 0 0 (EQ (some (.int r)) (ST x z))
  unfold f_X9_unlike at hF
  refine J_iconst (v := 0) dX9_unlike_0 (by decide) ?_
  refine J_istore (L' := [(6, .int 0), (0, .ref 80), (1, .int a1), (2, .int a2), (3, .int a3), (4, .int a4), (5, .int a5)]) dX9_unlike_1 (by decide) rfl ?_
  refine J_sub [1, 2, 3, 4, 5, 6, 0] rfl ?_
  exact Sf_X9_unlike_3 hd _ _ _ _ _ _ _ _ _ _ hF
def f_X9_judge (a1 : Int32) (a2 : Int32) (m : MM) : Option (Int32 × MM) :=
  if (f_X9_isShelf a1) = true then
  ob (f_X9_isPair a2 m) (fun r2 =>
  if r2 = true then
  ob (f_X9_barsOf a1 m) (fun r5 =>
  if r5 = 0 then
  if inb (a2 % 10) 6 = true then
  ob2 (f_X9_unlike a1 (a2 / 10) (a2 % 10) (mi m 85 (ix (a2 % 10))) (mi m 83 (ix (a2 % 10))) m) (fun r9 m10 =>
  some (r9, m10))
  else none
  else
  ob (f_X9_barsOf a1 m) (fun r12 =>
  some (r12, m)))
  else
  some ((-1), m))
  else
  some ((-1), m)
theorem S_X9_judge {g : GC} {d : Nat} {a1 : Int32} {a2 : Int32} {x : MX} {m : MM} {r : Int32} {z : MM} (hd : 107 ≤ d) 
  (hF : f_X9_judge a1 a2 m = some (r, z)) : JC g m_X9_judge d 0 0 [.ref 80, .int a1, .int a2] (ST x m) (EQ (some (.int r)) (ST x z)) := by
  refine JC.of (by decide +kernel) (Nat.le_of_ble_eq_true rfl) ?_
  change J g m_X9_judge d 0 0 0 [(0, .ref 80), (1, .int a1), (2, .int a2)] [] (ST x m) 0 0 (EQ (some (.int r)) (ST x z))
  unfold f_X9_judge at hF
  refine J_aload_n (j := 0) dX9_judge_0 rfl rfl ?_
  refine J_iload_n (j := 1) dX9_judge_1 rfl rfl ?_
  refine JM_callVi (As := [.int a1]) (S := []) lkV_WithOneHandModel_122_X9_isShelf rfl (by decide) dX9_judge_2 c_80 (S_X9_isShelf (by omega) rfl) (by omega) rfl rfl (Nat.le_of_ble_eq_true rfl) rfl ?_
  refine J_ifb_eq (tgt := 16) dX9_judge_5 (by decide) (fun q1 => ?_) (fun q1 => ?_)
  · rw [if_neg q1] at hF
    refine J_iconst (v := (-1)) dX9_judge_16 (by decide) ?_
    obtain ⟨e_r, e_z⟩ := someP hF
    subst e_r
    subst e_z
    exact J_ireturn rfl rfl dX9_judge_17 ⟨rfl, rfl⟩
  · rw [if_pos q1] at hF
    refine J_aload_n (j := 0) dX9_judge_8 rfl rfl ?_
    refine J_iload_n (j := 2) dX9_judge_9 rfl rfl ?_
    obtain ⟨r2, h3, hF⟩ := ob_some hF
    refine JM_callVi (As := [.int a2]) (S := []) lkV_WithOneHandModel_261_X9_isPair rfl (by decide) dX9_judge_10 c_80 (S_X9_isPair (by omega) h3) (by omega) rfl rfl (Nat.le_of_ble_eq_true rfl) rfl ?_
    refine J_ifb_ne (tgt := 18) dX9_judge_13 (by decide) (fun q4 => ?_) (fun q4 => ?_)
    · rw [if_pos q4] at hF
      refine J_iload_n (j := 2) dX9_judge_18 rfl rfl ?_
      refine J_bipush (v := 10) dX9_judge_19 (by decide) ?_
      refine J_irem dX9_judge_21 (by decide) ?_
      refine J_istore_n (L' := [(3, .int (a2 % 10)), (0, .ref 80), (1, .int a1), (2, .int a2)]) dX9_judge_22 rfl (by decide) rfl ?_
      refine J_aload_n (j := 1) dX9_judge_23 rfl rfl ?_
      refine J_iload_n (j := 2) dX9_judge_24 rfl rfl ?_
      obtain ⟨r5, h6, hF⟩ := ob_some hF
      refine JM_callVi (As := [.int a1]) (S := []) lkV_WithOneHandModel_321_X9_barsOf rfl (by decide) dX9_judge_25 c_80 (S_X9_barsOf (by omega) h6) (by omega) rfl rfl (Nat.le_of_ble_eq_true rfl) rfl ?_
      refine J_if_eq (tgt := 39) dX9_judge_28 (by decide) (fun q7 => ?_) (fun q7 => ?_)
      · rw [if_pos q7] at hF
        refine J_aload_n (j := 1) dX9_judge_39 rfl rfl ?_
        refine J_iload_n (j := 2) dX9_judge_40 rfl rfl ?_
        refine J_iload_n (j := 3) dX9_judge_41 rfl rfl ?_
        refine J_bipush (v := 10) dX9_judge_42 (by decide) ?_
        refine J_idiv dX9_judge_44 (by decide) ?_
        refine J_iload_n (j := 0) dX9_judge_45 rfl rfl ?_
        refine J_aload_n (j := 1) dX9_judge_46 rfl rfl ?_
        refine JM_getR (r := 85) fl_WithOneHandModel_26_8 dX9_judge_47 c_80 rfl rfl ?_
        refine J_iload_n (j := 0) dX9_judge_50 rfl rfl ?_
        obtain ⟨b8, hF⟩ := chk hF
        refine JM_iald (j := ix (a2 % 10)) dX9_judge_51 c_85 (inb_vp b8) rfl ?_
        refine J_aload_n (j := 1) dX9_judge_52 rfl rfl ?_
        refine JM_getR (r := 83) fl_WithOneHandModel_20_8 dX9_judge_53 c_80 rfl rfl ?_
        refine J_iload_n (j := 0) dX9_judge_56 rfl rfl ?_
        refine JM_iald (j := ix (a2 % 10)) dX9_judge_57 c_83 (inb_vp b8) rfl ?_
        obtain ⟨r9, m10, h11, hF⟩ := ob2_some hF
        refine JM_callVi (As := [.int a1, .int (a2 / 10), .int (a2 % 10), .int (mi m 85 (ix (a2 % 10))), .int (mi m 83 (ix (a2 % 10)))]) (S := []) lkV_WithOneHandModel_324_X9_unlike rfl (by decide) dX9_judge_58 c_80 (S_X9_unlike (by omega) h11) (by omega) rfl rfl (Nat.le_of_ble_eq_true rfl) rfl ?_
        obtain ⟨e_r, e_z⟩ := someP hF
        subst e_r
        subst e_z
        exact J_ireturn rfl rfl dX9_judge_61 ⟨rfl, rfl⟩
      · rw [if_neg q7] at hF
        refine J_aload_n (j := 1) dX9_judge_31 rfl rfl ?_
        refine J_iload_n (j := 2) dX9_judge_32 rfl rfl ?_
        obtain ⟨r12, h13, hF⟩ := ob_some hF
        refine JM_callVi (As := [.int a1]) (S := []) lkV_WithOneHandModel_321_X9_barsOf rfl (by decide) dX9_judge_33 c_80 (S_X9_barsOf (by omega) h13) (by omega) rfl rfl (Nat.le_of_ble_eq_true rfl) rfl ?_
        refine J_goto (tgt := 61) dX9_judge_36 (by decide) ?_
        obtain ⟨e_r, e_z⟩ := someP hF
        subst e_r
        subst e_z
        exact J_ireturn rfl rfl dX9_judge_61 ⟨rfl, rfl⟩
    · rw [if_neg q4] at hF
      refine J_iconst (v := (-1)) dX9_judge_16 (by decide) ?_
      obtain ⟨e_r, e_z⟩ := someP hF
      subst e_r
      subst e_z
      exact J_ireturn rfl rfl dX9_judge_17 ⟨rfl, rfl⟩
def B_X8_which_91 (K44 : Int32 → Nat → Int32 → Int32 → MX → Option (Int32 × MX)) (v2 : Int32) (v3 : Nat) (v4 : Int32) (v5 : Int32) (x : MX) : Option (Int32 × MX) :=
  K44 v2 v3 v4 (v5 + 1) x
theorem SB_X8_which_91 {g : GC} {d : Nat} {K44 : Int32 → Nat → Int32 → Int32 → MX → Option (Int32 × MX)} {v2 : Int32} {v3 : Nat} {v4 : Int32} {v5 : Int32} {x : MX} {m : MM} {r : Int32} {z : MX} (hd : 5 ≤ d) (hK44 : ∀ (v2 : Int32) (v3 : Nat) (v4 : Int32) (v5 : Int32) (x : MX) (r : Int32) (z : MX), isSh v3 → K44 v2 v3 v4 v5 x = some (r, z) → J g m_X8_which d 0 0 44 [(0, .ref 5), (2, .int v2), (3, .ref v3), (4, .int v4), (5, .int v5)] [] (ST x m) 0 0 (EQ (some (.int r)) (ST z m))) (e_v3 : isSh v3)
  (hF : B_X8_which_91 K44 v2 v3 v4 v5 x = some (r, z)) : J g m_X8_which d 0 0 91 [(0, .ref 5), (2, .int v2), (3, .ref v3), (4, .int v4), (5, .int v5)] [] (ST x m) 0 0 (EQ (some (.int r)) (ST z m)) := by
  unfold B_X8_which_91 at hF
  refine J_iinc (j := 4) (v := v5 + 1) (L' := [(5, .int (v5 + 1)), (0, .ref 5), (2, .int v2), (3, .ref v3), (4, .int v4)]) dX8_which_91 rfl rfl (by decide) rfl ?_
  refine J_goto (tgt := 44) dX8_which_94 (by decide) ?_
  refine J_sub [1, 2, 3, 4, 0] rfl ?_
  exact hK44 _ _ _ _ _ _ _ e_v3 hF
def B_X8_which_44 (K44 : Int32 → Nat → Int32 → Int32 → MX → Option (Int32 × MX)) (v2 : Int32) (v3 : Nat) (v4 : Int32) (v5 : Int32) (x : MX) : Option (Int32 × MX) :=
  if (xi x 5 12) ≤ v5 then
  some (v4, x)
  else
  if inb v2 8 = true then
  ob2 (f_X8_firstNotSo v3 v5 v2 (xi x 9 (ix v2)) (xi x 11 (ix v2)) x) (fun r7 x8 =>
  if r7 = (-2) then
  letx (v4 ||| ((1 : Int32) <<< (v5 &&& 31))) (fun y11 =>
  B_X8_which_91 K44 v2 v3 y11 v5 x8)
  else
  B_X8_which_91 K44 v2 v3 v4 v5 x8)
  else none
theorem SB_X8_which_44 {g : GC} {d : Nat} {K44 : Int32 → Nat → Int32 → Int32 → MX → Option (Int32 × MX)} {v2 : Int32} {v3 : Nat} {v4 : Int32} {v5 : Int32} {x : MX} {m : MM} {r : Int32} {z : MX} (hd : 5 ≤ d) (hK44 : ∀ (v2 : Int32) (v3 : Nat) (v4 : Int32) (v5 : Int32) (x : MX) (r : Int32) (z : MX), isSh v3 → K44 v2 v3 v4 v5 x = some (r, z) → J g m_X8_which d 0 0 44 [(0, .ref 5), (2, .int v2), (3, .ref v3), (4, .int v4), (5, .int v5)] [] (ST x m) 0 0 (EQ (some (.int r)) (ST z m))) (e_v3 : isSh v3)
  (hF : B_X8_which_44 K44 v2 v3 v4 v5 x = some (r, z)) : J g m_X8_which d 0 0 44 [(0, .ref 5), (2, .int v2), (3, .ref v3), (4, .int v4), (5, .int v5)] [] (ST x m) 0 0 (EQ (some (.int r)) (ST z m)) := by
  unfold B_X8_which_44 at hF
  refine J_iload (j := 4) dX8_which_44 rfl ?_
  refine J_aload_n (j := 0) dX8_which_46 rfl rfl ?_
  refine JX_getI fl_WithOneHand_80_7 dX8_which_47 c_5 rfl ?_
  refine J_icmp_ge (tgt := 97) dX8_which_50 (by decide) (fun q5 => ?_) (fun q5 => ?_)
  · rw [if_pos q5] at hF
    refine J_iload (j := 3) dX8_which_97 rfl ?_
    obtain ⟨e_r, e_z⟩ := someP hF
    subst e_r
    subst e_z
    exact J_ireturn rfl rfl dX8_which_99 ⟨rfl, rfl⟩
  · rw [if_neg q5] at hF
    refine J_aload_n (j := 0) dX8_which_53 rfl rfl ?_
    refine J_aload_n (j := 2) dX8_which_54 rfl rfl ?_
    refine J_iload (j := 4) dX8_which_55 rfl ?_
    refine J_iload_n (j := 1) dX8_which_57 rfl rfl ?_
    refine J_aload_n (j := 0) dX8_which_58 rfl rfl ?_
    refine JX_getR (r := 6) fl_WithOneHand_11_7 dX8_which_59 c_5 rfl rfl ?_
    refine J_iconst (v := 2) dX8_which_62 (by decide) ?_
    refine JX_aald (j := 2) (r := 9) (by decide) dX8_which_63 c_6 (by unfold vp_in; decide) (by decide) rfl ?_
    refine J_iload_n (j := 1) dX8_which_64 rfl rfl ?_
    obtain ⟨b6, hF⟩ := chk hF
    refine JX_iald (j := ix v2) dX8_which_65 c_9 (inb_vp b6) rfl ?_
    refine J_aload_n (j := 0) dX8_which_66 rfl rfl ?_
    refine JX_getR (r := 6) fl_WithOneHand_11_7 dX8_which_67 c_5 rfl rfl ?_
    refine J_iconst (v := 4) dX8_which_70 (by decide) ?_
    refine JX_aald (j := 4) (r := 11) (by decide) dX8_which_71 c_6 (by unfold vp_in; decide) (by decide) rfl ?_
    refine J_iload_n (j := 1) dX8_which_72 rfl rfl ?_
    refine JX_iald (j := ix v2) dX8_which_73 c_11 (inb_vp b6) rfl ?_
    obtain ⟨r7, x8, h9, hF⟩ := ob2_some hF
    refine JX_callVi (As := [.ref v3, .int v5, .int v2, .int (xi x 9 (ix v2)), .int (xi x 11 (ix v2))]) (S := []) lkV_WithOneHand_227_X8_firstNotSo rfl (by decide) dX8_which_74 c_5 (S_X8_firstNotSo (by omega) e_v3 h9) (by omega) rfl rfl (Nat.le_of_ble_eq_true rfl) rfl ?_
    refine J_bipush (v := (-2)) dX8_which_77 (by decide) ?_
    refine J_icmp_ne (tgt := 91) dX8_which_79 (by decide) (fun q10 => ?_) (fun q10 => ?_)
    · rw [if_neg q10] at hF
      exact SB_X8_which_91 hd hK44 e_v3 hF
    · rw [if_pos q10] at hF
      refine J_iload (j := 3) dX8_which_82 rfl ?_
      refine J_iconst (v := 1) dX8_which_84 (by decide) ?_
      refine J_iload (j := 4) dX8_which_85 rfl ?_
      refine J_ishl dX8_which_87 ?_
      refine J_ior dX8_which_88 ?_
      obtain ⟨y11, e_y11, hF⟩ := letx_eq hF
      rw [← e_y11]
      refine J_istore (L' := [(4, .int y11), (0, .ref 5), (2, .int v2), (3, .ref v3), (5, .int v5)]) dX8_which_89 (by decide) rfl ?_
      refine J_sub [1, 2, 3, 0, 4] rfl ?_
      exact SB_X8_which_91 hd hK44 e_v3 hF
def f_X8_which_44  : Nat → Int32 → Nat → Int32 → Int32 → MX → Option (Int32 × MX)
  | 0 => fun _ _ _ _ _ => none
  | n + 1 => fun v2 v3 v4 v5 x => B_X8_which_44 (f_X8_which_44  n) v2 v3 v4 v5 x
theorem Sf_X8_which_44 {g : GC} {d : Nat} {m : MM} (hd : 5 ≤ d)  : ∀ (n : Nat) (v2 : Int32) (v3 : Nat) (v4 : Int32) (v5 : Int32) (x : MX) (r : Int32) (z : MX), (e_v3 : isSh v3) → f_X8_which_44  n v2 v3 v4 v5 x = some (r, z) → J g m_X8_which d 0 0 44 [(0, .ref 5), (2, .int v2), (3, .ref v3), (4, .int v4), (5, .int v5)] [] (ST x m) 0 0 (EQ (some (.int r)) (ST z m)) := by
  intro n
  induction n with
  | zero => intro v2 v3 v4 v5 x r z e_v3 hF; exact absurd hF (fun q => by cases q)
  | succ n ih =>
    intro v2 v3 v4 v5 x r z e_v3 hF
    exact SB_X8_which_44 hd (fun v2 v3 v4 v5 x r z e_v3 hF => ih v2 v3 v4 v5 x r z e_v3 hF) e_v3 hF
def f_X8_which (a1 : Int32) (a2 : Int32) (x : MX) : Option (Int32 × MX) :=
  if (f_X8_isShelf a1) = true then
  if (f_X8_isCuff a2 x) = true then
  if inb a1 6 = true then
  if (f_X6_refusalAs (68 + 2 * ix a1) 1 x) = 0 then
  f_X8_which_44 LF a2 (68 + 2 * ix a1) 0 0 x
  else
  some (f_X6_refusalAs (68 + 2 * ix a1) 1 x, x)
  else none
  else
  some ((-1), x)
  else
  some ((-1), x)
theorem S_X8_which {g : GC} {d : Nat} {a1 : Int32} {a2 : Int32} {x : MX} {m : MM} {r : Int32} {z : MX} (hd : 5 ≤ d) 
  (hF : f_X8_which a1 a2 x = some (r, z)) : JC g m_X8_which d 0 0 [.ref 5, .int a1, .int a2] (ST x m) (EQ (some (.int r)) (ST z m)) := by
  refine JC.of (by decide +kernel) (Nat.le_of_ble_eq_true rfl) ?_
  change J g m_X8_which d 0 0 0 [(0, .ref 5), (1, .int a1), (2, .int a2)] [] (ST x m) 0 0 (EQ (some (.int r)) (ST z m))
  unfold f_X8_which at hF
  refine J_iload_n (j := 1) dX8_which_0 rfl rfl ?_
  refine J_callSi (As := [.int a1]) (S := []) lkS_WithOneHand_91_X8_isShelf dX8_which_1 (S_X8_isShelf (by omega) rfl) (by omega) rfl rfl (Nat.le_of_ble_eq_true rfl) rfl ?_
  refine J_ifb_eq (tgt := 15) dX8_which_4 (by decide) (fun q1 => ?_) (fun q1 => ?_)
  · rw [if_neg q1] at hF
    refine J_iconst (v := (-1)) dX8_which_15 (by decide) ?_
    obtain ⟨e_r, e_z⟩ := someP hF
    subst e_r
    subst e_z
    exact J_ireturn rfl rfl dX8_which_16 ⟨rfl, rfl⟩
  · rw [if_pos q1] at hF
    refine J_aload_n (j := 0) dX8_which_7 rfl rfl ?_
    refine J_iload_n (j := 2) dX8_which_8 rfl rfl ?_
    refine JX_callVi (As := [.int a2]) (S := []) lkV_WithOneHand_116_X8_isCuff rfl (by decide) dX8_which_9 c_5 (S_X8_isCuff (by omega) rfl) (by omega) rfl rfl (Nat.le_of_ble_eq_true rfl) rfl ?_
    refine J_ifb_ne (tgt := 17) dX8_which_12 (by decide) (fun q2 => ?_) (fun q2 => ?_)
    · rw [if_pos q2] at hF
      refine J_aload_n (j := 0) dX8_which_17 rfl rfl ?_
      refine JX_getR (r := 54) fl_WithOneHand_58_7 dX8_which_18 c_5 rfl rfl ?_
      refine J_iload_n (j := 1) dX8_which_21 rfl rfl ?_
      obtain ⟨b3, hF⟩ := chk hF
      refine JX_aald (j := ix a1) (r := 68 + 2 * ix a1) (by decide) dX8_which_22 c_54 (inb_vp b3) rfl (rw_54 _ (inb_lt b3)) ?_
      refine J_astore_n (L' := [(3, .ref (68 + 2 * ix a1)), (0, .ref 5), (1, .int a1), (2, .int a2)]) dX8_which_23 rfl (by decide) rfl ?_
      refine J_aload_n (j := 0) dX8_which_24 rfl rfl ?_
      refine J_iconst (v := 1) dX8_which_25 (by decide) ?_
      refine JX_callVi (As := [.int 1]) (S := []) lkV_WithOneHand_224_X6_refusalAs rfl (by decide) dX8_which_26 (c_sh (sh_of (inb_lt b3))) (S_X6_refusalAs (by omega) (sh_of (inb_lt b3)) rfl) (by omega) rfl rfl (Nat.le_of_ble_eq_true rfl) rfl ?_
      refine J_if_eq (tgt := 38) dX8_which_29 (by decide) (fun q4 => ?_) (fun q4 => ?_)
      · rw [if_pos q4] at hF
        refine J_iconst (v := 0) dX8_which_38 (by decide) ?_
        refine J_istore (L' := [(4, .int 0), (3, .ref (68 + 2 * ix a1)), (0, .ref 5), (1, .int a1), (2, .int a2)]) dX8_which_39 (by decide) rfl ?_
        refine J_iconst (v := 0) dX8_which_41 (by decide) ?_
        refine J_istore (L' := [(5, .int 0), (4, .int 0), (3, .ref (68 + 2 * ix a1)), (0, .ref 5), (1, .int a1), (2, .int a2)]) dX8_which_42 (by decide) rfl ?_
        refine J_sub [3, 5, 2, 1, 0] rfl ?_
        exact Sf_X8_which_44 hd _ _ _ _ _ _ _ _ (sh_of (inb_lt b3)) hF
      · rw [if_neg q4] at hF
        refine J_aload_n (j := 0) dX8_which_32 rfl rfl ?_
        refine J_iconst (v := 1) dX8_which_33 (by decide) ?_
        refine JX_callVi (As := [.int 1]) (S := []) lkV_WithOneHand_224_X6_refusalAs rfl (by decide) dX8_which_34 (c_sh (sh_of (inb_lt b3))) (S_X6_refusalAs (by omega) (sh_of (inb_lt b3)) rfl) (by omega) rfl rfl (Nat.le_of_ble_eq_true rfl) rfl ?_
        obtain ⟨e_r, e_z⟩ := someP hF
        subst e_r
        subst e_z
        exact J_ireturn rfl rfl dX8_which_37 ⟨rfl, rfl⟩
    · rw [if_neg q2] at hF
      refine J_iconst (v := (-1)) dX8_which_15 (by decide) ?_
      obtain ⟨e_r, e_z⟩ := someP hF
      subst e_r
      subst e_z
      exact J_ireturn rfl rfl dX8_which_16 ⟨rfl, rfl⟩
def B_X9_which_78 (K37 : Int32 → Int32 → Int32 → Int32 → MM → Option (Int32 × MM)) (v1 : Int32) (v2 : Int32) (v3 : Int32) (v4 : Int32) (m : MM) : Option (Int32 × MM) :=
  K37 v1 v2 v3 (v4 + 1) m
theorem SB_X9_which_78 {g : GC} {d : Nat} {K37 : Int32 → Int32 → Int32 → Int32 → MM → Option (Int32 × MM)} {v1 : Int32} {v2 : Int32} {v3 : Int32} {v4 : Int32} {x : MX} {m : MM} {r : Int32} {z : MM} (hd : 107 ≤ d) (hK37 : ∀ (v1 : Int32) (v2 : Int32) (v3 : Int32) (v4 : Int32) (m : MM) (r : Int32) (z : MM), K37 v1 v2 v3 v4 m = some (r, z) → J g m_X9_which d 0 0 37 [(0, .ref 80), (1, .int v1), (2, .int v2), (3, .int v3), (4, .int v4)] [] (ST x m) 0 0 (EQ (some (.int r)) (ST x z)))
  (hF : B_X9_which_78 K37 v1 v2 v3 v4 m = some (r, z)) : J g m_X9_which d 0 0 78 [(0, .ref 80), (1, .int v1), (2, .int v2), (3, .int v3), (4, .int v4)] [] (ST x m) 0 0 (EQ (some (.int r)) (ST x z)) := by
  unfold B_X9_which_78 at hF
  refine J_iinc (j := 4) (v := v4 + 1) (L' := [(4, .int (v4 + 1)), (0, .ref 80), (1, .int v1), (2, .int v2), (3, .int v3)]) dX9_which_78 rfl rfl (by decide) rfl ?_
  refine J_goto (tgt := 37) dX9_which_81 (by decide) ?_
  refine J_sub [1, 2, 3, 4, 0] rfl ?_
  exact hK37 _ _ _ _ _ _ _  hF
def B_X9_which_37 (K37 : Int32 → Int32 → Int32 → Int32 → MM → Option (Int32 × MM)) (v1 : Int32) (v2 : Int32) (v3 : Int32) (v4 : Int32) (m : MM) : Option (Int32 × MM) :=
  if (mi m 80 0) ≤ v4 then
  some (v3, m)
  else
  if inb v2 6 = true then
  ob2 (f_X9_unlike v1 v4 v2 (mi m 85 (ix v2)) (mi m 83 (ix v2)) m) (fun r8 m9 =>
  if r8 = (-2) then
  letx (v3 ||| ((1 : Int32) <<< (v4 &&& 31))) (fun y12 =>
  B_X9_which_78 K37 v1 v2 y12 v4 m9)
  else
  B_X9_which_78 K37 v1 v2 v3 v4 m9)
  else none
theorem SB_X9_which_37 {g : GC} {d : Nat} {K37 : Int32 → Int32 → Int32 → Int32 → MM → Option (Int32 × MM)} {v1 : Int32} {v2 : Int32} {v3 : Int32} {v4 : Int32} {x : MX} {m : MM} {r : Int32} {z : MM} (hd : 107 ≤ d) (hK37 : ∀ (v1 : Int32) (v2 : Int32) (v3 : Int32) (v4 : Int32) (m : MM) (r : Int32) (z : MM), K37 v1 v2 v3 v4 m = some (r, z) → J g m_X9_which d 0 0 37 [(0, .ref 80), (1, .int v1), (2, .int v2), (3, .int v3), (4, .int v4)] [] (ST x m) 0 0 (EQ (some (.int r)) (ST x z)))
  (hF : B_X9_which_37 K37 v1 v2 v3 v4 m = some (r, z)) : J g m_X9_which d 0 0 37 [(0, .ref 80), (1, .int v1), (2, .int v2), (3, .int v3), (4, .int v4)] [] (ST x m) 0 0 (EQ (some (.int r)) (ST x z)) := by
  unfold B_X9_which_37 at hF
  refine J_iload (j := 4) dX9_which_37 rfl ?_
  refine J_aload_n (j := 0) dX9_which_39 rfl rfl ?_
  refine JM_getI fl_WithOneHandModel_108_8 dX9_which_40 c_80 rfl ?_
  refine J_icmp_ge (tgt := 84) dX9_which_43 (by decide) (fun q6 => ?_) (fun q6 => ?_)
  · rw [if_pos q6] at hF
    refine J_iload_n (j := 3) dX9_which_84 rfl rfl ?_
    obtain ⟨e_r, e_z⟩ := someP hF
    subst e_r
    subst e_z
    exact J_ireturn rfl rfl dX9_which_85 ⟨rfl, rfl⟩
  · rw [if_neg q6] at hF
    refine J_aload_n (j := 0) dX9_which_46 rfl rfl ?_
    refine J_iload_n (j := 1) dX9_which_47 rfl rfl ?_
    refine J_iload (j := 4) dX9_which_48 rfl ?_
    refine J_iload_n (j := 2) dX9_which_50 rfl rfl ?_
    refine J_aload_n (j := 0) dX9_which_51 rfl rfl ?_
    refine JM_getR (r := 85) fl_WithOneHandModel_26_8 dX9_which_52 c_80 rfl rfl ?_
    refine J_iload_n (j := 2) dX9_which_55 rfl rfl ?_
    obtain ⟨b7, hF⟩ := chk hF
    refine JM_iald (j := ix v2) dX9_which_56 c_85 (inb_vp b7) rfl ?_
    refine J_aload_n (j := 0) dX9_which_57 rfl rfl ?_
    refine JM_getR (r := 83) fl_WithOneHandModel_20_8 dX9_which_58 c_80 rfl rfl ?_
    refine J_iload_n (j := 2) dX9_which_61 rfl rfl ?_
    refine JM_iald (j := ix v2) dX9_which_62 c_83 (inb_vp b7) rfl ?_
    obtain ⟨r8, m9, h10, hF⟩ := ob2_some hF
    refine JM_callVi (As := [.int v1, .int v4, .int v2, .int (mi m 85 (ix v2)), .int (mi m 83 (ix v2))]) (S := []) lkV_WithOneHandModel_324_X9_unlike rfl (by decide) dX9_which_63 c_80 (S_X9_unlike (by omega) h10) (by omega) rfl rfl (Nat.le_of_ble_eq_true rfl) rfl ?_
    refine J_bipush (v := (-2)) dX9_which_66 (by decide) ?_
    refine J_icmp_ne (tgt := 78) dX9_which_68 (by decide) (fun q11 => ?_) (fun q11 => ?_)
    · rw [if_neg q11] at hF
      exact SB_X9_which_78 hd hK37 hF
    · rw [if_pos q11] at hF
      refine J_iload_n (j := 3) dX9_which_71 rfl rfl ?_
      refine J_iconst (v := 1) dX9_which_72 (by decide) ?_
      refine J_iload (j := 4) dX9_which_73 rfl ?_
      refine J_ishl dX9_which_75 ?_
      refine J_ior dX9_which_76 ?_
      obtain ⟨y12, e_y12, hF⟩ := letx_eq hF
      rw [← e_y12]
      refine J_istore_n (L' := [(3, .int y12), (0, .ref 80), (1, .int v1), (2, .int v2), (4, .int v4)]) dX9_which_77 rfl (by decide) rfl ?_
      refine J_sub [1, 2, 3, 0, 4] rfl ?_
      exact SB_X9_which_78 hd hK37 hF
def f_X9_which_37  : Nat → Int32 → Int32 → Int32 → Int32 → MM → Option (Int32 × MM)
  | 0 => fun _ _ _ _ _ => none
  | n + 1 => fun v1 v2 v3 v4 m => B_X9_which_37 (f_X9_which_37  n) v1 v2 v3 v4 m
theorem Sf_X9_which_37 {g : GC} {d : Nat} {x : MX} (hd : 107 ≤ d)  : ∀ (n : Nat) (v1 : Int32) (v2 : Int32) (v3 : Int32) (v4 : Int32) (m : MM) (r : Int32) (z : MM), f_X9_which_37  n v1 v2 v3 v4 m = some (r, z) → J g m_X9_which d 0 0 37 [(0, .ref 80), (1, .int v1), (2, .int v2), (3, .int v3), (4, .int v4)] [] (ST x m) 0 0 (EQ (some (.int r)) (ST x z)) := by
  intro n
  induction n with
  | zero => intro v1 v2 v3 v4 m r z  hF; exact absurd hF (fun q => by cases q)
  | succ n ih =>
    intro v1 v2 v3 v4 m r z  hF
    exact SB_X9_which_37 hd (fun v1 v2 v3 v4 m r z  hF => ih v1 v2 v3 v4 m r z  hF) hF
def f_X9_which (a1 : Int32) (a2 : Int32) (m : MM) : Option (Int32 × MM) :=
  if (f_X9_isShelf a1) = true then
  if (f_X9_isCuff a2 m) = true then
  ob (f_X9_barsOf a1 m) (fun r3 =>
  if r3 = 0 then
  f_X9_which_37 LF a1 a2 0 0 m
  else
  ob (f_X9_barsOf a1 m) (fun r13 =>
  some (r13, m)))
  else
  some ((-1), m)
  else
  some ((-1), m)
theorem S_X9_which {g : GC} {d : Nat} {a1 : Int32} {a2 : Int32} {x : MX} {m : MM} {r : Int32} {z : MM} (hd : 107 ≤ d) 
  (hF : f_X9_which a1 a2 m = some (r, z)) : JC g m_X9_which d 0 0 [.ref 80, .int a1, .int a2] (ST x m) (EQ (some (.int r)) (ST x z)) := by
  refine JC.of (by decide +kernel) (Nat.le_of_ble_eq_true rfl) ?_
  change J g m_X9_which d 0 0 0 [(0, .ref 80), (1, .int a1), (2, .int a2)] [] (ST x m) 0 0 (EQ (some (.int r)) (ST x z))
  unfold f_X9_which at hF
  refine J_aload_n (j := 0) dX9_which_0 rfl rfl ?_
  refine J_iload_n (j := 1) dX9_which_1 rfl rfl ?_
  refine JM_callVi (As := [.int a1]) (S := []) lkV_WithOneHandModel_122_X9_isShelf rfl (by decide) dX9_which_2 c_80 (S_X9_isShelf (by omega) rfl) (by omega) rfl rfl (Nat.le_of_ble_eq_true rfl) rfl ?_
  refine J_ifb_eq (tgt := 16) dX9_which_5 (by decide) (fun q1 => ?_) (fun q1 => ?_)
  · rw [if_neg q1] at hF
    refine J_iconst (v := (-1)) dX9_which_16 (by decide) ?_
    obtain ⟨e_r, e_z⟩ := someP hF
    subst e_r
    subst e_z
    exact J_ireturn rfl rfl dX9_which_17 ⟨rfl, rfl⟩
  · rw [if_pos q1] at hF
    refine J_aload_n (j := 0) dX9_which_8 rfl rfl ?_
    refine J_iload_n (j := 2) dX9_which_9 rfl rfl ?_
    refine JM_callVi (As := [.int a2]) (S := []) lkV_WithOneHandModel_136_X9_isCuff rfl (by decide) dX9_which_10 c_80 (S_X9_isCuff (by omega) rfl) (by omega) rfl rfl (Nat.le_of_ble_eq_true rfl) rfl ?_
    refine J_ifb_ne (tgt := 18) dX9_which_13 (by decide) (fun q2 => ?_) (fun q2 => ?_)
    · rw [if_pos q2] at hF
      refine J_aload_n (j := 0) dX9_which_18 rfl rfl ?_
      refine J_iload_n (j := 1) dX9_which_19 rfl rfl ?_
      obtain ⟨r3, h4, hF⟩ := ob_some hF
      refine JM_callVi (As := [.int a1]) (S := []) lkV_WithOneHandModel_321_X9_barsOf rfl (by decide) dX9_which_20 c_80 (S_X9_barsOf (by omega) h4) (by omega) rfl rfl (Nat.le_of_ble_eq_true rfl) rfl ?_
      refine J_if_eq (tgt := 32) dX9_which_23 (by decide) (fun q5 => ?_) (fun q5 => ?_)
      · rw [if_pos q5] at hF
        refine J_iconst (v := 0) dX9_which_32 (by decide) ?_
        refine J_istore_n (L' := [(3, .int 0), (0, .ref 80), (1, .int a1), (2, .int a2)]) dX9_which_33 rfl (by decide) rfl ?_
        refine J_iconst (v := 0) dX9_which_34 (by decide) ?_
        refine J_istore (L' := [(4, .int 0), (3, .int 0), (0, .ref 80), (1, .int a1), (2, .int a2)]) dX9_which_35 (by decide) rfl ?_
        refine J_sub [2, 3, 4, 1, 0] rfl ?_
        exact Sf_X9_which_37 hd _ _ _ _ _ _ _ _ hF
      · rw [if_neg q5] at hF
        refine J_aload_n (j := 0) dX9_which_26 rfl rfl ?_
        refine J_iload_n (j := 1) dX9_which_27 rfl rfl ?_
        obtain ⟨r13, h14, hF⟩ := ob_some hF
        refine JM_callVi (As := [.int a1]) (S := []) lkV_WithOneHandModel_321_X9_barsOf rfl (by decide) dX9_which_28 c_80 (S_X9_barsOf (by omega) h14) (by omega) rfl rfl (Nat.le_of_ble_eq_true rfl) rfl ?_
        obtain ⟨e_r, e_z⟩ := someP hF
        subst e_r
        subst e_z
        exact J_ireturn rfl rfl dX9_which_31 ⟨rfl, rfl⟩
    · rw [if_neg q2] at hF
      refine J_iconst (v := (-1)) dX9_which_16 (by decide) ?_
      obtain ⟨e_r, e_z⟩ := someP hF
      subst e_r
      subst e_z
      exact J_ireturn rfl rfl dX9_which_17 ⟨rfl, rfl⟩
def B_X8_handsOf_43 (K6 : Nat → Int32 → Int32 → Int32 → Int32 → MX → Option (Int32 × MX)) (v1 : Nat) (v2 : Int32) (v3 : Int32) (v4 : Int32) (v5 : Int32) (x : MX) : Option (Int32 × MX) :=
  K6 v1 v2 v3 v4 (v5 + 1) x
theorem SB_X8_handsOf_43 {g : GC} {d : Nat} {K6 : Nat → Int32 → Int32 → Int32 → Int32 → MX → Option (Int32 × MX)} {v1 : Nat} {v2 : Int32} {v3 : Int32} {v4 : Int32} {v5 : Int32} {x : MX} {m : MM} {r : Int32} {z : MX} (hd : 5 ≤ d) (hK6 : ∀ (v1 : Nat) (v2 : Int32) (v3 : Int32) (v4 : Int32) (v5 : Int32) (x : MX) (r : Int32) (z : MX), isSh v1 → K6 v1 v2 v3 v4 v5 x = some (r, z) → J g m_X8_handsOf d 0 0 6 [(0, .ref 5), (1, .ref v1), (2, .int v2), (3, .int v3), (4, .int v4), (5, .int v5)] [] (ST x m) 0 0 (EQ (some (.int r)) (ST z m))) (e_v1 : isSh v1)
  (hF : B_X8_handsOf_43 K6 v1 v2 v3 v4 v5 x = some (r, z)) : J g m_X8_handsOf d 0 0 43 [(0, .ref 5), (1, .ref v1), (2, .int v2), (3, .int v3), (4, .int v4), (5, .int v5)] [] (ST x m) 0 0 (EQ (some (.int r)) (ST z m)) := by
  unfold B_X8_handsOf_43 at hF
  refine J_iinc (j := 5) (v := v5 + 1) (L' := [(5, .int (v5 + 1)), (0, .ref 5), (1, .ref v1), (2, .int v2), (3, .int v3), (4, .int v4)]) dX8_handsOf_43 rfl rfl (by decide) rfl ?_
  refine J_goto (tgt := 6) dX8_handsOf_46 (by decide) ?_
  refine J_sub [1, 2, 3, 4, 5, 0] rfl ?_
  exact hK6 _ _ _ _ _ _ _ _ e_v1 hF
def B_X8_handsOf_6 (K6 : Nat → Int32 → Int32 → Int32 → Int32 → MX → Option (Int32 × MX)) (v1 : Nat) (v2 : Int32) (v3 : Int32) (v4 : Int32) (v5 : Int32) (x : MX) : Option (Int32 × MX) :=
  if 2 ≤ v5 then
  some (v4, x)
  else
  if inb v3 8 = true then
  ob2 (f_X8_firstNotSo v1 v2 v3 (xi x 9 (ix v3)) v5 x) (fun r3 x4 =>
  if r3 = (-2) then
  letx (v4 ||| ((1 : Int32) <<< (v5 &&& 31))) (fun y7 =>
  B_X8_handsOf_43 K6 v1 v2 v3 y7 v5 x4)
  else
  B_X8_handsOf_43 K6 v1 v2 v3 v4 v5 x4)
  else none
theorem SB_X8_handsOf_6 {g : GC} {d : Nat} {K6 : Nat → Int32 → Int32 → Int32 → Int32 → MX → Option (Int32 × MX)} {v1 : Nat} {v2 : Int32} {v3 : Int32} {v4 : Int32} {v5 : Int32} {x : MX} {m : MM} {r : Int32} {z : MX} (hd : 5 ≤ d) (hK6 : ∀ (v1 : Nat) (v2 : Int32) (v3 : Int32) (v4 : Int32) (v5 : Int32) (x : MX) (r : Int32) (z : MX), isSh v1 → K6 v1 v2 v3 v4 v5 x = some (r, z) → J g m_X8_handsOf d 0 0 6 [(0, .ref 5), (1, .ref v1), (2, .int v2), (3, .int v3), (4, .int v4), (5, .int v5)] [] (ST x m) 0 0 (EQ (some (.int r)) (ST z m))) (e_v1 : isSh v1)
  (hF : B_X8_handsOf_6 K6 v1 v2 v3 v4 v5 x = some (r, z)) : J g m_X8_handsOf d 0 0 6 [(0, .ref 5), (1, .ref v1), (2, .int v2), (3, .int v3), (4, .int v4), (5, .int v5)] [] (ST x m) 0 0 (EQ (some (.int r)) (ST z m)) := by
  unfold B_X8_handsOf_6 at hF
  refine J_iload (j := 5) dX8_handsOf_6 rfl ?_
  refine J_iconst (v := 2) dX8_handsOf_8 (by decide) ?_
  refine J_icmp_ge (tgt := 49) dX8_handsOf_9 (by decide) (fun q1 => ?_) (fun q1 => ?_)
  · rw [if_pos q1] at hF
    refine J_iload (j := 4) dX8_handsOf_49 rfl ?_
    obtain ⟨e_r, e_z⟩ := someP hF
    subst e_r
    subst e_z
    exact J_ireturn rfl rfl dX8_handsOf_51 ⟨rfl, rfl⟩
  · rw [if_neg q1] at hF
    refine J_aload_n (j := 0) dX8_handsOf_12 rfl rfl ?_
    refine J_aload_n (j := 1) dX8_handsOf_13 rfl rfl ?_
    refine J_iload_n (j := 2) dX8_handsOf_14 rfl rfl ?_
    refine J_iload_n (j := 3) dX8_handsOf_15 rfl rfl ?_
    refine J_aload_n (j := 0) dX8_handsOf_16 rfl rfl ?_
    refine JX_getR (r := 6) fl_WithOneHand_11_7 dX8_handsOf_17 c_5 rfl rfl ?_
    refine J_iconst (v := 2) dX8_handsOf_20 (by decide) ?_
    refine JX_aald (j := 2) (r := 9) (by decide) dX8_handsOf_21 c_6 (by unfold vp_in; decide) (by decide) rfl ?_
    refine J_iload_n (j := 3) dX8_handsOf_22 rfl rfl ?_
    obtain ⟨b2, hF⟩ := chk hF
    refine JX_iald (j := ix v3) dX8_handsOf_23 c_9 (inb_vp b2) rfl ?_
    refine J_iload (j := 5) dX8_handsOf_24 rfl ?_
    obtain ⟨r3, x4, h5, hF⟩ := ob2_some hF
    refine JX_callVi (As := [.ref v1, .int v2, .int v3, .int (xi x 9 (ix v3)), .int v5]) (S := []) lkV_WithOneHand_227_X8_firstNotSo rfl (by decide) dX8_handsOf_26 c_5 (S_X8_firstNotSo (by omega) e_v1 h5) (by omega) rfl rfl (Nat.le_of_ble_eq_true rfl) rfl ?_
    refine J_bipush (v := (-2)) dX8_handsOf_29 (by decide) ?_
    refine J_icmp_ne (tgt := 43) dX8_handsOf_31 (by decide) (fun q6 => ?_) (fun q6 => ?_)
    · rw [if_neg q6] at hF
      exact SB_X8_handsOf_43 hd hK6 e_v1 hF
    · rw [if_pos q6] at hF
      refine J_iload (j := 4) dX8_handsOf_34 rfl ?_
      refine J_iconst (v := 1) dX8_handsOf_36 (by decide) ?_
      refine J_iload (j := 5) dX8_handsOf_37 rfl ?_
      refine J_ishl dX8_handsOf_39 ?_
      refine J_ior dX8_handsOf_40 ?_
      obtain ⟨y7, e_y7, hF⟩ := letx_eq hF
      rw [← e_y7]
      refine J_istore (L' := [(4, .int y7), (0, .ref 5), (1, .ref v1), (2, .int v2), (3, .int v3), (5, .int v5)]) dX8_handsOf_41 (by decide) rfl ?_
      refine J_sub [1, 2, 3, 4, 0, 5] rfl ?_
      exact SB_X8_handsOf_43 hd hK6 e_v1 hF
def f_X8_handsOf_6  : Nat → Nat → Int32 → Int32 → Int32 → Int32 → MX → Option (Int32 × MX)
  | 0 => fun _ _ _ _ _ _ => none
  | n + 1 => fun v1 v2 v3 v4 v5 x => B_X8_handsOf_6 (f_X8_handsOf_6  n) v1 v2 v3 v4 v5 x
theorem Sf_X8_handsOf_6 {g : GC} {d : Nat} {m : MM} (hd : 5 ≤ d)  : ∀ (n : Nat) (v1 : Nat) (v2 : Int32) (v3 : Int32) (v4 : Int32) (v5 : Int32) (x : MX) (r : Int32) (z : MX), (e_v1 : isSh v1) → f_X8_handsOf_6  n v1 v2 v3 v4 v5 x = some (r, z) → J g m_X8_handsOf d 0 0 6 [(0, .ref 5), (1, .ref v1), (2, .int v2), (3, .int v3), (4, .int v4), (5, .int v5)] [] (ST x m) 0 0 (EQ (some (.int r)) (ST z m)) := by
  intro n
  induction n with
  | zero => intro v1 v2 v3 v4 v5 x r z e_v1 hF; exact absurd hF (fun q => by cases q)
  | succ n ih =>
    intro v1 v2 v3 v4 v5 x r z e_v1 hF
    exact SB_X8_handsOf_6 hd (fun v1 v2 v3 v4 v5 x r z e_v1 hF => ih v1 v2 v3 v4 v5 x r z e_v1 hF) e_v1 hF
def f_X8_handsOf (h1 : Nat) (a2 : Int32) (a3 : Int32) (x : MX) : Option (Int32 × MX) :=
  f_X8_handsOf_6 LF h1 a2 a3 0 0 x
theorem S_X8_handsOf {g : GC} {d : Nat} {h1 : Nat} {a2 : Int32} {a3 : Int32} {x : MX} {m : MM} {r : Int32} {z : MX} (hd : 5 ≤ d) (e_h1 : isSh h1)
  (hF : f_X8_handsOf h1 a2 a3 x = some (r, z)) : JC g m_X8_handsOf d 0 0 [.ref 5, .ref h1, .int a2, .int a3] (ST x m) (EQ (some (.int r)) (ST z m)) := by
  refine JC.of (by decide +kernel) (Nat.le_of_ble_eq_true rfl) ?_
  change J g m_X8_handsOf d 0 0 0 [(0, .ref 5), (1, .ref h1), (2, .int a2), (3, .int a3)] [] (ST x m) 0 0 (EQ (some (.int r)) (ST z m))
  unfold f_X8_handsOf at hF
  refine J_iconst (v := 0) dX8_handsOf_0 (by decide) ?_
  refine J_istore (L' := [(4, .int 0), (0, .ref 5), (1, .ref h1), (2, .int a2), (3, .int a3)]) dX8_handsOf_1 (by decide) rfl ?_
  refine J_iconst (v := 0) dX8_handsOf_3 (by decide) ?_
  refine J_istore (L' := [(5, .int 0), (4, .int 0), (0, .ref 5), (1, .ref h1), (2, .int a2), (3, .int a3)]) dX8_handsOf_4 (by decide) rfl ?_
  refine J_sub [2, 3, 4, 5, 1, 0] rfl ?_
  exact Sf_X8_handsOf_6 hd _ _ _ _ _ _ _ _ _ e_h1 hF
def B_X8_leastStarch_7 (K7 : Nat → Int32 → Int32 → Int32 → MX → Option (Int32 × MX)) (v1 : Nat) (v2 : Int32) (v3 : Int32) (v4 : Int32) (x : MX) : Option (Int32 × MX) :=
  if ((SA 1).getD 2 0) < v4 then
  some ((-2), x)
  else
  if inb v3 8 = true then
  ob2 (f_X8_firstNotSo v1 v2 v3 v4 (xi x 11 (ix v3)) x) (fun r3 x4 =>
  if r3 = (-2) then
  some (v4, x4)
  else
  K7 v1 v2 v3 (v4 + 1) x4)
  else none
theorem SB_X8_leastStarch_7 {g : GC} {d : Nat} {K7 : Nat → Int32 → Int32 → Int32 → MX → Option (Int32 × MX)} {v1 : Nat} {v2 : Int32} {v3 : Int32} {v4 : Int32} {x : MX} {m : MM} {r : Int32} {z : MX} (hd : 5 ≤ d) (hK7 : ∀ (v1 : Nat) (v2 : Int32) (v3 : Int32) (v4 : Int32) (x : MX) (r : Int32) (z : MX), isSh v1 → K7 v1 v2 v3 v4 x = some (r, z) → J g m_X8_leastStarch d 0 0 7 [(0, .ref 5), (1, .ref v1), (2, .int v2), (3, .int v3), (4, .int v4)] [] (ST x m) 0 0 (EQ (some (.int r)) (ST z m))) (e_v1 : isSh v1)
  (hF : B_X8_leastStarch_7 K7 v1 v2 v3 v4 x = some (r, z)) : J g m_X8_leastStarch d 0 0 7 [(0, .ref 5), (1, .ref v1), (2, .int v2), (3, .int v3), (4, .int v4)] [] (ST x m) 0 0 (EQ (some (.int r)) (ST z m)) := by
  unfold B_X8_leastStarch_7 at hF
  refine J_iload (j := 4) dX8_leastStarch_7 rfl ?_
  refine J_gets (j := 1) (by decide) (tb 365 (by decide +kernel)) dX8_leastStarch_9 ?_
  refine J_iconst (v := 2) dX8_leastStarch_12 (by decide) ?_
  refine J_ialdS (v := (SA 1).getD 2 0) (by decide) dX8_leastStarch_13 (by unfold vp_in; decide) rfl ?_
  refine J_icmp_gt (tgt := 48) dX8_leastStarch_14 (by decide) (fun q1 => ?_) (fun q1 => ?_)
  · rw [if_pos q1] at hF
    refine J_bipush (v := (-2)) dX8_leastStarch_48 (by decide) ?_
    obtain ⟨e_r, e_z⟩ := someP hF
    subst e_r
    subst e_z
    exact J_ireturn rfl rfl dX8_leastStarch_50 ⟨rfl, rfl⟩
  · rw [if_neg q1] at hF
    refine J_aload_n (j := 0) dX8_leastStarch_17 rfl rfl ?_
    refine J_aload_n (j := 1) dX8_leastStarch_18 rfl rfl ?_
    refine J_iload_n (j := 2) dX8_leastStarch_19 rfl rfl ?_
    refine J_iload_n (j := 3) dX8_leastStarch_20 rfl rfl ?_
    refine J_iload (j := 4) dX8_leastStarch_21 rfl ?_
    refine J_aload_n (j := 0) dX8_leastStarch_23 rfl rfl ?_
    refine JX_getR (r := 6) fl_WithOneHand_11_7 dX8_leastStarch_24 c_5 rfl rfl ?_
    refine J_iconst (v := 4) dX8_leastStarch_27 (by decide) ?_
    refine JX_aald (j := 4) (r := 11) (by decide) dX8_leastStarch_28 c_6 (by unfold vp_in; decide) (by decide) rfl ?_
    refine J_iload_n (j := 3) dX8_leastStarch_29 rfl rfl ?_
    obtain ⟨b2, hF⟩ := chk hF
    refine JX_iald (j := ix v3) dX8_leastStarch_30 c_11 (inb_vp b2) rfl ?_
    obtain ⟨r3, x4, h5, hF⟩ := ob2_some hF
    refine JX_callVi (As := [.ref v1, .int v2, .int v3, .int v4, .int (xi x 11 (ix v3))]) (S := []) lkV_WithOneHand_227_X8_firstNotSo rfl (by decide) dX8_leastStarch_31 c_5 (S_X8_firstNotSo (by omega) e_v1 h5) (by omega) rfl rfl (Nat.le_of_ble_eq_true rfl) rfl ?_
    refine J_bipush (v := (-2)) dX8_leastStarch_34 (by decide) ?_
    refine J_icmp_ne (tgt := 42) dX8_leastStarch_36 (by decide) (fun q6 => ?_) (fun q6 => ?_)
    · rw [if_neg q6] at hF
      refine J_iinc (j := 4) (v := v4 + 1) (L' := [(4, .int (v4 + 1)), (0, .ref 5), (1, .ref v1), (2, .int v2), (3, .int v3)]) dX8_leastStarch_42 rfl rfl (by decide) rfl ?_
      refine J_goto (tgt := 7) dX8_leastStarch_45 (by decide) ?_
      refine J_sub [1, 2, 3, 4, 0] rfl ?_
      exact hK7 _ _ _ _ _ _ _ e_v1 hF
    · rw [if_pos q6] at hF
      refine J_iload (j := 4) dX8_leastStarch_39 rfl ?_
      obtain ⟨e_r, e_z⟩ := someP hF
      subst e_r
      subst e_z
      exact J_ireturn rfl rfl dX8_leastStarch_41 ⟨rfl, rfl⟩
def f_X8_leastStarch_7  : Nat → Nat → Int32 → Int32 → Int32 → MX → Option (Int32 × MX)
  | 0 => fun _ _ _ _ _ => none
  | n + 1 => fun v1 v2 v3 v4 x => B_X8_leastStarch_7 (f_X8_leastStarch_7  n) v1 v2 v3 v4 x
theorem Sf_X8_leastStarch_7 {g : GC} {d : Nat} {m : MM} (hd : 5 ≤ d)  : ∀ (n : Nat) (v1 : Nat) (v2 : Int32) (v3 : Int32) (v4 : Int32) (x : MX) (r : Int32) (z : MX), (e_v1 : isSh v1) → f_X8_leastStarch_7  n v1 v2 v3 v4 x = some (r, z) → J g m_X8_leastStarch d 0 0 7 [(0, .ref 5), (1, .ref v1), (2, .int v2), (3, .int v3), (4, .int v4)] [] (ST x m) 0 0 (EQ (some (.int r)) (ST z m)) := by
  intro n
  induction n with
  | zero => intro v1 v2 v3 v4 x r z e_v1 hF; exact absurd hF (fun q => by cases q)
  | succ n ih =>
    intro v1 v2 v3 v4 x r z e_v1 hF
    exact SB_X8_leastStarch_7 hd (fun v1 v2 v3 v4 x r z e_v1 hF => ih v1 v2 v3 v4 x r z e_v1 hF) e_v1 hF
def f_X8_leastStarch (h1 : Nat) (a2 : Int32) (a3 : Int32) (x : MX) : Option (Int32 × MX) :=
  f_X8_leastStarch_7 LF h1 a2 a3 ((SA 0).getD 2 0) x
theorem S_X8_leastStarch {g : GC} {d : Nat} {h1 : Nat} {a2 : Int32} {a3 : Int32} {x : MX} {m : MM} {r : Int32} {z : MX} (hd : 5 ≤ d) (e_h1 : isSh h1)
  (hF : f_X8_leastStarch h1 a2 a3 x = some (r, z)) : JC g m_X8_leastStarch d 0 0 [.ref 5, .ref h1, .int a2, .int a3] (ST x m) (EQ (some (.int r)) (ST z m)) := by
  refine JC.of (by decide +kernel) (Nat.le_of_ble_eq_true rfl) ?_
  change J g m_X8_leastStarch d 0 0 0 [(0, .ref 5), (1, .ref h1), (2, .int a2), (3, .int a3)] [] (ST x m) 0 0 (EQ (some (.int r)) (ST z m))
  unfold f_X8_leastStarch at hF
  refine J_gets (j := 0) (by decide) (tb 363 (by decide +kernel)) dX8_leastStarch_0 ?_
  refine J_iconst (v := 2) dX8_leastStarch_3 (by decide) ?_
  refine J_ialdS (v := (SA 0).getD 2 0) (by decide) dX8_leastStarch_4 (by unfold vp_in; decide) rfl ?_
  refine J_istore (L' := [(4, .int ((SA 0).getD 2 0)), (0, .ref 5), (1, .ref h1), (2, .int a2), (3, .int a3)]) dX8_leastStarch_5 (by decide) rfl ?_
  refine J_sub [1, 2, 3, 4, 0] rfl ?_
  exact Sf_X8_leastStarch_7 hd _ _ _ _ _ _ _ _ e_h1 hF
def f_X8_how (a1 : Int32) (a2 : Int32) (a3 : Int32) (x : MX) : Option (Int32 × MX) :=
  if (f_X8_isShelf a1) = true then
  ob (f_X8_isLinkAndCuff a2 x) (fun r2 =>
  if r2 = true then
  if (f_X8_isPart a3) = true then
  if inb a1 6 = true then
  if (f_X6_refusalAs (68 + 2 * ix a1) 1 x) = 0 then
  if a3 = 0 then
  ob2 (f_X8_leastStarch (68 + 2 * ix a1) (a2 / 10) (a2 % 10) x) (fun r12 x13 =>
  some (r12, x13))
  else
  ob2 (f_X8_handsOf (68 + 2 * ix a1) (a2 / 10) (a2 % 10) x) (fun r9 x10 =>
  some (r9, x10))
  else
  some (f_X6_refusalAs (68 + 2 * ix a1) 1 x, x)
  else none
  else
  some ((-1), x)
  else
  some ((-1), x))
  else
  some ((-1), x)
theorem S_X8_how {g : GC} {d : Nat} {a1 : Int32} {a2 : Int32} {a3 : Int32} {x : MX} {m : MM} {r : Int32} {z : MX} (hd : 6 ≤ d) 
  (hF : f_X8_how a1 a2 a3 x = some (r, z)) : JC g m_X8_how d 0 0 [.ref 5, .int a1, .int a2, .int a3] (ST x m) (EQ (some (.int r)) (ST z m)) := by
  refine JC.of (by decide +kernel) (Nat.le_of_ble_eq_true rfl) ?_
  change J g m_X8_how d 0 0 0 [(0, .ref 5), (1, .int a1), (2, .int a2), (3, .int a3)] [] (ST x m) 0 0 (EQ (some (.int r)) (ST z m))
  unfold f_X8_how at hF
  refine J_iload_n (j := 1) dX8_how_0 rfl rfl ?_
  refine J_callSi (As := [.int a1]) (S := []) lkS_WithOneHand_91_X8_isShelf dX8_how_1 (S_X8_isShelf (by omega) rfl) (by omega) rfl rfl (Nat.le_of_ble_eq_true rfl) rfl ?_
  refine J_ifb_eq (tgt := 22) dX8_how_4 (by decide) (fun q1 => ?_) (fun q1 => ?_)
  · rw [if_neg q1] at hF
    refine J_iconst (v := (-1)) dX8_how_22 (by decide) ?_
    obtain ⟨e_r, e_z⟩ := someP hF
    subst e_r
    subst e_z
    exact J_ireturn rfl rfl dX8_how_23 ⟨rfl, rfl⟩
  · rw [if_pos q1] at hF
    refine J_aload_n (j := 0) dX8_how_7 rfl rfl ?_
    refine J_iload_n (j := 2) dX8_how_8 rfl rfl ?_
    obtain ⟨r2, h3, hF⟩ := ob_some hF
    refine JX_callVi (As := [.int a2]) (S := []) lkV_WithOneHand_132_X8_isLinkAndCuff rfl (by decide) dX8_how_9 c_5 (S_X8_isLinkAndCuff (by omega) h3) (by omega) rfl rfl (Nat.le_of_ble_eq_true rfl) rfl ?_
    refine J_ifb_eq (tgt := 22) dX8_how_12 (by decide) (fun q4 => ?_) (fun q4 => ?_)
    · rw [if_neg q4] at hF
      refine J_iconst (v := (-1)) dX8_how_22 (by decide) ?_
      obtain ⟨e_r, e_z⟩ := someP hF
      subst e_r
      subst e_z
      exact J_ireturn rfl rfl dX8_how_23 ⟨rfl, rfl⟩
    · rw [if_pos q4] at hF
      refine J_iload_n (j := 3) dX8_how_15 rfl rfl ?_
      refine J_callSi (As := [.int a3]) (S := []) lkS_WithOneHand_179_X8_isPart dX8_how_16 (S_X8_isPart (by omega) rfl) (by omega) rfl rfl (Nat.le_of_ble_eq_true rfl) rfl ?_
      refine J_ifb_ne (tgt := 24) dX8_how_19 (by decide) (fun q5 => ?_) (fun q5 => ?_)
      · rw [if_pos q5] at hF
        refine J_aload_n (j := 0) dX8_how_24 rfl rfl ?_
        refine JX_getR (r := 54) fl_WithOneHand_58_7 dX8_how_25 c_5 rfl rfl ?_
        refine J_iload_n (j := 1) dX8_how_28 rfl rfl ?_
        obtain ⟨b6, hF⟩ := chk hF
        refine JX_aald (j := ix a1) (r := 68 + 2 * ix a1) (by decide) dX8_how_29 c_54 (inb_vp b6) rfl (rw_54 _ (inb_lt b6)) ?_
        refine J_astore (L' := [(4, .ref (68 + 2 * ix a1)), (0, .ref 5), (1, .int a1), (2, .int a2), (3, .int a3)]) dX8_how_30 (by decide) rfl ?_
        refine J_aload (j := 0) dX8_how_32 rfl ?_
        refine J_iconst (v := 1) dX8_how_34 (by decide) ?_
        refine JX_callVi (As := [.int 1]) (S := []) lkV_WithOneHand_224_X6_refusalAs rfl (by decide) dX8_how_35 (c_sh (sh_of (inb_lt b6))) (S_X6_refusalAs (by omega) (sh_of (inb_lt b6)) rfl) (by omega) rfl rfl (Nat.le_of_ble_eq_true rfl) rfl ?_
        refine J_if_eq (tgt := 48) dX8_how_38 (by decide) (fun q7 => ?_) (fun q7 => ?_)
        · rw [if_pos q7] at hF
          refine J_iload_n (j := 4) dX8_how_48 rfl rfl ?_
          refine J_if_ne (tgt := 69) dX8_how_49 (by decide) (fun q8 => ?_) (fun q8 => ?_)
          · rw [if_neg q8] at hF
            refine J_aload_n (j := 1) dX8_how_69 rfl rfl ?_
            refine J_aload (j := 0) dX8_how_70 rfl ?_
            refine J_iload_n (j := 3) dX8_how_72 rfl rfl ?_
            refine J_bipush (v := 10) dX8_how_73 (by decide) ?_
            refine J_idiv dX8_how_75 (by decide) ?_
            refine J_iload_n (j := 3) dX8_how_76 rfl rfl ?_
            refine J_bipush (v := 10) dX8_how_77 (by decide) ?_
            refine J_irem dX8_how_79 (by decide) ?_
            obtain ⟨r9, x10, h11, hF⟩ := ob2_some hF
            refine JX_callVi (As := [.ref (68 + 2 * ix a1), .int (a2 / 10), .int (a2 % 10)]) (S := []) lkV_WithOneHand_235_X8_handsOf rfl (by decide) dX8_how_80 c_5 (S_X8_handsOf (by omega) (sh_of (inb_lt b6)) h11) (by omega) rfl rfl (Nat.le_of_ble_eq_true rfl) rfl ?_
            obtain ⟨e_r, e_z⟩ := someP hF
            subst e_r
            subst e_z
            exact J_ireturn rfl rfl dX8_how_83 ⟨rfl, rfl⟩
          · rw [if_pos q8] at hF
            refine J_aload_n (j := 1) dX8_how_52 rfl rfl ?_
            refine J_aload (j := 0) dX8_how_53 rfl ?_
            refine J_iload_n (j := 3) dX8_how_55 rfl rfl ?_
            refine J_bipush (v := 10) dX8_how_56 (by decide) ?_
            refine J_idiv dX8_how_58 (by decide) ?_
            refine J_iload_n (j := 3) dX8_how_59 rfl rfl ?_
            refine J_bipush (v := 10) dX8_how_60 (by decide) ?_
            refine J_irem dX8_how_62 (by decide) ?_
            obtain ⟨r12, x13, h14, hF⟩ := ob2_some hF
            refine JX_callVi (As := [.ref (68 + 2 * ix a1), .int (a2 / 10), .int (a2 % 10)]) (S := []) lkV_WithOneHand_231_X8_leastStarch rfl (by decide) dX8_how_63 c_5 (S_X8_leastStarch (by omega) (sh_of (inb_lt b6)) h14) (by omega) rfl rfl (Nat.le_of_ble_eq_true rfl) rfl ?_
            refine J_goto (tgt := 83) dX8_how_66 (by decide) ?_
            obtain ⟨e_r, e_z⟩ := someP hF
            subst e_r
            subst e_z
            exact J_ireturn rfl rfl dX8_how_83 ⟨rfl, rfl⟩
        · rw [if_neg q7] at hF
          refine J_aload (j := 0) dX8_how_41 rfl ?_
          refine J_iconst (v := 1) dX8_how_43 (by decide) ?_
          refine JX_callVi (As := [.int 1]) (S := []) lkV_WithOneHand_224_X6_refusalAs rfl (by decide) dX8_how_44 (c_sh (sh_of (inb_lt b6))) (S_X6_refusalAs (by omega) (sh_of (inb_lt b6)) rfl) (by omega) rfl rfl (Nat.le_of_ble_eq_true rfl) rfl ?_
          obtain ⟨e_r, e_z⟩ := someP hF
          subst e_r
          subst e_z
          exact J_ireturn rfl rfl dX8_how_47 ⟨rfl, rfl⟩
      · rw [if_neg q5] at hF
        refine J_iconst (v := (-1)) dX8_how_22 (by decide) ?_
        obtain ⟨e_r, e_z⟩ := someP hF
        subst e_r
        subst e_z
        exact J_ireturn rfl rfl dX8_how_23 ⟨rfl, rfl⟩
def B_X9_how_147 (K109 : Int32 → Int32 → Int32 → Int32 → Int32 → MM → Option (Int32 × MM)) (v1 : Int32) (v4 : Int32) (v5 : Int32) (v6 : Int32) (v7 : Int32) (m : MM) : Option (Int32 × MM) :=
  K109 v1 v4 v5 v6 (v7 + 1) m
theorem SB_X9_how_147 {g : GC} {d : Nat} {K109 : Int32 → Int32 → Int32 → Int32 → Int32 → MM → Option (Int32 × MM)} {v1 : Int32} {v4 : Int32} {v5 : Int32} {v6 : Int32} {v7 : Int32} {x : MX} {m : MM} {r : Int32} {z : MM} (hd : 107 ≤ d) (hK109 : ∀ (v1 : Int32) (v4 : Int32) (v5 : Int32) (v6 : Int32) (v7 : Int32) (m : MM) (r : Int32) (z : MM), K109 v1 v4 v5 v6 v7 m = some (r, z) → J g m_X9_how d 0 0 109 [(0, .ref 80), (1, .int v1), (4, .int v4), (5, .int v5), (6, .int v6), (7, .int v7)] [] (ST x m) 0 0 (EQ (some (.int r)) (ST x z)))
  (hF : B_X9_how_147 K109 v1 v4 v5 v6 v7 m = some (r, z)) : J g m_X9_how d 0 0 147 [(0, .ref 80), (1, .int v1), (4, .int v4), (5, .int v5), (6, .int v6), (7, .int v7)] [] (ST x m) 0 0 (EQ (some (.int r)) (ST x z)) := by
  unfold B_X9_how_147 at hF
  refine J_iinc (j := 5) (v := v7 + 1) (L' := [(7, .int (v7 + 1)), (0, .ref 80), (1, .int v1), (4, .int v4), (5, .int v5), (6, .int v6)]) dX9_how_147 rfl rfl (by decide) rfl ?_
  refine J_goto (tgt := 109) dX9_how_150 (by decide) ?_
  refine J_sub [1, 2, 3, 4, 5, 0] rfl ?_
  exact hK109 _ _ _ _ _ _ _ _  hF
def B_X9_how_109 (K109 : Int32 → Int32 → Int32 → Int32 → Int32 → MM → Option (Int32 × MM)) (v1 : Int32) (v4 : Int32) (v5 : Int32) (v6 : Int32) (v7 : Int32) (m : MM) : Option (Int32 × MM) :=
  if 2 ≤ v7 then
  some (v6, m)
  else
  if inb v5 6 = true then
  ob2 (f_X9_unlike v1 v4 v5 v7 (mi m 83 (ix v5)) m) (fun r12 m13 =>
  if r12 = (-2) then
  letx (v6 ||| ((1 : Int32) <<< (v7 &&& 31))) (fun y16 =>
  B_X9_how_147 K109 v1 v4 v5 y16 v7 m13)
  else
  B_X9_how_147 K109 v1 v4 v5 v6 v7 m13)
  else none
theorem SB_X9_how_109 {g : GC} {d : Nat} {K109 : Int32 → Int32 → Int32 → Int32 → Int32 → MM → Option (Int32 × MM)} {v1 : Int32} {v4 : Int32} {v5 : Int32} {v6 : Int32} {v7 : Int32} {x : MX} {m : MM} {r : Int32} {z : MM} (hd : 107 ≤ d) (hK109 : ∀ (v1 : Int32) (v4 : Int32) (v5 : Int32) (v6 : Int32) (v7 : Int32) (m : MM) (r : Int32) (z : MM), K109 v1 v4 v5 v6 v7 m = some (r, z) → J g m_X9_how d 0 0 109 [(0, .ref 80), (1, .int v1), (4, .int v4), (5, .int v5), (6, .int v6), (7, .int v7)] [] (ST x m) 0 0 (EQ (some (.int r)) (ST x z)))
  (hF : B_X9_how_109 K109 v1 v4 v5 v6 v7 m = some (r, z)) : J g m_X9_how d 0 0 109 [(0, .ref 80), (1, .int v1), (4, .int v4), (5, .int v5), (6, .int v6), (7, .int v7)] [] (ST x m) 0 0 (EQ (some (.int r)) (ST x z)) := by
  unfold B_X9_how_109 at hF
  refine J_iload (j := 5) dX9_how_109 rfl ?_
  refine J_iconst (v := 2) dX9_how_111 (by decide) ?_
  refine J_icmp_ge (tgt := 153) dX9_how_112 (by decide) (fun q10 => ?_) (fun q10 => ?_)
  · rw [if_pos q10] at hF
    refine J_iload (j := 4) dX9_how_153 rfl ?_
    obtain ⟨e_r, e_z⟩ := someP hF
    subst e_r
    subst e_z
    exact J_ireturn rfl rfl dX9_how_155 ⟨rfl, rfl⟩
  · rw [if_neg q10] at hF
    refine J_aload_n (j := 0) dX9_how_115 rfl rfl ?_
    refine J_iload_n (j := 1) dX9_how_116 rfl rfl ?_
    refine J_iload (j := 2) dX9_how_117 rfl ?_
    refine J_iload (j := 3) dX9_how_119 rfl ?_
    refine J_iload (j := 5) dX9_how_121 rfl ?_
    refine J_aload_n (j := 0) dX9_how_123 rfl rfl ?_
    refine JM_getR (r := 83) fl_WithOneHandModel_20_8 dX9_how_124 c_80 rfl rfl ?_
    refine J_iload (j := 3) dX9_how_127 rfl ?_
    obtain ⟨b11, hF⟩ := chk hF
    refine JM_iald (j := ix v5) dX9_how_129 c_83 (inb_vp b11) rfl ?_
    obtain ⟨r12, m13, h14, hF⟩ := ob2_some hF
    refine JM_callVi (As := [.int v1, .int v4, .int v5, .int v7, .int (mi m 83 (ix v5))]) (S := []) lkV_WithOneHandModel_324_X9_unlike rfl (by decide) dX9_how_130 c_80 (S_X9_unlike (by omega) h14) (by omega) rfl rfl (Nat.le_of_ble_eq_true rfl) rfl ?_
    refine J_bipush (v := (-2)) dX9_how_133 (by decide) ?_
    refine J_icmp_ne (tgt := 147) dX9_how_135 (by decide) (fun q15 => ?_) (fun q15 => ?_)
    · rw [if_neg q15] at hF
      exact SB_X9_how_147 hd hK109 hF
    · rw [if_pos q15] at hF
      refine J_iload (j := 4) dX9_how_138 rfl ?_
      refine J_iconst (v := 1) dX9_how_140 (by decide) ?_
      refine J_iload (j := 5) dX9_how_141 rfl ?_
      refine J_ishl dX9_how_143 ?_
      refine J_ior dX9_how_144 ?_
      obtain ⟨y16, e_y16, hF⟩ := letx_eq hF
      rw [← e_y16]
      refine J_istore (L' := [(6, .int y16), (0, .ref 80), (1, .int v1), (4, .int v4), (5, .int v5), (7, .int v7)]) dX9_how_145 (by decide) rfl ?_
      refine J_sub [1, 2, 3, 4, 0, 5] rfl ?_
      exact SB_X9_how_147 hd hK109 hF
def f_X9_how_109  : Nat → Int32 → Int32 → Int32 → Int32 → Int32 → MM → Option (Int32 × MM)
  | 0 => fun _ _ _ _ _ _ => none
  | n + 1 => fun v1 v4 v5 v6 v7 m => B_X9_how_109 (f_X9_how_109  n) v1 v4 v5 v6 v7 m
theorem Sf_X9_how_109 {g : GC} {d : Nat} {x : MX} (hd : 107 ≤ d)  : ∀ (n : Nat) (v1 : Int32) (v4 : Int32) (v5 : Int32) (v6 : Int32) (v7 : Int32) (m : MM) (r : Int32) (z : MM), f_X9_how_109  n v1 v4 v5 v6 v7 m = some (r, z) → J g m_X9_how d 0 0 109 [(0, .ref 80), (1, .int v1), (4, .int v4), (5, .int v5), (6, .int v6), (7, .int v7)] [] (ST x m) 0 0 (EQ (some (.int r)) (ST x z)) := by
  intro n
  induction n with
  | zero => intro v1 v4 v5 v6 v7 m r z  hF; exact absurd hF (fun q => by cases q)
  | succ n ih =>
    intro v1 v4 v5 v6 v7 m r z  hF
    exact SB_X9_how_109 hd (fun v1 v4 v5 v6 v7 m r z  hF => ih v1 v4 v5 v6 v7 m r z  hF) hF
def B_X9_how_64 (K64 : Int32 → Int32 → Int32 → Int32 → MM → Option (Int32 × MM)) (v1 : Int32) (v4 : Int32) (v5 : Int32) (v7 : Int32) (m : MM) : Option (Int32 × MM) :=
  if 10 ≤ v7 then
  some ((-2), m)
  else
  if inb v5 6 = true then
  ob2 (f_X9_unlike v1 v4 v5 (mi m 85 (ix v5)) v7 m) (fun r19 m20 =>
  if r19 = (-2) then
  some (v7, m20)
  else
  K64 v1 v4 v5 (v7 + 1) m20)
  else none
theorem SB_X9_how_64 {g : GC} {d : Nat} {K64 : Int32 → Int32 → Int32 → Int32 → MM → Option (Int32 × MM)} {v1 : Int32} {v4 : Int32} {v5 : Int32} {v7 : Int32} {x : MX} {m : MM} {r : Int32} {z : MM} (hd : 107 ≤ d) (hK64 : ∀ (v1 : Int32) (v4 : Int32) (v5 : Int32) (v7 : Int32) (m : MM) (r : Int32) (z : MM), K64 v1 v4 v5 v7 m = some (r, z) → J g m_X9_how d 0 0 64 [(0, .ref 80), (1, .int v1), (4, .int v4), (5, .int v5), (7, .int v7)] [] (ST x m) 0 0 (EQ (some (.int r)) (ST x z)))
  (hF : B_X9_how_64 K64 v1 v4 v5 v7 m = some (r, z)) : J g m_X9_how d 0 0 64 [(0, .ref 80), (1, .int v1), (4, .int v4), (5, .int v5), (7, .int v7)] [] (ST x m) 0 0 (EQ (some (.int r)) (ST x z)) := by
  unfold B_X9_how_64 at hF
  refine J_iload (j := 4) dX9_how_64 rfl ?_
  refine J_bipush (v := 10) dX9_how_66 (by decide) ?_
  refine J_icmp_ge (tgt := 103) dX9_how_68 (by decide) (fun q17 => ?_) (fun q17 => ?_)
  · rw [if_pos q17] at hF
    refine J_bipush (v := (-2)) dX9_how_103 (by decide) ?_
    obtain ⟨e_r, e_z⟩ := someP hF
    subst e_r
    subst e_z
    exact J_ireturn rfl rfl dX9_how_105 ⟨rfl, rfl⟩
  · rw [if_neg q17] at hF
    refine J_aload_n (j := 0) dX9_how_71 rfl rfl ?_
    refine J_iload_n (j := 1) dX9_how_72 rfl rfl ?_
    refine J_iload (j := 2) dX9_how_73 rfl ?_
    refine J_iload (j := 3) dX9_how_75 rfl ?_
    refine J_aload_n (j := 0) dX9_how_77 rfl rfl ?_
    refine JM_getR (r := 85) fl_WithOneHandModel_26_8 dX9_how_78 c_80 rfl rfl ?_
    refine J_iload (j := 3) dX9_how_81 rfl ?_
    obtain ⟨b18, hF⟩ := chk hF
    refine JM_iald (j := ix v5) dX9_how_83 c_85 (inb_vp b18) rfl ?_
    refine J_iload (j := 4) dX9_how_84 rfl ?_
    obtain ⟨r19, m20, h21, hF⟩ := ob2_some hF
    refine JM_callVi (As := [.int v1, .int v4, .int v5, .int (mi m 85 (ix v5)), .int v7]) (S := []) lkV_WithOneHandModel_324_X9_unlike rfl (by decide) dX9_how_86 c_80 (S_X9_unlike (by omega) h21) (by omega) rfl rfl (Nat.le_of_ble_eq_true rfl) rfl ?_
    refine J_bipush (v := (-2)) dX9_how_89 (by decide) ?_
    refine J_icmp_ne (tgt := 97) dX9_how_91 (by decide) (fun q22 => ?_) (fun q22 => ?_)
    · rw [if_neg q22] at hF
      refine J_iinc (j := 4) (v := v7 + 1) (L' := [(7, .int (v7 + 1)), (0, .ref 80), (1, .int v1), (4, .int v4), (5, .int v5)]) dX9_how_97 rfl rfl (by decide) rfl ?_
      refine J_goto (tgt := 64) dX9_how_100 (by decide) ?_
      refine J_sub [1, 2, 3, 4, 0] rfl ?_
      exact hK64 _ _ _ _ _ _ _  hF
    · rw [if_pos q22] at hF
      refine J_iload (j := 4) dX9_how_94 rfl ?_
      obtain ⟨e_r, e_z⟩ := someP hF
      subst e_r
      subst e_z
      exact J_ireturn rfl rfl dX9_how_96 ⟨rfl, rfl⟩
def f_X9_how_64  : Nat → Int32 → Int32 → Int32 → Int32 → MM → Option (Int32 × MM)
  | 0 => fun _ _ _ _ _ => none
  | n + 1 => fun v1 v4 v5 v7 m => B_X9_how_64 (f_X9_how_64  n) v1 v4 v5 v7 m
theorem Sf_X9_how_64 {g : GC} {d : Nat} {x : MX} (hd : 107 ≤ d)  : ∀ (n : Nat) (v1 : Int32) (v4 : Int32) (v5 : Int32) (v7 : Int32) (m : MM) (r : Int32) (z : MM), f_X9_how_64  n v1 v4 v5 v7 m = some (r, z) → J g m_X9_how d 0 0 64 [(0, .ref 80), (1, .int v1), (4, .int v4), (5, .int v5), (7, .int v7)] [] (ST x m) 0 0 (EQ (some (.int r)) (ST x z)) := by
  intro n
  induction n with
  | zero => intro v1 v4 v5 v7 m r z  hF; exact absurd hF (fun q => by cases q)
  | succ n ih =>
    intro v1 v4 v5 v7 m r z  hF
    exact SB_X9_how_64 hd (fun v1 v4 v5 v7 m r z  hF => ih v1 v4 v5 v7 m r z  hF) hF
def f_X9_how (a1 : Int32) (a2 : Int32) (a3 : Int32) (m : MM) : Option (Int32 × MM) :=
  if (f_X9_isShelf a1) = true then
  ob (f_X9_isPair a2 m) (fun r2 =>
  if r2 = true then
  if (f_X9_isIn a3 0 1) = true then
  ob (f_X9_barsOf a1 m) (fun r6 =>
  if r6 = 0 then
  if a3 = 0 then
  f_X9_how_64 LF a1 (a2 / 10) (a2 % 10) 0 m
  else
  f_X9_how_109 LF a1 (a2 / 10) (a2 % 10) 0 0 m
  else
  ob (f_X9_barsOf a1 m) (fun r23 =>
  some (r23, m)))
  else
  some ((-1), m)
  else
  some ((-1), m))
  else
  some ((-1), m)
theorem S_X9_how {g : GC} {d : Nat} {a1 : Int32} {a2 : Int32} {a3 : Int32} {x : MX} {m : MM} {r : Int32} {z : MM} (hd : 107 ≤ d) 
  (hF : f_X9_how a1 a2 a3 m = some (r, z)) : JC g m_X9_how d 0 0 [.ref 80, .int a1, .int a2, .int a3] (ST x m) (EQ (some (.int r)) (ST x z)) := by
  refine JC.of (by decide +kernel) (Nat.le_of_ble_eq_true rfl) ?_
  change J g m_X9_how d 0 0 0 [(0, .ref 80), (1, .int a1), (2, .int a2), (3, .int a3)] [] (ST x m) 0 0 (EQ (some (.int r)) (ST x z))
  unfold f_X9_how at hF
  refine J_aload_n (j := 0) dX9_how_0 rfl rfl ?_
  refine J_iload_n (j := 1) dX9_how_1 rfl rfl ?_
  refine JM_callVi (As := [.int a1]) (S := []) lkV_WithOneHandModel_122_X9_isShelf rfl (by decide) dX9_how_2 c_80 (S_X9_isShelf (by omega) rfl) (by omega) rfl rfl (Nat.le_of_ble_eq_true rfl) rfl ?_
  refine J_ifb_eq (tgt := 26) dX9_how_5 (by decide) (fun q1 => ?_) (fun q1 => ?_)
  · rw [if_neg q1] at hF
    refine J_iconst (v := (-1)) dX9_how_26 (by decide) ?_
    obtain ⟨e_r, e_z⟩ := someP hF
    subst e_r
    subst e_z
    exact J_ireturn rfl rfl dX9_how_27 ⟨rfl, rfl⟩
  · rw [if_pos q1] at hF
    refine J_aload_n (j := 0) dX9_how_8 rfl rfl ?_
    refine J_iload_n (j := 2) dX9_how_9 rfl rfl ?_
    obtain ⟨r2, h3, hF⟩ := ob_some hF
    refine JM_callVi (As := [.int a2]) (S := []) lkV_WithOneHandModel_261_X9_isPair rfl (by decide) dX9_how_10 c_80 (S_X9_isPair (by omega) h3) (by omega) rfl rfl (Nat.le_of_ble_eq_true rfl) rfl ?_
    refine J_ifb_eq (tgt := 26) dX9_how_13 (by decide) (fun q4 => ?_) (fun q4 => ?_)
    · rw [if_neg q4] at hF
      refine J_iconst (v := (-1)) dX9_how_26 (by decide) ?_
      obtain ⟨e_r, e_z⟩ := someP hF
      subst e_r
      subst e_z
      exact J_ireturn rfl rfl dX9_how_27 ⟨rfl, rfl⟩
    · rw [if_pos q4] at hF
      refine J_aload_n (j := 0) dX9_how_16 rfl rfl ?_
      refine J_iload_n (j := 3) dX9_how_17 rfl rfl ?_
      refine J_iconst (v := 0) dX9_how_18 (by decide) ?_
      refine J_iconst (v := 1) dX9_how_19 (by decide) ?_
      refine JM_callVi (As := [.int a3, .int 0, .int 1]) (S := []) lkV_WithOneHandModel_114_X9_isIn rfl (by decide) dX9_how_20 c_80 (S_X9_isIn (by omega) rfl) (by omega) rfl rfl (Nat.le_of_ble_eq_true rfl) rfl ?_
      refine J_ifb_ne (tgt := 28) dX9_how_23 (by decide) (fun q5 => ?_) (fun q5 => ?_)
      · rw [if_pos q5] at hF
        refine J_aload_n (j := 0) dX9_how_28 rfl rfl ?_
        refine J_iload_n (j := 1) dX9_how_29 rfl rfl ?_
        obtain ⟨r6, h7, hF⟩ := ob_some hF
        refine JM_callVi (As := [.int a1]) (S := []) lkV_WithOneHandModel_321_X9_barsOf rfl (by decide) dX9_how_30 c_80 (S_X9_barsOf (by omega) h7) (by omega) rfl rfl (Nat.le_of_ble_eq_true rfl) rfl ?_
        refine J_if_eq (tgt := 42) dX9_how_33 (by decide) (fun q8 => ?_) (fun q8 => ?_)
        · rw [if_pos q8] at hF
          refine J_iload_n (j := 2) dX9_how_42 rfl rfl ?_
          refine J_bipush (v := 10) dX9_how_43 (by decide) ?_
          refine J_idiv dX9_how_45 (by decide) ?_
          refine J_istore (L' := [(4, .int (a2 / 10)), (0, .ref 80), (1, .int a1), (2, .int a2), (3, .int a3)]) dX9_how_46 (by decide) rfl ?_
          refine J_iload_n (j := 3) dX9_how_48 rfl rfl ?_
          refine J_bipush (v := 10) dX9_how_49 (by decide) ?_
          refine J_irem dX9_how_51 (by decide) ?_
          refine J_istore (L' := [(5, .int (a2 % 10)), (4, .int (a2 / 10)), (0, .ref 80), (1, .int a1), (2, .int a2), (3, .int a3)]) dX9_how_52 (by decide) rfl ?_
          refine J_iconst (v := 0) dX9_how_54 (by decide) ?_
          refine J_istore (L' := [(6, .int 0), (5, .int (a2 % 10)), (4, .int (a2 / 10)), (0, .ref 80), (1, .int a1), (2, .int a2), (3, .int a3)]) dX9_how_55 (by decide) rfl ?_
          refine J_iload_n (j := 6) dX9_how_57 rfl rfl ?_
          refine J_if_ne (tgt := 106) dX9_how_58 (by decide) (fun q9 => ?_) (fun q9 => ?_)
          · rw [if_neg q9] at hF
            refine J_iconst (v := 0) dX9_how_106 (by decide) ?_
            refine J_istore (L' := [(7, .int 0), (6, .int 0), (5, .int (a2 % 10)), (4, .int (a2 / 10)), (0, .ref 80), (1, .int a1), (2, .int a2), (3, .int a3)]) dX9_how_107 (by decide) rfl ?_
            refine J_sub [4, 5, 3, 2, 1, 0] rfl ?_
            exact Sf_X9_how_109 hd _ _ _ _ _ _ _ _ _ hF
          · rw [if_pos q9] at hF
            refine J_iconst (v := 0) dX9_how_61 (by decide) ?_
            refine J_istore (L' := [(7, .int 0), (6, .int 0), (5, .int (a2 % 10)), (4, .int (a2 / 10)), (0, .ref 80), (1, .int a1), (2, .int a2), (3, .int a3)]) dX9_how_62 (by decide) rfl ?_
            refine J_sub [4, 5, 3, 2, 0] rfl ?_
            exact Sf_X9_how_64 hd _ _ _ _ _ _ _ _ hF
        · rw [if_neg q8] at hF
          refine J_aload_n (j := 0) dX9_how_36 rfl rfl ?_
          refine J_iload_n (j := 1) dX9_how_37 rfl rfl ?_
          obtain ⟨r23, h24, hF⟩ := ob_some hF
          refine JM_callVi (As := [.int a1]) (S := []) lkV_WithOneHandModel_321_X9_barsOf rfl (by decide) dX9_how_38 c_80 (S_X9_barsOf (by omega) h24) (by omega) rfl rfl (Nat.le_of_ble_eq_true rfl) rfl ?_
          obtain ⟨e_r, e_z⟩ := someP hF
          subst e_r
          subst e_z
          exact J_ireturn rfl rfl dX9_how_41 ⟨rfl, rfl⟩
      · rw [if_neg q5] at hF
        refine J_iconst (v := (-1)) dX9_how_26 (by decide) ?_
        obtain ⟨e_r, e_z⟩ := someP hF
        subst e_r
        subst e_z
        exact J_ireturn rfl rfl dX9_how_27 ⟨rfl, rfl⟩
