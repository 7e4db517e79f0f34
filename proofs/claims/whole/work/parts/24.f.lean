def f_X9_readsLine (m : MM) : Option MM :=
  ob (f_X9_readsE m) (fun m1 =>
  ob2 (f_X9_isNext 63 m1) (fun r3 m4 =>
  if r3 = true then
  ob (f_X9_readsE m4) (fun m7 =>
  some m7)
  else
  some m4))
theorem S_X9_readsLine {g : GC} {d : Nat}  {x : MX} {m : MM} {z : MM} (hd : 104 ≤ d) 
  (hF : f_X9_readsLine m = some z) : JC g m_X9_readsLine d 0 0 [.ref 80] (ST x m) (EQ (none) (ST x z)) := by
  refine JC.of (by decide +kernel) (Nat.le_of_ble_eq_true rfl) ?_
  change J g m_X9_readsLine d 0 0 0 [(0, .ref 80)] [] (ST x m) 0 0 (EQ (none) (ST x z))
  unfold f_X9_readsLine at hF
  refine J_aload_n (j := 0) dX9_readsLine_0 rfl rfl ?_
  obtain ⟨m1, h2, hF⟩ := ob_some hF
  refine JM_callVv (As := []) (S := []) lkV_WithOneHandModel_191_X9_readsE rfl (by decide) dX9_readsLine_1 c_80 (S_X9_readsE (by omega) h2) (by omega) rfl rfl (Nat.le_of_ble_eq_true rfl) rfl ?_
  refine J_aload_n (j := 0) dX9_readsLine_4 rfl rfl ?_
  refine J_bipush (v := 63) dX9_readsLine_5 (by decide) ?_
  obtain ⟨r3, m4, h5, hF⟩ := ob2_some hF
  refine JM_callVi (As := [.int 63]) (S := []) lkV_WithOneHandModel_194_X9_isNext rfl (by decide) dX9_readsLine_7 c_80 (S_X9_isNext (by omega) h5) (by omega) rfl rfl (Nat.le_of_ble_eq_true rfl) rfl ?_
  refine J_ifb_eq (tgt := 17) dX9_readsLine_10 (by decide) (fun q6 => ?_) (fun q6 => ?_)
  · rw [if_neg q6] at hF
    have e_r := Option.some.inj hF
    subst e_r
    exact J_return rfl dX9_readsLine_17 ⟨rfl, rfl⟩
  · rw [if_pos q6] at hF
    refine J_aload_n (j := 0) dX9_readsLine_13 rfl rfl ?_
    obtain ⟨m7, h8, hF⟩ := ob_some hF
    refine JM_callVv (As := []) (S := []) lkV_WithOneHandModel_191_X9_readsE rfl (by decide) dX9_readsLine_14 c_80 (S_X9_readsE (by omega) h8) (by omega) rfl rfl (Nat.le_of_ble_eq_true rfl) rfl ?_
    have e_r := Option.some.inj hF
    subst e_r
    exact J_return rfl dX9_readsLine_17 ⟨rfl, rfl⟩
def B_X9_law_109 (v1 : Int32) (v2 : Int32) (m : MM) : Option (Int32 × MM) :=
  letx (ms m 80 5 0) (fun m12 =>
  if v1 = 0 then
  some ((-100) - v2, m12)
  else
  some (1, m12))
theorem SB_X9_law_109 {g : GC} {d : Nat} {v1 : Int32} {v2 : Int32} {x : MX} {m : MM} {r : Int32} {z : MM} (hd : 105 ≤ d) 
  (hF : B_X9_law_109 v1 v2 m = some (r, z)) : J g m_X9_law d 0 0 109 [(0, .ref 80), (1, .int v1), (2, .int v2)] [] (ST x m) 0 0 (EQ (some (.int r)) (ST x z)) := by
  unfold B_X9_law_109 at hF
  refine J_aload_n (j := 0) dX9_law_109 rfl rfl ?_
  refine J_iconst (v := 0) dX9_law_110 (by decide) ?_
  obtain ⟨m12, e_m12, hF⟩ := letx_eq hF
  refine JM_putI fl_WithOneHandModel_168_8 dX9_law_111 c_80 rfl rfl rfl ?_
  rw [← e_m12]
  refine J_iload_n (j := 1) dX9_law_114 rfl rfl ?_
  refine J_if_eq (tgt := 122) dX9_law_115 (by decide) (fun q13 => ?_) (fun q13 => ?_)
  · rw [if_pos q13] at hF
    refine J_bipush (v := (-100)) dX9_law_122 (by decide) ?_
    refine J_iload_n (j := 2) dX9_law_124 rfl rfl ?_
    refine J_isub dX9_law_125 ?_
    obtain ⟨e_r, e_z⟩ := someP hF
    subst e_r
    subst e_z
    exact J_ireturn rfl rfl dX9_law_126 ⟨rfl, rfl⟩
  · rw [if_neg q13] at hF
    refine J_iconst (v := 1) dX9_law_118 (by decide) ?_
    refine J_goto (tgt := 126) dX9_law_119 (by decide) ?_
    obtain ⟨e_r, e_z⟩ := someP hF
    subst e_r
    subst e_z
    exact J_ireturn rfl rfl dX9_law_126 ⟨rfl, rfl⟩
def B_X9_law_70 (K70 : Int32 → Int32 → Int32 → MM → Option (Int32 × MM)) (v1 : Int32) (v2 : Int32) (v3 : Int32) (m : MM) : Option (Int32 × MM) :=
  if (mi m 80 5) ≤ v3 then
  letx (ms m 80 6 (mi m 80 5)) (fun m15 =>
  letx (ms m15 80 9 1) (fun m16 =>
  B_X9_law_109 v1 v2 m16))
  else
  if inb v3 120 = true then
  letx (ms m 94 (ix v3) (mi m 93 (ix v3))) (fun m18 =>
  K70 v1 v2 (v3 + 1) m18)
  else none
theorem SB_X9_law_70 {g : GC} {d : Nat} {K70 : Int32 → Int32 → Int32 → MM → Option (Int32 × MM)} {v1 : Int32} {v2 : Int32} {v3 : Int32} {x : MX} {m : MM} {r : Int32} {z : MM} (hd : 105 ≤ d) (hK70 : ∀ (v1 : Int32) (v2 : Int32) (v3 : Int32) (m : MM) (r : Int32) (z : MM), K70 v1 v2 v3 m = some (r, z) → J g m_X9_law d 0 0 70 [(0, .ref 80), (1, .int v1), (2, .int v2), (3, .int v3)] [] (ST x m) 0 0 (EQ (some (.int r)) (ST x z)))
  (hF : B_X9_law_70 K70 v1 v2 v3 m = some (r, z)) : J g m_X9_law d 0 0 70 [(0, .ref 80), (1, .int v1), (2, .int v2), (3, .int v3)] [] (ST x m) 0 0 (EQ (some (.int r)) (ST x z)) := by
  unfold B_X9_law_70 at hF
  refine J_iload_n (j := 3) dX9_law_70 rfl rfl ?_
  refine J_aload_n (j := 0) dX9_law_71 rfl rfl ?_
  refine JM_getI fl_WithOneHandModel_168_8 dX9_law_72 c_80 rfl ?_
  refine J_icmp_ge (tgt := 96) dX9_law_75 (by decide) (fun q14 => ?_) (fun q14 => ?_)
  · rw [if_pos q14] at hF
    refine J_aload_n (j := 0) dX9_law_96 rfl rfl ?_
    refine J_aload_n (j := 0) dX9_law_97 rfl rfl ?_
    refine JM_getI fl_WithOneHandModel_168_8 dX9_law_98 c_80 rfl ?_
    obtain ⟨m15, e_m15, hF⟩ := letx_eq hF
    refine JM_putI fl_WithOneHandModel_216_8 dX9_law_101 c_80 rfl rfl rfl ?_
    rw [← e_m15]
    refine J_aload_n (j := 0) dX9_law_104 rfl rfl ?_
    refine J_iconst (v := 1) dX9_law_105 (by decide) ?_
    obtain ⟨m16, e_m16, hF⟩ := letx_eq hF
    refine JM_putI fl_WithOneHandModel_219_8 dX9_law_106 c_80 rfl rfl rfl ?_
    rw [← e_m16]
    refine J_sub [0, 1, 2] rfl ?_
    exact SB_X9_law_109 hd hF
  · rw [if_neg q14] at hF
    refine J_aload_n (j := 0) dX9_law_78 rfl rfl ?_
    refine JM_getR (r := 94) fl_WithOneHandModel_53_8 dX9_law_79 c_80 rfl rfl ?_
    refine J_iload_n (j := 3) dX9_law_82 rfl rfl ?_
    refine J_aload_n (j := 0) dX9_law_83 rfl rfl ?_
    refine JM_getR (r := 93) fl_WithOneHandModel_50_8 dX9_law_84 c_80 rfl rfl ?_
    refine J_iload_n (j := 3) dX9_law_87 rfl rfl ?_
    obtain ⟨b17, hF⟩ := chk hF
    refine JM_iald (j := ix v3) dX9_law_88 c_93 (inb_vp b17) rfl ?_
    obtain ⟨m18, e_m18, hF⟩ := letx_eq hF
    refine JM_iast (j := ix v3) dX9_law_89 c_94 (inb_vp b17) rfl ?_
    rw [← e_m18]
    refine J_iinc (j := 3) (v := v3 + 1) (L' := [(3, .int (v3 + 1)), (0, .ref 80), (1, .int v1), (2, .int v2)]) dX9_law_90 rfl rfl (by decide) rfl ?_
    refine J_goto (tgt := 70) dX9_law_93 (by decide) ?_
    refine J_sub [1, 2, 3, 0] rfl ?_
    exact hK70 _ _ _ _ _ _  hF
def f_X9_law_70  : Nat → Int32 → Int32 → Int32 → MM → Option (Int32 × MM)
  | 0 => fun _ _ _ _ => none
  | n + 1 => fun v1 v2 v3 m => B_X9_law_70 (f_X9_law_70  n) v1 v2 v3 m
theorem Sf_X9_law_70 {g : GC} {d : Nat} {x : MX} (hd : 105 ≤ d)  : ∀ (n : Nat) (v1 : Int32) (v2 : Int32) (v3 : Int32) (m : MM) (r : Int32) (z : MM), f_X9_law_70  n v1 v2 v3 m = some (r, z) → J g m_X9_law d 0 0 70 [(0, .ref 80), (1, .int v1), (2, .int v2), (3, .int v3)] [] (ST x m) 0 0 (EQ (some (.int r)) (ST x z)) := by
  intro n
  induction n with
  | zero => intro v1 v2 v3 m r z  hF; exact absurd hF (fun q => by cases q)
  | succ n ih =>
    intro v1 v2 v3 m r z  hF
    exact SB_X9_law_70 hd (fun v1 v2 v3 m r z  hF => ih v1 v2 v3 m r z  hF) hF
def B_X9_law_58 (t0 : Int32) (m : MM) : Option (Int32 × MM) :=
  if t0 = 0 then
  B_X9_law_109 t0 (mi m 80 30) m
  else
  f_X9_law_70 LF t0 (mi m 80 30) 0 m
theorem SB_X9_law_58 {g : GC} {d : Nat} {t0 : Int32} {x : MX} {m : MM} {r : Int32} {z : MM} (hd : 105 ≤ d) 
  (hF : B_X9_law_58 t0 m = some (r, z)) : J g m_X9_law d 0 0 58 [(0, .ref 80)] [.int t0] (ST x m) 0 0 (EQ (some (.int r)) (ST x z)) := by
  unfold B_X9_law_58 at hF
  refine J_istore_n (L' := [(1, .int t0), (0, .ref 80)]) dX9_law_58 rfl (by decide) rfl ?_
  refine J_aload_n (j := 1) dX9_law_59 rfl rfl ?_
  refine JM_getI fl_WithOneHandModel_171_8 dX9_law_60 c_80 rfl ?_
  refine J_istore_n (L' := [(2, .int (mi m 80 30)), (1, .int t0), (0, .ref 80)]) dX9_law_63 rfl (by decide) rfl ?_
  refine J_iload_n (j := 1) dX9_law_64 rfl rfl ?_
  refine J_if_eq (tgt := 109) dX9_law_65 (by decide) (fun q11 => ?_) (fun q11 => ?_)
  · rw [if_pos q11] at hF
    refine J_sub [2, 1, 0] rfl ?_
    exact SB_X9_law_109 hd hF
  · rw [if_neg q11] at hF
    refine J_iconst (v := 0) dX9_law_68 (by decide) ?_
    refine J_istore_n (L' := [(3, .int 0), (2, .int (mi m 80 30)), (1, .int t0), (0, .ref 80)]) dX9_law_69 rfl (by decide) rfl ?_
    refine J_sub [3, 2, 1, 0] rfl ?_
    exact Sf_X9_law_70 hd _ _ _ _ _ _ _ hF
def B_X9_law_57 (m : MM) : Option (Int32 × MM) :=
  B_X9_law_58 0 m
theorem SB_X9_law_57 {g : GC} {d : Nat} {x : MX} {m : MM} {r : Int32} {z : MM} (hd : 105 ≤ d) 
  (hF : B_X9_law_57 m = some (r, z)) : J g m_X9_law d 0 0 57 [(0, .ref 80)] [] (ST x m) 0 0 (EQ (some (.int r)) (ST x z)) := by
  unfold B_X9_law_57 at hF
  refine J_iconst (v := 0) dX9_law_57 (by decide) ?_
  exact SB_X9_law_58 hd hF
def B_X9_law_19 (K19 : MM → Option (Int32 × MM)) (m : MM) : Option (Int32 × MM) :=
  ob2 (f_X9_isNext 59 m) (fun r6 m7 =>
  if r6 = true then
  ob (f_X9_readsLine m7) (fun m20 =>
  K19 m20)
  else
  if (mi m7 80 32) = 0 then
  B_X9_law_57 m7
  else
  if (mi m7 80 30) = (mi m7 80 5) then
  B_X9_law_58 1 m7
  else
  B_X9_law_57 m7)
theorem SB_X9_law_19 {g : GC} {d : Nat} {K19 : MM → Option (Int32 × MM)} {x : MX} {m : MM} {r : Int32} {z : MM} (hd : 105 ≤ d) (hK19 : ∀  (m : MM) (r : Int32) (z : MM), K19 m = some (r, z) → J g m_X9_law d 0 0 19 [(0, .ref 80)] [] (ST x m) 0 0 (EQ (some (.int r)) (ST x z)))
  (hF : B_X9_law_19 K19 m = some (r, z)) : J g m_X9_law d 0 0 19 [(0, .ref 80)] [] (ST x m) 0 0 (EQ (some (.int r)) (ST x z)) := by
  unfold B_X9_law_19 at hF
  refine J_aload_n (j := 0) dX9_law_19 rfl rfl ?_
  refine J_bipush (v := 59) dX9_law_20 (by decide) ?_
  obtain ⟨r6, m7, h8, hF⟩ := ob2_some hF
  refine JM_callVi (As := [.int 59]) (S := []) lkV_WithOneHandModel_194_X9_isNext rfl (by decide) dX9_law_22 c_80 (S_X9_isNext (by omega) h8) (by omega) rfl rfl (Nat.le_of_ble_eq_true rfl) rfl ?_
  refine J_ifb_eq (tgt := 35) dX9_law_25 (by decide) (fun q9 => ?_) (fun q9 => ?_)
  · rw [if_neg q9] at hF
    refine J_aload_n (j := 0) dX9_law_35 rfl rfl ?_
    refine JM_getI fl_WithOneHandModel_174_8 dX9_law_36 c_80 rfl ?_
    refine J_if_eq (tgt := 57) dX9_law_39 (by decide) (fun q10 => ?_) (fun q10 => ?_)
    · rw [if_pos q10] at hF
      exact SB_X9_law_57 hd hF
    · rw [if_neg q10] at hF
      refine J_aload_n (j := 0) dX9_law_42 rfl rfl ?_
      refine JM_getI fl_WithOneHandModel_171_8 dX9_law_43 c_80 rfl ?_
      refine J_aload_n (j := 0) dX9_law_46 rfl rfl ?_
      refine JM_getI fl_WithOneHandModel_168_8 dX9_law_47 c_80 rfl ?_
      refine J_icmp_ne (tgt := 57) dX9_law_50 (by decide) (fun q19 => ?_) (fun q19 => ?_)
      · rw [if_neg q19] at hF
        exact SB_X9_law_57 hd hF
      · rw [if_pos q19] at hF
        refine J_iconst (v := 1) dX9_law_53 (by decide) ?_
        refine J_goto (tgt := 58) dX9_law_54 (by decide) ?_
        exact SB_X9_law_58 hd hF
  · rw [if_pos q9] at hF
    refine J_aload_n (j := 0) dX9_law_28 rfl rfl ?_
    obtain ⟨m20, h21, hF⟩ := ob_some hF
    refine JM_callVv (As := []) (S := []) lkV_WithOneHandModel_213_X9_readsLine rfl (by decide) dX9_law_29 c_80 (S_X9_readsLine (by omega) h21) (by omega) rfl rfl (Nat.le_of_ble_eq_true rfl) rfl ?_
    refine J_goto (tgt := 19) dX9_law_32 (by decide) ?_
    exact hK19 _ _ _  hF
def f_X9_law_19  : Nat → MM → Option (Int32 × MM)
  | 0 => fun _ => none
  | n + 1 => fun  m => B_X9_law_19 (f_X9_law_19  n)  m
theorem Sf_X9_law_19 {g : GC} {d : Nat} {x : MX} (hd : 105 ≤ d)  : ∀ (n : Nat)  (m : MM) (r : Int32) (z : MM), f_X9_law_19  n  m = some (r, z) → J g m_X9_law d 0 0 19 [(0, .ref 80)] [] (ST x m) 0 0 (EQ (some (.int r)) (ST x z)) := by
  intro n
  induction n with
  | zero => intro m r z  hF; exact absurd hF (fun q => by cases q)
  | succ n ih =>
    intro m r z  hF
    exact SB_X9_law_19 hd (fun m r z  hF => ih m r z  hF) hF
def f_X9_law (m : MM) : Option (Int32 × MM) :=
  letx (ms m 80 30 0) (fun m1 =>
  letx (ms m1 80 31 0) (fun m2 =>
  letx (ms m2 80 32 1) (fun m3 =>
  ob (f_X9_readsLine m3) (fun m4 =>
  f_X9_law_19 LF m4))))
theorem S_X9_law {g : GC} {d : Nat}  {x : MX} {m : MM} {r : Int32} {z : MM} (hd : 105 ≤ d) 
  (hF : f_X9_law m = some (r, z)) : JC g m_X9_law d 0 0 [.ref 80] (ST x m) (EQ (some (.int r)) (ST x z)) := by
  refine JC.of (by decide +kernel) (Nat.le_of_ble_eq_true rfl) ?_
  change J g m_X9_law d 0 0 0 [(0, .ref 80)] [] (ST x m) 0 0 (EQ (some (.int r)) (ST x z))
  unfold f_X9_law at hF
  refine J_aload_n (j := 0) dX9_law_0 rfl rfl ?_
  refine J_iconst (v := 0) dX9_law_1 (by decide) ?_
  obtain ⟨m1, e_m1, hF⟩ := letx_eq hF
  refine JM_putI fl_WithOneHandModel_171_8 dX9_law_2 c_80 rfl rfl rfl ?_
  rw [← e_m1]
  refine J_aload_n (j := 0) dX9_law_5 rfl rfl ?_
  refine J_iconst (v := 0) dX9_law_6 (by decide) ?_
  obtain ⟨m2, e_m2, hF⟩ := letx_eq hF
  refine JM_putI fl_WithOneHandModel_188_8 dX9_law_7 c_80 rfl rfl rfl ?_
  rw [← e_m2]
  refine J_aload_n (j := 0) dX9_law_10 rfl rfl ?_
  refine J_iconst (v := 1) dX9_law_11 (by decide) ?_
  obtain ⟨m3, e_m3, hF⟩ := letx_eq hF
  refine JM_putI fl_WithOneHandModel_174_8 dX9_law_12 c_80 rfl rfl rfl ?_
  rw [← e_m3]
  refine J_aload_n (j := 0) dX9_law_15 rfl rfl ?_
  obtain ⟨m4, h5, hF⟩ := ob_some hF
  refine JM_callVv (As := []) (S := []) lkV_WithOneHandModel_213_X9_readsLine rfl (by decide) dX9_law_16 c_80 (S_X9_readsLine (by omega) h5) (by omega) rfl rfl (Nat.le_of_ble_eq_true rfl) rfl ?_
  exact Sf_X9_law_19 hd _ _ _ _ hF
def f_X8_isLinkAndCuff (a1 : Int32) (x : MX) : Option Bool :=
  if a1 < 0 then
  some false
  else
  if (xi x 5 12) ≤ (a1 / 10) then
  some false
  else
  if (f_X8_isCuff (a1 % 10) x) = true then
  some true
  else
  some false
theorem S_X8_isLinkAndCuff {g : GC} {d : Nat} {a1 : Int32} {x : MX} {m : MM} {r : Bool} (hd : 2 ≤ d) 
  (hF : f_X8_isLinkAndCuff a1 x = some r) : JC g m_X8_isLinkAndCuff d 0 0 [.ref 5, .int a1] (ST x m) (EQ (some (.int (b2i r))) (ST x m)) := by
  refine JC.of (by decide +kernel) (Nat.le_of_ble_eq_true rfl) ?_
  change J g m_X8_isLinkAndCuff d 0 0 0 [(0, .ref 5), (1, .int a1)] [] (ST x m) 0 0 (EQ (some (.int (b2i r))) (ST x m))
  unfold f_X8_isLinkAndCuff at hF
  refine J_iload_n (j := 1) dX8_isLinkAndCuff_0 rfl rfl ?_
  refine J_if_lt (tgt := 30) dX8_isLinkAndCuff_1 (by decide) (fun q1 => ?_) (fun q1 => ?_)
  · rw [if_pos q1] at hF
    refine J_iconst (v := 0) dX8_isLinkAndCuff_30 (by decide) ?_
    have e_r := Option.some.inj hF
    subst e_r
    exact J_ireturn rfl rfl dX8_isLinkAndCuff_31 ⟨rfl, rfl⟩
  · rw [if_neg q1] at hF
    refine J_iload_n (j := 1) dX8_isLinkAndCuff_4 rfl rfl ?_
    refine J_bipush (v := 10) dX8_isLinkAndCuff_5 (by decide) ?_
    refine J_idiv dX8_isLinkAndCuff_7 (by decide) ?_
    refine J_aload_n (j := 0) dX8_isLinkAndCuff_8 rfl rfl ?_
    refine JX_getI fl_WithOneHand_80_7 dX8_isLinkAndCuff_9 c_5 rfl ?_
    refine J_icmp_ge (tgt := 30) dX8_isLinkAndCuff_12 (by decide) (fun q2 => ?_) (fun q2 => ?_)
    · rw [if_pos q2] at hF
      refine J_iconst (v := 0) dX8_isLinkAndCuff_30 (by decide) ?_
      have e_r := Option.some.inj hF
      subst e_r
      exact J_ireturn rfl rfl dX8_isLinkAndCuff_31 ⟨rfl, rfl⟩
    · rw [if_neg q2] at hF
      refine J_aload_n (j := 0) dX8_isLinkAndCuff_15 rfl rfl ?_
      refine J_iload_n (j := 1) dX8_isLinkAndCuff_16 rfl rfl ?_
      refine J_bipush (v := 10) dX8_isLinkAndCuff_17 (by decide) ?_
      refine J_irem dX8_isLinkAndCuff_19 (by decide) ?_
      refine JX_callVi (As := [.int (a1 % 10)]) (S := []) lkV_WithOneHand_116_X8_isCuff rfl (by decide) dX8_isLinkAndCuff_20 c_5 (S_X8_isCuff (by omega) rfl) (by omega) rfl rfl (Nat.le_of_ble_eq_true rfl) rfl ?_
      refine J_ifb_eq (tgt := 30) dX8_isLinkAndCuff_23 (by decide) (fun q3 => ?_) (fun q3 => ?_)
      · rw [if_neg q3] at hF
        refine J_iconst (v := 0) dX8_isLinkAndCuff_30 (by decide) ?_
        have e_r := Option.some.inj hF
        subst e_r
        exact J_ireturn rfl rfl dX8_isLinkAndCuff_31 ⟨rfl, rfl⟩
      · rw [if_pos q3] at hF
        refine J_iconst (v := 1) dX8_isLinkAndCuff_26 (by decide) ?_
        refine J_goto (tgt := 31) dX8_isLinkAndCuff_27 (by decide) ?_
        have e_r := Option.some.inj hF
        subst e_r
        exact J_ireturn rfl rfl dX8_isLinkAndCuff_31 ⟨rfl, rfl⟩
def f_X3_isTold (h0 : Nat) (x : MX) : Bool :=
  if (xi x h0 4) ≤ 0 then
  false
  else
  true
theorem S_X3_isTold {g : GC} {d : Nat} {h0 : Nat} {x : MX} {m : MM} {r : Bool} (hd : 1 ≤ d) (e_h0 : isLaw h0)
  (hF : f_X3_isTold h0 x = r) : JC g m_X3_isTold d 0 0 [.ref h0] (ST x m) (EQ (some (.int (b2i r))) (ST x m)) := by
  refine JC.of (by decide +kernel) (Nat.le_of_ble_eq_true rfl) ?_
  change J g m_X3_isTold d 0 0 0 [(0, .ref h0)] [] (ST x m) 0 0 (EQ (some (.int (b2i r))) (ST x m))
  unfold f_X3_isTold at hF
  refine J_aload_n (j := 0) dX3_isTold_0 rfl rfl ?_
  refine JX_getI fl_Law_27_3 dX3_isTold_1 (c_law e_h0) rfl ?_
  refine J_if_le (tgt := 11) dX3_isTold_4 (by decide) (fun q1 => ?_) (fun q1 => ?_)
  · rw [if_pos q1] at hF
    refine J_iconst (v := 0) dX3_isTold_11 (by decide) ?_
    subst hF
    exact J_ireturn rfl rfl dX3_isTold_12 ⟨rfl, rfl⟩
  · rw [if_neg q1] at hF
    refine J_iconst (v := 1) dX3_isTold_7 (by decide) ?_
    refine J_goto (tgt := 12) dX3_isTold_8 (by decide) ?_
    subst hF
    exact J_ireturn rfl rfl dX3_isTold_12 ⟨rfl, rfl⟩
def f_X3_name (h0 : Nat) (a1 : Int32) (a2 : Int32) (a3 : Int32) (a4 : Int32) (a5 : Int32) (a6 : Int32) (x : MX) : Option MX :=
  letx (xs x (h0 + 4) 0 a1) (fun x1 =>
  letx (xs x1 (h0 + 4) 1 a2) (fun x2 =>
  letx (xs x2 (h0 + 4) 2 a3) (fun x3 =>
  letx (xs x3 (h0 + 4) 3 a4) (fun x4 =>
  letx (xs x4 (h0 + 4) 4 a5) (fun x5 =>
  letx (xs x5 (h0 + 4) 5 a6) (fun x6 =>
  some x6))))))
theorem S_X3_name {g : GC} {d : Nat} {h0 : Nat} {a1 : Int32} {a2 : Int32} {a3 : Int32} {a4 : Int32} {a5 : Int32} {a6 : Int32} {x : MX} {m : MM} {z : MX} (hd : 1 ≤ d) (e_h0 : isLaw h0)
  (hF : f_X3_name h0 a1 a2 a3 a4 a5 a6 x = some z) : JC g m_X3_name d 0 0 [.ref h0, .int a1, .int a2, .int a3, .int a4, .int a5, .int a6] (ST x m) (EQ (none) (ST z m)) := by
  refine JC.of (by decide +kernel) (Nat.le_of_ble_eq_true rfl) ?_
  change J g m_X3_name d 0 0 0 [(0, .ref h0), (1, .int a1), (2, .int a2), (3, .int a3), (4, .int a4), (5, .int a5), (6, .int a6)] [] (ST x m) 0 0 (EQ (none) (ST z m))
  unfold f_X3_name at hF
  refine J_aload_n (j := 0) dX3_name_0 rfl rfl ?_
  refine JX_getR (r := (h0 + 4)) fl_Law_21_3 dX3_name_1 (c_law e_h0) rfl rfl ?_
  refine J_iconst (v := 0) dX3_name_4 (by decide) ?_
  refine J_iload_n (j := 1) dX3_name_5 rfl rfl ?_
  obtain ⟨x1, e_x1, hF⟩ := letx_eq hF
  refine JX_iast (j := 0) dX3_name_6 (c_law4 e_h0) (by unfold vp_in; decide) (by decide) ?_
  rw [← e_x1]
  refine J_aload_n (j := 0) dX3_name_7 rfl rfl ?_
  refine JX_getR (r := (h0 + 4)) fl_Law_21_3 dX3_name_8 (c_law e_h0) rfl rfl ?_
  refine J_iconst (v := 1) dX3_name_11 (by decide) ?_
  refine J_iload_n (j := 2) dX3_name_12 rfl rfl ?_
  obtain ⟨x2, e_x2, hF⟩ := letx_eq hF
  refine JX_iast (j := 1) dX3_name_13 (c_law4 e_h0) (by unfold vp_in; decide) (by decide) ?_
  rw [← e_x2]
  refine J_aload_n (j := 0) dX3_name_14 rfl rfl ?_
  refine JX_getR (r := (h0 + 4)) fl_Law_21_3 dX3_name_15 (c_law e_h0) rfl rfl ?_
  refine J_iconst (v := 2) dX3_name_18 (by decide) ?_
  refine J_iload_n (j := 3) dX3_name_19 rfl rfl ?_
  obtain ⟨x3, e_x3, hF⟩ := letx_eq hF
  refine JX_iast (j := 2) dX3_name_20 (c_law4 e_h0) (by unfold vp_in; decide) (by decide) ?_
  rw [← e_x3]
  refine J_aload_n (j := 0) dX3_name_21 rfl rfl ?_
  refine JX_getR (r := (h0 + 4)) fl_Law_21_3 dX3_name_22 (c_law e_h0) rfl rfl ?_
  refine J_iconst (v := 3) dX3_name_25 (by decide) ?_
  refine J_iload (j := 4) dX3_name_26 rfl ?_
  obtain ⟨x4, e_x4, hF⟩ := letx_eq hF
  refine JX_iast (j := 3) dX3_name_28 (c_law4 e_h0) (by unfold vp_in; decide) (by decide) ?_
  rw [← e_x4]
  refine J_aload_n (j := 0) dX3_name_29 rfl rfl ?_
  refine JX_getR (r := (h0 + 4)) fl_Law_21_3 dX3_name_30 (c_law e_h0) rfl rfl ?_
  refine J_iconst (v := 4) dX3_name_33 (by decide) ?_
  refine J_iload (j := 5) dX3_name_34 rfl ?_
  obtain ⟨x5, e_x5, hF⟩ := letx_eq hF
  refine JX_iast (j := 4) dX3_name_36 (c_law4 e_h0) (by unfold vp_in; decide) (by decide) ?_
  rw [← e_x5]
  refine J_aload_n (j := 0) dX3_name_37 rfl rfl ?_
  refine JX_getR (r := (h0 + 4)) fl_Law_21_3 dX3_name_38 (c_law e_h0) rfl rfl ?_
  refine J_iconst (v := 5) dX3_name_41 (by decide) ?_
  refine J_iload (j := 6) dX3_name_42 rfl ?_
  obtain ⟨x6, e_x6, hF⟩ := letx_eq hF
  refine JX_iast (j := 5) dX3_name_44 (c_law4 e_h0) (by unfold vp_in; decide) (by decide) ?_
  rw [← e_x6]
  have e_r := Option.some.inj hF
  subst e_r
  exact J_return rfl dX3_name_45 ⟨rfl, rfl⟩
def f_X3_pop (h0 : Nat) (x : MX) : Option (Int32 × MX) :=
  if (xi x h0 5) ≤ 0 then
  some (0, x)
  else
  if (xi x h0 5) ≤ 40 then
  letx (xs x h0 5 ((xi x h0 5) - 1)) (fun x3 =>
  if inb (xi x3 h0 5) 40 = true then
  some (xi x3 (h0 + 3) (ix (xi x3 h0 5)), x3)
  else none)
  else
  some (0, x)
theorem S_X3_pop {g : GC} {d : Nat} {h0 : Nat} {x : MX} {m : MM} {r : Int32} {z : MX} (hd : 1 ≤ d) (e_h0 : isLaw h0)
  (hF : f_X3_pop h0 x = some (r, z)) : JC g m_X3_pop d 0 0 [.ref h0] (ST x m) (EQ (some (.int r)) (ST z m)) := by
  refine JC.of (by decide +kernel) (Nat.le_of_ble_eq_true rfl) ?_
  change J g m_X3_pop d 0 0 0 [(0, .ref h0)] [] (ST x m) 0 0 (EQ (some (.int r)) (ST z m))
  unfold f_X3_pop at hF
  refine J_aload_n (j := 0) dX3_pop_0 rfl rfl ?_
  refine JX_getI fl_Law_73_3 dX3_pop_1 (c_law e_h0) rfl ?_
  refine J_if_le (tgt := 19) dX3_pop_4 (by decide) (fun q1 => ?_) (fun q1 => ?_)
  · rw [if_pos q1] at hF
    refine J_iconst (v := 0) dX3_pop_19 (by decide) ?_
    obtain ⟨e_r, e_z⟩ := someP hF
    subst e_r
    subst e_z
    exact J_ireturn rfl rfl dX3_pop_20 ⟨rfl, rfl⟩
  · rw [if_neg q1] at hF
    refine J_aload_n (j := 0) dX3_pop_7 rfl rfl ?_
    refine JX_getI fl_Law_73_3 dX3_pop_8 (c_law e_h0) rfl ?_
    refine J_aload_n (j := 0) dX3_pop_11 rfl rfl ?_
    refine JX_getR (r := (h0 + 3)) fl_Law_18_3 dX3_pop_12 (c_law e_h0) rfl rfl ?_
    refine JX_alenI (v := 40) dX3_pop_15 (c_law3 e_h0) (by decide) ?_
    refine J_icmp_le (tgt := 21) dX3_pop_16 (by decide) (fun q2 => ?_) (fun q2 => ?_)
    · rw [if_pos q2] at hF
      refine J_aload_n (j := 0) dX3_pop_21 rfl rfl ?_
      refine J_dup dX3_pop_22 rfl ?_
      refine JX_getI fl_Law_73_3 dX3_pop_23 (c_law e_h0) rfl ?_
      refine J_iconst (v := 1) dX3_pop_26 (by decide) ?_
      refine J_isub dX3_pop_27 ?_
      obtain ⟨x3, e_x3, hF⟩ := letx_eq hF
      refine JX_putI fl_Law_73_3 dX3_pop_28 (c_law e_h0) rfl rfl rfl ?_
      rw [← e_x3]
      refine J_aload_n (j := 0) dX3_pop_31 rfl rfl ?_
      refine JX_getR (r := (h0 + 3)) fl_Law_18_3 dX3_pop_32 (c_law e_h0) rfl rfl ?_
      refine J_aload_n (j := 0) dX3_pop_35 rfl rfl ?_
      refine JX_getI fl_Law_73_3 dX3_pop_36 (c_law e_h0) rfl ?_
      obtain ⟨b4, hF⟩ := chk hF
      refine JX_iald (j := ix (xi x3 h0 5)) dX3_pop_39 (c_law3 e_h0) (inb_vp b4) rfl ?_
      obtain ⟨e_r, e_z⟩ := someP hF
      subst e_r
      subst e_z
      exact J_ireturn rfl rfl dX3_pop_40 ⟨rfl, rfl⟩
    · rw [if_neg q2] at hF
      refine J_iconst (v := 0) dX3_pop_19 (by decide) ?_
      obtain ⟨e_r, e_z⟩ := someP hF
      subst e_r
      subst e_z
      exact J_ireturn rfl rfl dX3_pop_20 ⟨rfl, rfl⟩
def f_X3_push (h0 : Nat) (a1 : Int32) (x : MX) : Option MX :=
  if (xi x h0 5) < 0 then
  some x
  else
  if (xi x h0 5) < 40 then
  if inb (xi x h0 5) 40 = true then
  letx (xs x (h0 + 3) (ix (xi x h0 5)) a1) (fun x4 =>
  letx (xs x4 h0 5 ((xi x4 h0 5) + 1)) (fun x5 =>
  some x5))
  else none
  else
  some x
theorem S_X3_push {g : GC} {d : Nat} {h0 : Nat} {a1 : Int32} {x : MX} {m : MM} {z : MX} (hd : 1 ≤ d) (e_h0 : isLaw h0)
  (hF : f_X3_push h0 a1 x = some z) : JC g m_X3_push d 0 0 [.ref h0, .int a1] (ST x m) (EQ (none) (ST z m)) := by
  refine JC.of (by decide +kernel) (Nat.le_of_ble_eq_true rfl) ?_
  change J g m_X3_push d 0 0 0 [(0, .ref h0), (1, .int a1)] [] (ST x m) 0 0 (EQ (none) (ST z m))
  unfold f_X3_push at hF
  refine J_aload_n (j := 0) dX3_push_0 rfl rfl ?_
  refine JX_getI fl_Law_73_3 dX3_push_1 (c_law e_h0) rfl ?_
  refine J_if_lt (tgt := 19) dX3_push_4 (by decide) (fun q1 => ?_) (fun q1 => ?_)
  · rw [if_pos q1] at hF
    have e_r := Option.some.inj hF
    subst e_r
    exact J_return rfl dX3_push_19 ⟨rfl, rfl⟩
  · rw [if_neg q1] at hF
    refine J_aload_n (j := 0) dX3_push_7 rfl rfl ?_
    refine JX_getI fl_Law_73_3 dX3_push_8 (c_law e_h0) rfl ?_
    refine J_aload_n (j := 0) dX3_push_11 rfl rfl ?_
    refine JX_getR (r := (h0 + 3)) fl_Law_18_3 dX3_push_12 (c_law e_h0) rfl rfl ?_
    refine JX_alenI (v := 40) dX3_push_15 (c_law3 e_h0) (by decide) ?_
    refine J_icmp_lt (tgt := 20) dX3_push_16 (by decide) (fun q2 => ?_) (fun q2 => ?_)
    · rw [if_pos q2] at hF
      refine J_aload_n (j := 0) dX3_push_20 rfl rfl ?_
      refine JX_getR (r := (h0 + 3)) fl_Law_18_3 dX3_push_21 (c_law e_h0) rfl rfl ?_
      refine J_aload_n (j := 0) dX3_push_24 rfl rfl ?_
      refine JX_getI fl_Law_73_3 dX3_push_25 (c_law e_h0) rfl ?_
      refine J_iload_n (j := 1) dX3_push_28 rfl rfl ?_
      obtain ⟨b3, hF⟩ := chk hF
      obtain ⟨x4, e_x4, hF⟩ := letx_eq hF
      refine JX_iast (j := ix (xi x h0 5)) dX3_push_29 (c_law3 e_h0) (inb_vp b3) rfl ?_
      rw [← e_x4]
      refine J_aload_n (j := 0) dX3_push_30 rfl rfl ?_
      refine J_dup dX3_push_31 rfl ?_
      refine JX_getI fl_Law_73_3 dX3_push_32 (c_law e_h0) rfl ?_
      refine J_iconst (v := 1) dX3_push_35 (by decide) ?_
      refine J_iadd dX3_push_36 ?_
      obtain ⟨x5, e_x5, hF⟩ := letx_eq hF
      refine JX_putI fl_Law_73_3 dX3_push_37 (c_law e_h0) rfl rfl rfl ?_
      rw [← e_x5]
      have e_r := Option.some.inj hF
      subst e_r
      exact J_return rfl dX3_push_40 ⟨rfl, rfl⟩
    · rw [if_neg q2] at hF
      have e_r := Option.some.inj hF
      subst e_r
      exact J_return rfl dX3_push_19 ⟨rfl, rfl⟩
def f_X3_joined (a0 : Int32) (a1 : Int32) (a2 : Int32) : Option Int32 :=
  if a0 = 37 then
  if a2 = 0 then
  some 0
  else
  if ¬ a2 = 0 then
  some (a1 % a2)
  else none
  else
  if a0 = 38 then
  if a1 = 0 then
  some 0
  else
  if a2 = 0 then
  some 0
  else
  some 1
  else
  if a0 = 42 then
  some (a1 * a2)
  else
  if a0 = 43 then
  some (a1 + a2)
  else
  if a0 = 45 then
  some (a1 - a2)
  else
  if a0 = 47 then
  if a2 = 0 then
  some 0
  else
  if ¬ a2 = 0 then
  some (a1 / a2)
  else none
  else
  if a0 = 60 then
  if a2 ≤ a1 then
  some 0
  else
  some 1
  else
  if a0 = 61 then
  if a1 = a2 then
  some 1
  else
  some 0
  else
  if a0 = 62 then
  if a1 ≤ a2 then
  some 0
  else
  some 1
  else
  if a0 = 124 then
  if a1 = 0 then
  if a2 = 0 then
  some 0
  else
  some 1
  else
  some 1
  else
  some 0
theorem S_X3_joined {g : GC} {d : Nat} {a0 : Int32} {a1 : Int32} {a2 : Int32} {x : MX} {m : MM} {r : Int32} (hd : 1 ≤ d) 
  (hF : f_X3_joined a0 a1 a2 = some r) : JC g m_X3_joined d 0 0 [.int a0, .int a1, .int a2] (ST x m) (EQ (some (.int r)) (ST x m)) := by
  refine JC.of (by decide +kernel) (Nat.le_of_ble_eq_true rfl) ?_
  change J g m_X3_joined d 0 0 0 [(0, .int a0), (1, .int a1), (2, .int a2)] [] (ST x m) 0 0 (EQ (some (.int r)) (ST x m))
  unfold f_X3_joined at hF
  refine J_iload_n (j := 0) dX3_joined_0 rfl rfl ?_
  refine J_lsw (td := 189) (cs := [(37, 177), (38, 106), (42, 161), (43, 153), (45, 157), (47, 165), (60, 120), (61, 131), (62, 142), (124, 92)]) dX3_joined_1 (by decide +kernel) (by decide) (by decide) (by decide +kernel) ?_
  refine J_sw (fun q1 => ?_) (fun q1 => ?_)
  · rw [if_pos q1] at hF
    refine J_iload_n (j := 2) dX3_joined_177 rfl rfl ?_
    refine J_if_ne (tgt := 185) dX3_joined_178 (by decide) (fun q2 => ?_) (fun q2 => ?_)
    · rw [if_neg q2] at hF
      refine J_iload_n (j := 1) dX3_joined_185 rfl rfl ?_
      refine J_iload_n (j := 2) dX3_joined_186 rfl rfl ?_
      obtain ⟨b3, hF⟩ := chk hF
      refine J_irem dX3_joined_187 b3 ?_
      have e_r := Option.some.inj hF
      subst e_r
      exact J_ireturn rfl rfl dX3_joined_188 ⟨rfl, rfl⟩
    · rw [if_pos q2] at hF
      refine J_iconst (v := 0) dX3_joined_181 (by decide) ?_
      refine J_goto (tgt := 188) dX3_joined_182 (by decide) ?_
      have e_r := Option.some.inj hF
      subst e_r
      exact J_ireturn rfl rfl dX3_joined_188 ⟨rfl, rfl⟩
  rw [if_neg q1] at hF
  refine J_sw (fun q4 => ?_) (fun q4 => ?_)
  · rw [if_pos q4] at hF
    refine J_iload_n (j := 1) dX3_joined_106 rfl rfl ?_
    refine J_if_eq (tgt := 118) dX3_joined_107 (by decide) (fun q5 => ?_) (fun q5 => ?_)
    · rw [if_pos q5] at hF
      refine J_iconst (v := 0) dX3_joined_118 (by decide) ?_
      have e_r := Option.some.inj hF
      subst e_r
      exact J_ireturn rfl rfl dX3_joined_119 ⟨rfl, rfl⟩
    · rw [if_neg q5] at hF
      refine J_iload_n (j := 2) dX3_joined_110 rfl rfl ?_
      refine J_if_eq (tgt := 118) dX3_joined_111 (by decide) (fun q6 => ?_) (fun q6 => ?_)
      · rw [if_pos q6] at hF
        refine J_iconst (v := 0) dX3_joined_118 (by decide) ?_
        have e_r := Option.some.inj hF
        subst e_r
        exact J_ireturn rfl rfl dX3_joined_119 ⟨rfl, rfl⟩
      · rw [if_neg q6] at hF
        refine J_iconst (v := 1) dX3_joined_114 (by decide) ?_
        refine J_goto (tgt := 119) dX3_joined_115 (by decide) ?_
        have e_r := Option.some.inj hF
        subst e_r
        exact J_ireturn rfl rfl dX3_joined_119 ⟨rfl, rfl⟩
  rw [if_neg q4] at hF
  refine J_sw (fun q7 => ?_) (fun q7 => ?_)
  · rw [if_pos q7] at hF
    refine J_iload_n (j := 1) dX3_joined_161 rfl rfl ?_
    refine J_iload_n (j := 2) dX3_joined_162 rfl rfl ?_
    refine J_imul dX3_joined_163 ?_
    have e_r := Option.some.inj hF
    subst e_r
    exact J_ireturn rfl rfl dX3_joined_164 ⟨rfl, rfl⟩
  rw [if_neg q7] at hF
  refine J_sw (fun q8 => ?_) (fun q8 => ?_)
  · rw [if_pos q8] at hF
    refine J_iload_n (j := 1) dX3_joined_153 rfl rfl ?_
    refine J_iload_n (j := 2) dX3_joined_154 rfl rfl ?_
    refine J_iadd dX3_joined_155 ?_
    have e_r := Option.some.inj hF
    subst e_r
    exact J_ireturn rfl rfl dX3_joined_156 ⟨rfl, rfl⟩
  rw [if_neg q8] at hF
  refine J_sw (fun q9 => ?_) (fun q9 => ?_)
  · rw [if_pos q9] at hF
    refine J_iload_n (j := 1) dX3_joined_157 rfl rfl ?_
    refine J_iload_n (j := 2) dX3_joined_158 rfl rfl ?_
    refine J_isub dX3_joined_159 ?_
    have e_r := Option.some.inj hF
    subst e_r
    exact J_ireturn rfl rfl dX3_joined_160 ⟨rfl, rfl⟩
  rw [if_neg q9] at hF
  refine J_sw (fun q10 => ?_) (fun q10 => ?_)
  · rw [if_pos q10] at hF
    refine J_iload_n (j := 2) dX3_joined_165 rfl rfl ?_
    refine J_if_ne (tgt := 173) dX3_joined_166 (by decide) (fun q11 => ?_) (fun q11 => ?_)
    · rw [if_neg q11] at hF
      refine J_iload_n (j := 1) dX3_joined_173 rfl rfl ?_
      refine J_iload_n (j := 2) dX3_joined_174 rfl rfl ?_
      obtain ⟨b12, hF⟩ := chk hF
      refine J_idiv dX3_joined_175 b12 ?_
      have e_r := Option.some.inj hF
      subst e_r
      exact J_ireturn rfl rfl dX3_joined_176 ⟨rfl, rfl⟩
    · rw [if_pos q11] at hF
      refine J_iconst (v := 0) dX3_joined_169 (by decide) ?_
      refine J_goto (tgt := 176) dX3_joined_170 (by decide) ?_
      have e_r := Option.some.inj hF
      subst e_r
      exact J_ireturn rfl rfl dX3_joined_176 ⟨rfl, rfl⟩
  rw [if_neg q10] at hF
  refine J_sw (fun q13 => ?_) (fun q13 => ?_)
  · rw [if_pos q13] at hF
    refine J_iload_n (j := 1) dX3_joined_120 rfl rfl ?_
    refine J_iload_n (j := 2) dX3_joined_121 rfl rfl ?_
    refine J_icmp_ge (tgt := 129) dX3_joined_122 (by decide) (fun q14 => ?_) (fun q14 => ?_)
    · rw [if_pos q14] at hF
      refine J_iconst (v := 0) dX3_joined_129 (by decide) ?_
      have e_r := Option.some.inj hF
      subst e_r
      exact J_ireturn rfl rfl dX3_joined_130 ⟨rfl, rfl⟩
    · rw [if_neg q14] at hF
      refine J_iconst (v := 1) dX3_joined_125 (by decide) ?_
      refine J_goto (tgt := 130) dX3_joined_126 (by decide) ?_
      have e_r := Option.some.inj hF
      subst e_r
      exact J_ireturn rfl rfl dX3_joined_130 ⟨rfl, rfl⟩
  rw [if_neg q13] at hF
  refine J_sw (fun q15 => ?_) (fun q15 => ?_)
  · rw [if_pos q15] at hF
    refine J_iload_n (j := 1) dX3_joined_131 rfl rfl ?_
    refine J_iload_n (j := 2) dX3_joined_132 rfl rfl ?_
    refine J_icmp_ne (tgt := 140) dX3_joined_133 (by decide) (fun q16 => ?_) (fun q16 => ?_)
    · rw [if_neg q16] at hF
      refine J_iconst (v := 0) dX3_joined_140 (by decide) ?_
      have e_r := Option.some.inj hF
      subst e_r
      exact J_ireturn rfl rfl dX3_joined_141 ⟨rfl, rfl⟩
    · rw [if_pos q16] at hF
      refine J_iconst (v := 1) dX3_joined_136 (by decide) ?_
      refine J_goto (tgt := 141) dX3_joined_137 (by decide) ?_
      have e_r := Option.some.inj hF
      subst e_r
      exact J_ireturn rfl rfl dX3_joined_141 ⟨rfl, rfl⟩
  rw [if_neg q15] at hF
  refine J_sw (fun q17 => ?_) (fun q17 => ?_)
  · rw [if_pos q17] at hF
    refine J_iload_n (j := 1) dX3_joined_142 rfl rfl ?_
    refine J_iload_n (j := 2) dX3_joined_143 rfl rfl ?_
    refine J_icmp_le (tgt := 151) dX3_joined_144 (by decide) (fun q18 => ?_) (fun q18 => ?_)
    · rw [if_pos q18] at hF
      refine J_iconst (v := 0) dX3_joined_151 (by decide) ?_
      have e_r := Option.some.inj hF
      subst e_r
      exact J_ireturn rfl rfl dX3_joined_152 ⟨rfl, rfl⟩
    · rw [if_neg q18] at hF
      refine J_iconst (v := 1) dX3_joined_147 (by decide) ?_
      refine J_goto (tgt := 152) dX3_joined_148 (by decide) ?_
      have e_r := Option.some.inj hF
      subst e_r
      exact J_ireturn rfl rfl dX3_joined_152 ⟨rfl, rfl⟩
  rw [if_neg q17] at hF
  refine J_sw (fun q19 => ?_) (fun q19 => ?_)
  · rw [if_pos q19] at hF
    refine J_iload_n (j := 1) dX3_joined_92 rfl rfl ?_
    refine J_if_ne (tgt := 100) dX3_joined_93 (by decide) (fun q20 => ?_) (fun q20 => ?_)
    · rw [if_neg q20] at hF
      refine J_iconst (v := 1) dX3_joined_100 (by decide) ?_
      refine J_goto (tgt := 105) dX3_joined_101 (by decide) ?_
      have e_r := Option.some.inj hF
      subst e_r
      exact J_ireturn rfl rfl dX3_joined_105 ⟨rfl, rfl⟩
    · rw [if_pos q20] at hF
      refine J_iload_n (j := 2) dX3_joined_96 rfl rfl ?_
      refine J_if_eq (tgt := 104) dX3_joined_97 (by decide) (fun q21 => ?_) (fun q21 => ?_)
      · rw [if_pos q21] at hF
        refine J_iconst (v := 0) dX3_joined_104 (by decide) ?_
        have e_r := Option.some.inj hF
        subst e_r
        exact J_ireturn rfl rfl dX3_joined_105 ⟨rfl, rfl⟩
      · rw [if_neg q21] at hF
        refine J_iconst (v := 1) dX3_joined_100 (by decide) ?_
        refine J_goto (tgt := 105) dX3_joined_101 (by decide) ?_
        have e_r := Option.some.inj hF
        subst e_r
        exact J_ireturn rfl rfl dX3_joined_105 ⟨rfl, rfl⟩
  rw [if_neg q19] at hF
  refine J_swd ?_
  refine J_iconst (v := 0) dX3_joined_189 (by decide) ?_
  have e_r := Option.some.inj hF
  subst e_r
  exact J_ireturn rfl rfl dX3_joined_190 ⟨rfl, rfl⟩
def B_X3_workedOut_223 (K9 : Nat → Int32 → Int32 → MX → Option (Int32 × MX)) (v0 : Nat) (v1 : Int32) (v2 : Int32) (x : MX) : Option (Int32 × MX) :=
  K9 v0 v1 (v2 + 1) x
theorem SB_X3_workedOut_223 {g : GC} {d : Nat} {K9 : Nat → Int32 → Int32 → MX → Option (Int32 × MX)} {v0 : Nat} {v1 : Int32} {v2 : Int32} {x : MX} {m : MM} {r : Int32} {z : MX} (hd : 2 ≤ d) (hK9 : ∀ (v0 : Nat) (v1 : Int32) (v2 : Int32) (x : MX) (r : Int32) (z : MX), isLaw v0 → K9 v0 v1 v2 x = some (r, z) → J g m_X3_workedOut d 0 0 9 [(0, .ref v0), (1, .int v1), (2, .int v2)] [] (ST x m) 0 0 (EQ (some (.int r)) (ST z m))) (e_v0 : isLaw v0)
  (hF : B_X3_workedOut_223 K9 v0 v1 v2 x = some (r, z)) : J g m_X3_workedOut d 0 0 223 [(0, .ref v0), (1, .int v1), (2, .int v2)] [] (ST x m) 0 0 (EQ (some (.int r)) (ST z m)) := by
  unfold B_X3_workedOut_223 at hF
  refine J_iinc (j := 2) (v := v2 + 1) (L' := [(2, .int (v2 + 1)), (0, .ref v0), (1, .int v1)]) dX3_workedOut_223 rfl rfl (by decide) rfl ?_
  refine J_goto (tgt := 9) dX3_workedOut_226 (by decide) ?_
  refine J_sub [1, 2, 0] rfl ?_
  exact hK9 _ _ _ _ _ _ e_v0 hF
def B_X3_workedOut_197 (K9 : Nat → Int32 → Int32 → MX → Option (Int32 × MX)) (v0 : Nat) (v1 : Int32) (v2 : Int32) (t0 : Int32) (t1 : Nat) (x : MX) : Option (Int32 × MX) :=
  ob (f_X3_push t1 t0 x) (fun x11 =>
  B_X3_workedOut_223 K9 v0 v1 v2 x11)
theorem SB_X3_workedOut_197 {g : GC} {d : Nat} {K9 : Nat → Int32 → Int32 → MX → Option (Int32 × MX)} {v0 : Nat} {v1 : Int32} {v2 : Int32} {t0 : Int32} {t1 : Nat} {x : MX} {m : MM} {r : Int32} {z : MX} (hd : 2 ≤ d) (hK9 : ∀ (v0 : Nat) (v1 : Int32) (v2 : Int32) (x : MX) (r : Int32) (z : MX), isLaw v0 → K9 v0 v1 v2 x = some (r, z) → J g m_X3_workedOut d 0 0 9 [(0, .ref v0), (1, .int v1), (2, .int v2)] [] (ST x m) 0 0 (EQ (some (.int r)) (ST z m))) (e_v0 : isLaw v0) (e_t1 : isLaw t1)
  (hF : B_X3_workedOut_197 K9 v0 v1 v2 t0 t1 x = some (r, z)) : J g m_X3_workedOut d 0 0 197 [(0, .ref v0), (1, .int v1), (2, .int v2)] [.int t0, .ref t1] (ST x m) 0 0 (EQ (some (.int r)) (ST z m)) := by
  unfold B_X3_workedOut_197 at hF
  obtain ⟨x11, h12, hF⟩ := ob_some hF
  refine JX_callVv (As := [.int t0]) (S := []) lkV_Law_79_X3_push rfl (by decide) dX3_workedOut_197 (c_law e_t1) (S_X3_push (by omega) e_t1 h12) (by omega) rfl rfl (Nat.le_of_ble_eq_true rfl) rfl ?_
  refine J_goto (tgt := 223) dX3_workedOut_200 (by decide) ?_
  exact SB_X3_workedOut_223 hd hK9 e_v0 hF
def B_X3_workedOut_126 (K9 : Nat → Int32 → Int32 → MX → Option (Int32 × MX)) (v0 : Nat) (v2 : Int32) (t0 : Int32) (x : MX) : Option (Int32 × MX) :=
  B_X3_workedOut_223 K9 v0 t0 v2 x
theorem SB_X3_workedOut_126 {g : GC} {d : Nat} {K9 : Nat → Int32 → Int32 → MX → Option (Int32 × MX)} {v0 : Nat} {v2 : Int32} {t0 : Int32} {x : MX} {m : MM} {r : Int32} {z : MX} (hd : 2 ≤ d) (hK9 : ∀ (v0 : Nat) (v1 : Int32) (v2 : Int32) (x : MX) (r : Int32) (z : MX), isLaw v0 → K9 v0 v1 v2 x = some (r, z) → J g m_X3_workedOut d 0 0 9 [(0, .ref v0), (1, .int v1), (2, .int v2)] [] (ST x m) 0 0 (EQ (some (.int r)) (ST z m))) (e_v0 : isLaw v0)
  (hF : B_X3_workedOut_126 K9 v0 v2 t0 x = some (r, z)) : J g m_X3_workedOut d 0 0 126 [(0, .ref v0), (2, .int v2)] [.int t0] (ST x m) 0 0 (EQ (some (.int r)) (ST z m)) := by
  unfold B_X3_workedOut_126 at hF
  refine J_istore_n (L' := [(1, .int t0), (0, .ref v0), (2, .int v2)]) dX3_workedOut_126 rfl (by decide) rfl ?_
  refine J_goto (tgt := 223) dX3_workedOut_127 (by decide) ?_
  refine J_sub [1, 0, 2] rfl ?_
  exact SB_X3_workedOut_223 hd hK9 e_v0 hF
def B_X3_workedOut_166 (K9 : Nat → Int32 → Int32 → MX → Option (Int32 × MX)) (v0 : Nat) (v1 : Int32) (v2 : Int32) (t0 : Int32) (t1 : Nat) (x : MX) : Option (Int32 × MX) :=
  ob (f_X3_push t1 t0 x) (fun x27 =>
  B_X3_workedOut_223 K9 v0 v1 v2 x27)
theorem SB_X3_workedOut_166 {g : GC} {d : Nat} {K9 : Nat → Int32 → Int32 → MX → Option (Int32 × MX)} {v0 : Nat} {v1 : Int32} {v2 : Int32} {t0 : Int32} {t1 : Nat} {x : MX} {m : MM} {r : Int32} {z : MX} (hd : 2 ≤ d) (hK9 : ∀ (v0 : Nat) (v1 : Int32) (v2 : Int32) (x : MX) (r : Int32) (z : MX), isLaw v0 → K9 v0 v1 v2 x = some (r, z) → J g m_X3_workedOut d 0 0 9 [(0, .ref v0), (1, .int v1), (2, .int v2)] [] (ST x m) 0 0 (EQ (some (.int r)) (ST z m))) (e_v0 : isLaw v0) (e_t1 : isLaw t1)
  (hF : B_X3_workedOut_166 K9 v0 v1 v2 t0 t1 x = some (r, z)) : J g m_X3_workedOut d 0 0 166 [(0, .ref v0), (1, .int v1), (2, .int v2)] [.int t0, .ref t1] (ST x m) 0 0 (EQ (some (.int r)) (ST z m)) := by
  unfold B_X3_workedOut_166 at hF
  obtain ⟨x27, h28, hF⟩ := ob_some hF
  refine JX_callVv (As := [.int t0]) (S := []) lkV_Law_79_X3_push rfl (by decide) dX3_workedOut_166 (c_law e_t1) (S_X3_push (by omega) e_t1 h28) (by omega) rfl rfl (Nat.le_of_ble_eq_true rfl) rfl ?_
  refine J_goto (tgt := 223) dX3_workedOut_169 (by decide) ?_
  exact SB_X3_workedOut_223 hd hK9 e_v0 hF
def B_X3_workedOut_165 (K9 : Nat → Int32 → Int32 → MX → Option (Int32 × MX)) (v0 : Nat) (v1 : Int32) (v2 : Int32) (t0 : Nat) (x : MX) : Option (Int32 × MX) :=
  B_X3_workedOut_166 K9 v0 v1 v2 0 t0 x
theorem SB_X3_workedOut_165 {g : GC} {d : Nat} {K9 : Nat → Int32 → Int32 → MX → Option (Int32 × MX)} {v0 : Nat} {v1 : Int32} {v2 : Int32} {t0 : Nat} {x : MX} {m : MM} {r : Int32} {z : MX} (hd : 2 ≤ d) (hK9 : ∀ (v0 : Nat) (v1 : Int32) (v2 : Int32) (x : MX) (r : Int32) (z : MX), isLaw v0 → K9 v0 v1 v2 x = some (r, z) → J g m_X3_workedOut d 0 0 9 [(0, .ref v0), (1, .int v1), (2, .int v2)] [] (ST x m) 0 0 (EQ (some (.int r)) (ST z m))) (e_v0 : isLaw v0) (e_t0 : isLaw t0)
  (hF : B_X3_workedOut_165 K9 v0 v1 v2 t0 x = some (r, z)) : J g m_X3_workedOut d 0 0 165 [(0, .ref v0), (1, .int v1), (2, .int v2)] [.ref t0] (ST x m) 0 0 (EQ (some (.int r)) (ST z m)) := by
  unfold B_X3_workedOut_165 at hF
  refine J_iconst (v := 0) dX3_workedOut_165 (by decide) ?_
  exact SB_X3_workedOut_166 hd hK9 e_v0 e_t0 hF
def B_X3_workedOut_9 (K9 : Nat → Int32 → Int32 → MX → Option (Int32 × MX)) (v0 : Nat) (v1 : Int32) (v2 : Int32) (x : MX) : Option (Int32 × MX) :=
  if (xi x v0 4) ≤ v2 then
  some (0, x)
  else
  if v1 < 0 then
  some (0, x)
  else
  if (xi x v0 4) ≤ v1 then
  some (0, x)
  else
  if inb v1 121 = true then
  if (xi x (v0 + 1) (ix v1)) = 33 then
  ob2 (f_X3_pop v0 x) (fun r7 x8 =>
  if r7 = 0 then
  B_X3_workedOut_197 K9 v0 (v1 + 1) v2 1 v0 x8
  else
  B_X3_workedOut_197 K9 v0 (v1 + 1) v2 0 v0 x8)
  else
  if (xi x (v0 + 1) (ix v1)) = 48 then
  ob (f_X3_push v0 (xi x (v0 + 2) (ix v1)) x) (fun x14 =>
  B_X3_workedOut_223 K9 v0 (v1 + 1) v2 x14)
  else
  if (xi x (v0 + 1) (ix v1)) = 59 then
  ob2 (f_X3_pop v0 x) (fun r17 x18 =>
  some (r17, x18))
  else
  if (xi x (v0 + 1) (ix v1)) = 63 then
  ob2 (f_X3_pop v0 x) (fun r21 x22 =>
  if r21 = 0 then
  B_X3_workedOut_126 K9 v0 v2 (xi x (v0 + 2) (ix v1)) x22
  else
  B_X3_workedOut_126 K9 v0 v2 (v1 + 1) x22)
  else
  if (xi x (v0 + 1) (ix v1)) = 97 then
  if (xi x (v0 + 2) (ix v1)) < 0 then
  B_X3_workedOut_165 K9 v0 (v1 + 1) v2 v0 x
  else
  if 6 ≤ (xi x (v0 + 2) (ix v1)) then
  B_X3_workedOut_165 K9 v0 (v1 + 1) v2 v0 x
  else
  if inb (xi x (v0 + 2) (ix v1)) 6 = true then
  B_X3_workedOut_166 K9 v0 (v1 + 1) v2 (xi x (v0 + 4) (ix (xi x (v0 + 2) (ix v1)))) v0 x
  else none
  else
  if (xi x (v0 + 1) (ix v1)) = 126 then
  ob2 (f_X3_pop v0 x) (fun r32 x33 =>
  ob (f_X3_push v0 (-r32) x33) (fun x35 =>
  B_X3_workedOut_223 K9 v0 (v1 + 1) v2 x35))
  else
  ob2 (f_X3_pop v0 x) (fun r37 x38 =>
  ob2 (f_X3_pop v0 x38) (fun r40 x41 =>
  ob (f_X3_joined (xi x (v0 + 1) (ix v1)) r40 r37) (fun r43 =>
  ob (f_X3_push v0 r43 x41) (fun x45 =>
  B_X3_workedOut_223 K9 v0 (v1 + 1) v2 x45))))
  else none
theorem SB_X3_workedOut_9 {g : GC} {d : Nat} {K9 : Nat → Int32 → Int32 → MX → Option (Int32 × MX)} {v0 : Nat} {v1 : Int32} {v2 : Int32} {x : MX} {m : MM} {r : Int32} {z : MX} (hd : 2 ≤ d) (hK9 : ∀ (v0 : Nat) (v1 : Int32) (v2 : Int32) (x : MX) (r : Int32) (z : MX), isLaw v0 → K9 v0 v1 v2 x = some (r, z) → J g m_X3_workedOut d 0 0 9 [(0, .ref v0), (1, .int v1), (2, .int v2)] [] (ST x m) 0 0 (EQ (some (.int r)) (ST z m))) (e_v0 : isLaw v0)
  (hF : B_X3_workedOut_9 K9 v0 v1 v2 x = some (r, z)) : J g m_X3_workedOut d 0 0 9 [(0, .ref v0), (1, .int v1), (2, .int v2)] [] (ST x m) 0 0 (EQ (some (.int r)) (ST z m)) := by
  unfold B_X3_workedOut_9 at hF
  refine J_iload_n (j := 2) dX3_workedOut_9 rfl rfl ?_
  refine J_aload_n (j := 0) dX3_workedOut_10 rfl rfl ?_
  refine JX_getI fl_Law_27_3 dX3_workedOut_11 (c_law e_v0) rfl ?_
  refine J_icmp_ge (tgt := 229) dX3_workedOut_14 (by decide) (fun q2 => ?_) (fun q2 => ?_)
  · rw [if_pos q2] at hF
    refine J_iconst (v := 0) dX3_workedOut_229 (by decide) ?_
    obtain ⟨e_r, e_z⟩ := someP hF
    subst e_r
    subst e_z
    exact J_ireturn rfl rfl dX3_workedOut_230 ⟨rfl, rfl⟩
  · rw [if_neg q2] at hF
    refine J_iload_n (j := 1) dX3_workedOut_17 rfl rfl ?_
    refine J_if_lt (tgt := 229) dX3_workedOut_18 (by decide) (fun q3 => ?_) (fun q3 => ?_)
    · rw [if_pos q3] at hF
      refine J_iconst (v := 0) dX3_workedOut_229 (by decide) ?_
      obtain ⟨e_r, e_z⟩ := someP hF
      subst e_r
      subst e_z
      exact J_ireturn rfl rfl dX3_workedOut_230 ⟨rfl, rfl⟩
    · rw [if_neg q3] at hF
      refine J_iload_n (j := 1) dX3_workedOut_21 rfl rfl ?_
      refine J_aload_n (j := 0) dX3_workedOut_22 rfl rfl ?_
      refine JX_getI fl_Law_27_3 dX3_workedOut_23 (c_law e_v0) rfl ?_
      refine J_icmp_ge (tgt := 229) dX3_workedOut_26 (by decide) (fun q4 => ?_) (fun q4 => ?_)
      · rw [if_pos q4] at hF
        refine J_iconst (v := 0) dX3_workedOut_229 (by decide) ?_
        obtain ⟨e_r, e_z⟩ := someP hF
        subst e_r
        subst e_z
        exact J_ireturn rfl rfl dX3_workedOut_230 ⟨rfl, rfl⟩
      · rw [if_neg q4] at hF
        refine J_aload_n (j := 0) dX3_workedOut_29 rfl rfl ?_
        refine JX_getR (r := (v0 + 1)) fl_Law_9_3 dX3_workedOut_30 (c_law e_v0) rfl rfl ?_
        refine J_iload_n (j := 1) dX3_workedOut_33 rfl rfl ?_
        obtain ⟨b5, hF⟩ := chk hF
        refine JX_iald (j := ix v1) dX3_workedOut_34 (c_law1 e_v0) (inb_vp b5) rfl ?_
        refine J_istore_n (L' := [(3, .int (xi x (v0 + 1) (ix v1))), (0, .ref v0), (1, .int v1), (2, .int v2)]) dX3_workedOut_35 rfl (by decide) rfl ?_
        refine J_aload_n (j := 1) dX3_workedOut_36 rfl rfl ?_
        refine JX_getR (r := (v0 + 2)) fl_Law_15_3 dX3_workedOut_37 (c_law e_v0) rfl rfl ?_
        refine J_iload_n (j := 2) dX3_workedOut_40 rfl rfl ?_
        refine JX_iald (j := ix v1) dX3_workedOut_41 (c_law2 e_v0) (inb_vp b5) rfl ?_
        refine J_istore (L' := [(4, .int (xi x (v0 + 2) (ix v1))), (3, .int (xi x (v0 + 1) (ix v1))), (0, .ref v0), (1, .int v1), (2, .int v2)]) dX3_workedOut_42 (by decide) rfl ?_
        refine J_iinc (j := 3) (v := v1 + 1) (L' := [(1, .int (v1 + 1)), (4, .int (xi x (v0 + 2) (ix v1))), (3, .int (xi x (v0 + 1) (ix v1))), (0, .ref v0), (2, .int v2)]) dX3_workedOut_44 rfl rfl (by decide) rfl ?_
        refine J_iload_n (j := 2) dX3_workedOut_47 rfl rfl ?_
        refine J_lsw (td := 203) (cs := [(33, 184), (48, 130), (59, 108), (63, 113), (97, 139), (126, 172)]) dX3_workedOut_48 (by decide +kernel) (by decide) (by decide) (by decide +kernel) ?_
        refine J_sw (fun q6 => ?_) (fun q6 => ?_)
        · rw [if_pos q6] at hF
          refine J_aload_n (j := 3) dX3_workedOut_184 rfl rfl ?_
          refine J_aload_n (j := 3) dX3_workedOut_185 rfl rfl ?_
          obtain ⟨r7, x8, h9, hF⟩ := ob2_some hF
          refine JX_callVi (As := []) (S := [.ref v0]) lkV_Law_76_X3_pop rfl (by decide) dX3_workedOut_186 (c_law e_v0) (S_X3_pop (by omega) e_v0 h9) (by omega) rfl rfl (Nat.le_of_ble_eq_true rfl) rfl ?_
          refine J_if_ne (tgt := 196) dX3_workedOut_189 (by decide) (fun q10 => ?_) (fun q10 => ?_)
          · rw [if_neg q10] at hF
            refine J_iconst (v := 0) dX3_workedOut_196 (by decide) ?_
            refine J_sub [3, 0, 4] rfl ?_
            exact SB_X3_workedOut_197 hd hK9 e_v0 e_v0 hF
          · rw [if_pos q10] at hF
            refine J_iconst (v := 1) dX3_workedOut_192 (by decide) ?_
            refine J_goto (tgt := 197) dX3_workedOut_193 (by decide) ?_
            refine J_sub [3, 0, 4] rfl ?_
            exact SB_X3_workedOut_197 hd hK9 e_v0 e_v0 hF
        rw [if_neg q6] at hF
        refine J_sw (fun q13 => ?_) (fun q13 => ?_)
        · rw [if_pos q13] at hF
          refine J_aload_n (j := 3) dX3_workedOut_130 rfl rfl ?_
          refine J_iload (j := 1) dX3_workedOut_131 rfl ?_
          obtain ⟨x14, h15, hF⟩ := ob_some hF
          refine JX_callVv (As := [.int (xi x (v0 + 2) (ix v1))]) (S := []) lkV_Law_79_X3_push rfl (by decide) dX3_workedOut_133 (c_law e_v0) (S_X3_push (by omega) e_v0 h15) (by omega) rfl rfl (Nat.le_of_ble_eq_true rfl) rfl ?_
          refine J_goto (tgt := 223) dX3_workedOut_136 (by decide) ?_
          refine J_sub [3, 0, 4] rfl ?_
          exact SB_X3_workedOut_223 hd hK9 e_v0 hF
        rw [if_neg q13] at hF
        refine J_sw (fun q16 => ?_) (fun q16 => ?_)
        · rw [if_pos q16] at hF
          refine J_aload_n (j := 3) dX3_workedOut_108 rfl rfl ?_
          obtain ⟨r17, x18, h19, hF⟩ := ob2_some hF
          refine JX_callVi (As := []) (S := []) lkV_Law_76_X3_pop rfl (by decide) dX3_workedOut_109 (c_law e_v0) (S_X3_pop (by omega) e_v0 h19) (by omega) rfl rfl (Nat.le_of_ble_eq_true rfl) rfl ?_
          obtain ⟨e_r, e_z⟩ := someP hF
          subst e_r
          subst e_z
          exact J_ireturn rfl rfl dX3_workedOut_112 ⟨rfl, rfl⟩
        rw [if_neg q16] at hF
        refine J_sw (fun q20 => ?_) (fun q20 => ?_)
        · rw [if_pos q20] at hF
          refine J_aload_n (j := 3) dX3_workedOut_113 rfl rfl ?_
          obtain ⟨r21, x22, h23, hF⟩ := ob2_some hF
          refine JX_callVi (As := []) (S := []) lkV_Law_76_X3_pop rfl (by decide) dX3_workedOut_114 (c_law e_v0) (S_X3_pop (by omega) e_v0 h23) (by omega) rfl rfl (Nat.le_of_ble_eq_true rfl) rfl ?_
          refine J_if_ne (tgt := 125) dX3_workedOut_117 (by decide) (fun q24 => ?_) (fun q24 => ?_)
          · rw [if_neg q24] at hF
            refine J_iload_n (j := 0) dX3_workedOut_125 rfl rfl ?_
            refine J_sub [3, 4] rfl ?_
            exact SB_X3_workedOut_126 hd hK9 e_v0 hF
          · rw [if_pos q24] at hF
            refine J_iload (j := 1) dX3_workedOut_120 rfl ?_
            refine J_goto (tgt := 126) dX3_workedOut_122 (by decide) ?_
            refine J_sub [3, 4] rfl ?_
            exact SB_X3_workedOut_126 hd hK9 e_v0 hF
        rw [if_neg q20] at hF
        refine J_sw (fun q25 => ?_) (fun q25 => ?_)
        · rw [if_pos q25] at hF
          refine J_aload_n (j := 3) dX3_workedOut_139 rfl rfl ?_
          refine J_iload (j := 1) dX3_workedOut_140 rfl ?_
          refine J_if_lt (tgt := 165) dX3_workedOut_142 (by decide) (fun q26 => ?_) (fun q26 => ?_)
          · rw [if_pos q26] at hF
            refine J_sub [3, 0, 4] rfl ?_
            exact SB_X3_workedOut_165 hd hK9 e_v0 e_v0 hF
          · rw [if_neg q26] at hF
            refine J_iload (j := 1) dX3_workedOut_145 rfl ?_
            refine J_aload_n (j := 3) dX3_workedOut_147 rfl rfl ?_
            refine JX_getR (r := (v0 + 4)) fl_Law_21_3 dX3_workedOut_148 (c_law e_v0) rfl rfl ?_
            refine JX_alenI (v := 6) dX3_workedOut_151 (c_law4 e_v0) (by decide) ?_
            refine J_icmp_ge (tgt := 165) dX3_workedOut_152 (by decide) (fun q29 => ?_) (fun q29 => ?_)
            · rw [if_pos q29] at hF
              refine J_sub [3, 0, 4] rfl ?_
              exact SB_X3_workedOut_165 hd hK9 e_v0 e_v0 hF
            · rw [if_neg q29] at hF
              refine J_aload_n (j := 3) dX3_workedOut_155 rfl rfl ?_
              refine JX_getR (r := (v0 + 4)) fl_Law_21_3 dX3_workedOut_156 (c_law e_v0) rfl rfl ?_
              refine J_iload (j := 1) dX3_workedOut_159 rfl ?_
              obtain ⟨b30, hF⟩ := chk hF
              refine JX_iald (j := ix (xi x (v0 + 2) (ix v1))) dX3_workedOut_161 (c_law4 e_v0) (inb_vp b30) rfl ?_
              refine J_goto (tgt := 166) dX3_workedOut_162 (by decide) ?_
              refine J_sub [3, 0, 4] rfl ?_
              exact SB_X3_workedOut_166 hd hK9 e_v0 e_v0 hF
        rw [if_neg q25] at hF
        refine J_sw (fun q31 => ?_) (fun q31 => ?_)
        · rw [if_pos q31] at hF
          refine J_aload_n (j := 3) dX3_workedOut_172 rfl rfl ?_
          refine J_aload_n (j := 3) dX3_workedOut_173 rfl rfl ?_
          obtain ⟨r32, x33, h34, hF⟩ := ob2_some hF
          refine JX_callVi (As := []) (S := [.ref v0]) lkV_Law_76_X3_pop rfl (by decide) dX3_workedOut_174 (c_law e_v0) (S_X3_pop (by omega) e_v0 h34) (by omega) rfl rfl (Nat.le_of_ble_eq_true rfl) rfl ?_
          refine J_ineg dX3_workedOut_177 ?_
          obtain ⟨x35, h36, hF⟩ := ob_some hF
          refine JX_callVv (As := [.int (-r32)]) (S := []) lkV_Law_79_X3_push rfl (by decide) dX3_workedOut_178 (c_law e_v0) (S_X3_push (by omega) e_v0 h36) (by omega) rfl rfl (Nat.le_of_ble_eq_true rfl) rfl ?_
          refine J_goto (tgt := 223) dX3_workedOut_181 (by decide) ?_
          refine J_sub [3, 0, 4] rfl ?_
          exact SB_X3_workedOut_223 hd hK9 e_v0 hF
        rw [if_neg q31] at hF
        refine J_swd ?_
        refine J_aload_n (j := 3) dX3_workedOut_203 rfl rfl ?_
        obtain ⟨r37, x38, h39, hF⟩ := ob2_some hF
        refine JX_callVi (As := []) (S := []) lkV_Law_76_X3_pop rfl (by decide) dX3_workedOut_204 (c_law e_v0) (S_X3_pop (by omega) e_v0 h39) (by omega) rfl rfl (Nat.le_of_ble_eq_true rfl) rfl ?_
        refine J_istore (L' := [(5, .int r37), (1, .int (v1 + 1)), (4, .int (xi x (v0 + 2) (ix v1))), (3, .int (xi x (v0 + 1) (ix v1))), (0, .ref v0), (2, .int v2)]) dX3_workedOut_207 (by decide) rfl ?_
        refine J_aload_n (j := 4) dX3_workedOut_209 rfl rfl ?_
        refine J_iload_n (j := 3) dX3_workedOut_210 rfl rfl ?_
        refine J_aload_n (j := 4) dX3_workedOut_211 rfl rfl ?_
        obtain ⟨r40, x41, h42, hF⟩ := ob2_some hF
        refine JX_callVi (As := []) (S := [.int (xi x (v0 + 1) (ix v1)), .ref v0]) lkV_Law_76_X3_pop rfl (by decide) dX3_workedOut_212 (c_law e_v0) (S_X3_pop (by omega) e_v0 h42) (by omega) rfl rfl (Nat.le_of_ble_eq_true rfl) rfl ?_
        refine J_iload (j := 0) dX3_workedOut_215 rfl ?_
        obtain ⟨r43, h44, hF⟩ := ob_some hF
        refine J_callSi (As := [.int (xi x (v0 + 1) (ix v1)), .int r40, .int r37]) (S := [.ref v0]) lkS_Law_83_X3_joined dX3_workedOut_217 (S_X3_joined (by omega) h44) (by omega) rfl rfl (Nat.le_of_ble_eq_true rfl) rfl ?_
        obtain ⟨x45, h46, hF⟩ := ob_some hF
        refine JX_callVv (As := [.int r43]) (S := []) lkV_Law_79_X3_push rfl (by decide) dX3_workedOut_220 (c_law e_v0) (S_X3_push (by omega) e_v0 h46) (by omega) rfl rfl (Nat.le_of_ble_eq_true rfl) rfl ?_
        refine J_sub [4, 1, 5] rfl ?_
        exact SB_X3_workedOut_223 hd hK9 e_v0 hF
def f_X3_workedOut_9  : Nat → Nat → Int32 → Int32 → MX → Option (Int32 × MX)
  | 0 => fun _ _ _ _ => none
  | n + 1 => fun v0 v1 v2 x => B_X3_workedOut_9 (f_X3_workedOut_9  n) v0 v1 v2 x
theorem Sf_X3_workedOut_9 {g : GC} {d : Nat} {m : MM} (hd : 2 ≤ d)  : ∀ (n : Nat) (v0 : Nat) (v1 : Int32) (v2 : Int32) (x : MX) (r : Int32) (z : MX), (e_v0 : isLaw v0) → f_X3_workedOut_9  n v0 v1 v2 x = some (r, z) → J g m_X3_workedOut d 0 0 9 [(0, .ref v0), (1, .int v1), (2, .int v2)] [] (ST x m) 0 0 (EQ (some (.int r)) (ST z m)) := by
  intro n
  induction n with
  | zero => intro v0 v1 v2 x r z e_v0 hF; exact absurd hF (fun q => by cases q)
  | succ n ih =>
    intro v0 v1 v2 x r z e_v0 hF
    exact SB_X3_workedOut_9 hd (fun v0 v1 v2 x r z e_v0 hF => ih v0 v1 v2 x r z e_v0 hF) e_v0 hF
def f_X3_workedOut (h0 : Nat) (x : MX) : Option (Int32 × MX) :=
  letx (xs x h0 5 0) (fun x1 =>
  f_X3_workedOut_9 LF h0 0 0 x1)
theorem S_X3_workedOut {g : GC} {d : Nat} {h0 : Nat} {x : MX} {m : MM} {r : Int32} {z : MX} (hd : 2 ≤ d) (e_h0 : isLaw h0)
  (hF : f_X3_workedOut h0 x = some (r, z)) : JC g m_X3_workedOut d 0 0 [.ref h0] (ST x m) (EQ (some (.int r)) (ST z m)) := by
  refine JC.of (by decide +kernel) (Nat.le_of_ble_eq_true rfl) ?_
  change J g m_X3_workedOut d 0 0 0 [(0, .ref h0)] [] (ST x m) 0 0 (EQ (some (.int r)) (ST z m))
  unfold f_X3_workedOut at hF
  refine J_aload_n (j := 0) dX3_workedOut_0 rfl rfl ?_
  refine J_iconst (v := 0) dX3_workedOut_1 (by decide) ?_
  obtain ⟨x1, e_x1, hF⟩ := letx_eq hF
  refine JX_putI fl_Law_73_3 dX3_workedOut_2 (c_law e_h0) rfl rfl rfl ?_
  rw [← e_x1]
  refine J_iconst (v := 0) dX3_workedOut_5 (by decide) ?_
  refine J_istore_n (L' := [(1, .int 0), (0, .ref h0)]) dX3_workedOut_6 rfl (by decide) rfl ?_
  refine J_iconst (v := 0) dX3_workedOut_7 (by decide) ?_
  refine J_istore_n (L' := [(2, .int 0), (1, .int 0), (0, .ref h0)]) dX3_workedOut_8 rfl (by decide) rfl ?_
  refine J_sub [2, 1, 0] rfl ?_
  exact Sf_X3_workedOut_9 hd _ _ _ _ _ _ _ e_h0 hF
def f_X8_takesWith (a1 : Int32) (a2 : Int32) (a3 : Int32) (a4 : Int32) (a5 : Int32) (x : MX) : Option (Int32 × MX) :=
  if inb a1 8 = true then
  letx (imax 0 ((xi x 7 (ix a1)) - (xi x 8 (ix a1)))) (fun y2 =>
  if inb a2 8 = true then
  if isLawB x.1.1 = true then
  if (f_X3_isTold x.1.1 x) = true then
  ob (f_X3_name x.1.1 a4 y2 (xi x 10 (ix a2)) a3 a5 a2 x) (fun x6 =>
  if isLawB x6.1.1 = true then
  ob2 (f_X3_workedOut x6.1.1 x6) (fun r9 x10 =>
  some (imax 1 (imin 999 r9), x10))
  else none)
  else
  some (imax 1 (((((10 - a4) * y2) + a3) + (2 * (xi x 10 (ix a2)))) - a5), x)
  else none
  else none)
  else none
theorem S_X8_takesWith {g : GC} {d : Nat} {a1 : Int32} {a2 : Int32} {a3 : Int32} {a4 : Int32} {a5 : Int32} {x : MX} {m : MM} {r : Int32} {z : MX} (hd : 3 ≤ d) 
  (hF : f_X8_takesWith a1 a2 a3 a4 a5 x = some (r, z)) : JC g m_X8_takesWith d 0 0 [.ref 5, .int a1, .int a2, .int a3, .int a4, .int a5] (ST x m) (EQ (some (.int r)) (ST z m)) := by
  refine JC.of (by decide +kernel) (Nat.le_of_ble_eq_true rfl) ?_
  change J g m_X8_takesWith d 0 0 0 [(0, .ref 5), (1, .int a1), (2, .int a2), (3, .int a3), (4, .int a4), (5, .int a5)] [] (ST x m) 0 0 (EQ (some (.int r)) (ST z m))
  unfold f_X8_takesWith at hF
  refine J_iconst (v := 0) dX8_takesWith_0 (by decide) ?_
  refine J_aload_n (j := 0) dX8_takesWith_1 rfl rfl ?_
  refine JX_getR (r := 6) fl_WithOneHand_11_7 dX8_takesWith_2 c_5 rfl rfl ?_
  refine J_iconst (v := 0) dX8_takesWith_5 (by decide) ?_
  refine JX_aald (j := 0) (r := 7) (by decide) dX8_takesWith_6 c_6 (by unfold vp_in; decide) (by decide) rfl ?_
  refine J_iload_n (j := 1) dX8_takesWith_7 rfl rfl ?_
  obtain ⟨b1, hF⟩ := chk hF
  refine JX_iald (j := ix a1) dX8_takesWith_8 c_7 (inb_vp b1) rfl ?_
  refine J_aload_n (j := 0) dX8_takesWith_9 rfl rfl ?_
  refine JX_getR (r := 6) fl_WithOneHand_11_7 dX8_takesWith_10 c_5 rfl rfl ?_
  refine J_iconst (v := 1) dX8_takesWith_13 (by decide) ?_
  refine JX_aald (j := 1) (r := 8) (by decide) dX8_takesWith_14 c_6 (by unfold vp_in; decide) (by decide) rfl ?_
  refine J_iload_n (j := 1) dX8_takesWith_15 rfl rfl ?_
  refine JX_iald (j := ix a1) dX8_takesWith_16 c_8 (inb_vp b1) rfl ?_
  refine J_isub dX8_takesWith_17 ?_
  refine J_mmax (S := []) (tb 505 (by decide +kernel)) dX8_takesWith_18 (Nat.le_of_ble_eq_true rfl) ?_
  obtain ⟨y2, e_y2, hF⟩ := letx_eq hF
  rw [← e_y2]
  refine J_istore (L' := [(6, .int y2), (0, .ref 5), (1, .int a1), (2, .int a2), (3, .int a3), (4, .int a4), (5, .int a5)]) dX8_takesWith_21 (by decide) rfl ?_
  refine J_aload_n (j := 1) dX8_takesWith_23 rfl rfl ?_
  refine JX_getR (r := 6) fl_WithOneHand_11_7 dX8_takesWith_24 c_5 rfl rfl ?_
  refine J_iconst (v := 3) dX8_takesWith_27 (by decide) ?_
  refine JX_aald (j := 3) (r := 10) (by decide) dX8_takesWith_28 c_6 (by unfold vp_in; decide) (by decide) rfl ?_
  refine J_iload_n (j := 3) dX8_takesWith_29 rfl rfl ?_
  obtain ⟨b3, hF⟩ := chk hF
  refine JX_iald (j := ix a2) dX8_takesWith_30 c_10 (inb_vp b3) rfl ?_
  refine J_istore (L' := [(7, .int (xi x 10 (ix a2))), (6, .int y2), (0, .ref 5), (1, .int a1), (2, .int a2), (3, .int a3), (4, .int a4), (5, .int a5)]) dX8_takesWith_31 (by decide) rfl ?_
  refine J_aload_n (j := 2) dX8_takesWith_33 rfl rfl ?_
  obtain ⟨b4, hF⟩ := chk hF
  refine JX_getR (r := x.1.1) fl_WithOneHand_68_7 dX8_takesWith_34 c_5 rfl rfl ?_
  refine JX_callVi (As := []) (S := []) lkV_WithOneHand_349_X3_isTold rfl (by decide) dX8_takesWith_37 (c_law (law_of b4)) (S_X3_isTold (by omega) (law_of b4) rfl) (by omega) rfl rfl (Nat.le_of_ble_eq_true rfl) rfl ?_
  refine J_ifb_ne (tgt := 66) dX8_takesWith_40 (by decide) (fun q5 => ?_) (fun q5 => ?_)
  · rw [if_pos q5] at hF
    refine J_aload_n (j := 2) dX8_takesWith_66 rfl rfl ?_
    refine JX_getR (r := x.1.1) fl_WithOneHand_68_7 dX8_takesWith_67 c_5 rfl rfl ?_
    refine J_iload (j := 6) dX8_takesWith_70 rfl ?_
    refine J_iload (j := 1) dX8_takesWith_72 rfl ?_
    refine J_iload (j := 0) dX8_takesWith_74 rfl ?_
    refine J_iload_n (j := 5) dX8_takesWith_76 rfl rfl ?_
    refine J_iload (j := 7) dX8_takesWith_77 rfl ?_
    refine J_iload_n (j := 4) dX8_takesWith_79 rfl rfl ?_
    obtain ⟨x6, h7, hF⟩ := ob_some hF
    refine JX_callVv (As := [.int a4, .int y2, .int (xi x 10 (ix a2)), .int a3, .int a5, .int a2]) (S := []) lkV_WithOneHand_352_X3_name rfl (by decide) dX8_takesWith_80 (c_law (law_of b4)) (S_X3_name (by omega) (law_of b4) h7) (by omega) rfl rfl (Nat.le_of_ble_eq_true rfl) rfl ?_
    refine J_iconst (v := 1) dX8_takesWith_83 (by decide) ?_
    refine J_sipush (v := 999) dX8_takesWith_84 (by decide) ?_
    refine J_aload_n (j := 2) dX8_takesWith_87 rfl rfl ?_
    obtain ⟨b8, hF⟩ := chk hF
    refine JX_getR (r := x6.1.1) fl_WithOneHand_68_7 dX8_takesWith_88 c_5 rfl rfl ?_
    obtain ⟨r9, x10, h11, hF⟩ := ob2_some hF
    refine JX_callVi (As := []) (S := [.int 999, .int 1]) lkV_WithOneHand_356_X3_workedOut rfl (by decide) dX8_takesWith_91 (c_law (law_of b8)) (S_X3_workedOut (by omega) (law_of b8) h11) (by omega) rfl rfl (Nat.le_of_ble_eq_true rfl) rfl ?_
    refine J_mmin (S := [.int 1]) (tb 531 (by decide +kernel)) dX8_takesWith_94 (Nat.le_of_ble_eq_true rfl) ?_
    refine J_mmax (S := []) (tb 505 (by decide +kernel)) dX8_takesWith_97 (Nat.le_of_ble_eq_true rfl) ?_
    obtain ⟨e_r, e_z⟩ := someP hF
    subst e_r
    subst e_z
    exact J_ireturn rfl rfl dX8_takesWith_100 ⟨rfl, rfl⟩
  · rw [if_neg q5] at hF
    refine J_iconst (v := 1) dX8_takesWith_43 (by decide) ?_
    refine J_bipush (v := 10) dX8_takesWith_44 (by decide) ?_
    refine J_iload (j := 6) dX8_takesWith_46 rfl ?_
    refine J_isub dX8_takesWith_48 ?_
    refine J_iload (j := 1) dX8_takesWith_49 rfl ?_
    refine J_imul dX8_takesWith_51 ?_
    refine J_iload_n (j := 5) dX8_takesWith_52 rfl rfl ?_
    refine J_iadd dX8_takesWith_53 ?_
    refine J_iconst (v := 2) dX8_takesWith_54 (by decide) ?_
    refine J_iload (j := 0) dX8_takesWith_55 rfl ?_
    refine J_imul dX8_takesWith_57 ?_
    refine J_iadd dX8_takesWith_58 ?_
    refine J_iload (j := 7) dX8_takesWith_59 rfl ?_
    refine J_isub dX8_takesWith_61 ?_
    refine J_mmax (S := []) (tb 505 (by decide +kernel)) dX8_takesWith_62 (Nat.le_of_ble_eq_true rfl) ?_
    obtain ⟨e_r, e_z⟩ := someP hF
    subst e_r
    subst e_z
    exact J_ireturn rfl rfl dX8_takesWith_65 ⟨rfl, rfl⟩
