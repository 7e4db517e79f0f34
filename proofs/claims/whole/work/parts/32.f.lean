def B_X9_asked_145 (t0 : Int32) (m : MM) : Option (Int32 × MM) :=
  some (f_X9_one t0, m)
theorem SB_X9_asked_145 {g : GC} {d : Nat} {t0 : Int32} {x : MX} {m : MM} {r : Int32} {z : MM} (hd : 108 ≤ d) 
  (hF : B_X9_asked_145 t0 m = some (r, z)) : J g m_X9_asked d 0 0 145 [] [.int t0, .ref 80] (ST x m) 0 0 (EQ (some (.int r)) (ST x z)) := by
  unfold B_X9_asked_145 at hF
  refine JM_callVi (As := [.int t0]) (S := []) lkV_WithOneHandModel_228_X9_one rfl (by decide) dX9_asked_145 c_80 (S_X9_one (by omega) rfl) (by omega) rfl rfl (Nat.le_of_ble_eq_true rfl) rfl ?_
  obtain ⟨e_r, e_z⟩ := someP hF
  subst e_r
  subst e_z
  exact J_ireturn rfl rfl dX9_asked_148 ⟨rfl, rfl⟩
def B_X9_asked_98 (K61 : Int32 → Int32 → Int32 → Int32 → Int32 → Int32 → Int32 → MM → Option (Int32 × MM)) (v1 : Int32) (v3 : Int32) (v4 : Int32) (v5 : Int32) (v7 : Int32) (v8 : Int32) (t0 : Int32) (t1 : Int32) (m : MM) : Option (Int32 × MM) :=
  ob2 (f_X9_takes v8 v8 v4 0 m) (fun r11 m12 =>
  K61 v1 v3 v4 v5 (t1 + t0) (v7 + r11) (v8 + 1) m12)
theorem SB_X9_asked_98 {g : GC} {d : Nat} {K61 : Int32 → Int32 → Int32 → Int32 → Int32 → Int32 → Int32 → MM → Option (Int32 × MM)} {v1 : Int32} {v3 : Int32} {v4 : Int32} {v5 : Int32} {v7 : Int32} {v8 : Int32} {t0 : Int32} {t1 : Int32} {x : MX} {m : MM} {r : Int32} {z : MM} (hd : 108 ≤ d) (hK61 : ∀ (v1 : Int32) (v3 : Int32) (v4 : Int32) (v5 : Int32) (v6 : Int32) (v7 : Int32) (v8 : Int32) (m : MM) (r : Int32) (z : MM), K61 v1 v3 v4 v5 v6 v7 v8 m = some (r, z) → J g m_X9_asked d 0 0 61 [(0, .ref 80), (1, .int v1), (3, .int v3), (4, .int v4), (5, .int v5), (6, .int v6), (7, .int v7), (8, .int v8)] [] (ST x m) 0 0 (EQ (some (.int r)) (ST x z)))
  (hF : B_X9_asked_98 K61 v1 v3 v4 v5 v7 v8 t0 t1 m = some (r, z)) : J g m_X9_asked d 0 0 98 [(0, .ref 80), (1, .int v1), (3, .int v3), (4, .int v4), (5, .int v5), (7, .int v7), (8, .int v8)] [.int t0, .int t1] (ST x m) 0 0 (EQ (some (.int r)) (ST x z)) := by
  unfold B_X9_asked_98 at hF
  refine J_iadd dX9_asked_98 ?_
  refine J_istore (L' := [(6, .int (t1 + t0)), (0, .ref 80), (1, .int v1), (3, .int v3), (4, .int v4), (5, .int v5), (7, .int v7), (8, .int v8)]) dX9_asked_99 (by decide) rfl ?_
  refine J_iload (j := 6) dX9_asked_101 rfl ?_
  refine J_aload_n (j := 1) dX9_asked_103 rfl rfl ?_
  refine J_iload (j := 7) dX9_asked_104 rfl ?_
  refine J_iload (j := 7) dX9_asked_106 rfl ?_
  refine J_iload (j := 4) dX9_asked_108 rfl ?_
  refine J_iconst (v := 0) dX9_asked_110 (by decide) ?_
  obtain ⟨r11, m12, h13, hF⟩ := ob2_some hF
  refine JM_callVi (As := [.int v8, .int v8, .int v4, .int 0]) (S := [.int v7]) lkV_WithOneHandModel_257_X9_takes rfl (by decide) dX9_asked_111 c_80 (S_X9_takes (by omega) h13) (by omega) rfl rfl (Nat.le_of_ble_eq_true rfl) rfl ?_
  refine J_iadd dX9_asked_114 ?_
  refine J_istore (L' := [(7, .int (v7 + r11)), (6, .int (t1 + t0)), (0, .ref 80), (1, .int v1), (3, .int v3), (4, .int v4), (5, .int v5), (8, .int v8)]) dX9_asked_115 (by decide) rfl ?_
  refine J_iinc (j := 7) (v := v8 + 1) (L' := [(8, .int (v8 + 1)), (7, .int (v7 + r11)), (6, .int (t1 + t0)), (0, .ref 80), (1, .int v1), (3, .int v3), (4, .int v4), (5, .int v5)]) dX9_asked_117 rfl rfl (by decide) rfl ?_
  refine J_goto (tgt := 61) dX9_asked_120 (by decide) ?_
  refine J_sub [3, 4, 5, 6, 7, 2, 1, 0] rfl ?_
  exact hK61 _ _ _ _ _ _ _ _ _ _  hF
def B_X9_asked_61 (K61 : Int32 → Int32 → Int32 → Int32 → Int32 → Int32 → Int32 → MM → Option (Int32 × MM)) (v1 : Int32) (v3 : Int32) (v4 : Int32) (v5 : Int32) (v6 : Int32) (v7 : Int32) (v8 : Int32) (m : MM) : Option (Int32 × MM) :=
  if v1 ≤ v8 then
  if v3 = 0 then
  some (v6, m)
  else
  if v6 ≤ v7 then
  B_X9_asked_145 0 m
  else
  B_X9_asked_145 1 m
  else
  if v5 ≤ v6 then
  ob2 (f_X9_takes v8 v8 v4 0 m) (fun r8 m9 =>
  B_X9_asked_98 K61 v1 v3 v4 v5 v7 v8 r8 v6 m9)
  else
  ob2 (f_X9_takesNow v8 v8 m) (fun r14 m15 =>
  B_X9_asked_98 K61 v1 v3 v4 v5 v7 v8 r14 v6 m15)
theorem SB_X9_asked_61 {g : GC} {d : Nat} {K61 : Int32 → Int32 → Int32 → Int32 → Int32 → Int32 → Int32 → MM → Option (Int32 × MM)} {v1 : Int32} {v3 : Int32} {v4 : Int32} {v5 : Int32} {v6 : Int32} {v7 : Int32} {v8 : Int32} {x : MX} {m : MM} {r : Int32} {z : MM} (hd : 108 ≤ d) (hK61 : ∀ (v1 : Int32) (v3 : Int32) (v4 : Int32) (v5 : Int32) (v6 : Int32) (v7 : Int32) (v8 : Int32) (m : MM) (r : Int32) (z : MM), K61 v1 v3 v4 v5 v6 v7 v8 m = some (r, z) → J g m_X9_asked d 0 0 61 [(0, .ref 80), (1, .int v1), (3, .int v3), (4, .int v4), (5, .int v5), (6, .int v6), (7, .int v7), (8, .int v8)] [] (ST x m) 0 0 (EQ (some (.int r)) (ST x z)))
  (hF : B_X9_asked_61 K61 v1 v3 v4 v5 v6 v7 v8 m = some (r, z)) : J g m_X9_asked d 0 0 61 [(0, .ref 80), (1, .int v1), (3, .int v3), (4, .int v4), (5, .int v5), (6, .int v6), (7, .int v7), (8, .int v8)] [] (ST x m) 0 0 (EQ (some (.int r)) (ST x z)) := by
  unfold B_X9_asked_61 at hF
  refine J_iload (j := 7) dX9_asked_61 rfl ?_
  refine J_iload_n (j := 1) dX9_asked_63 rfl rfl ?_
  refine J_icmp_ge (tgt := 123) dX9_asked_64 (by decide) (fun q4 => ?_) (fun q4 => ?_)
  · rw [if_pos q4] at hF
    refine J_iload_n (j := 2) dX9_asked_123 rfl rfl ?_
    refine J_if_ne (tgt := 132) dX9_asked_124 (by decide) (fun q5 => ?_) (fun q5 => ?_)
    · rw [if_neg q5] at hF
      refine J_aload_n (j := 0) dX9_asked_132 rfl rfl ?_
      refine J_iload (j := 6) dX9_asked_133 rfl ?_
      refine J_iload (j := 5) dX9_asked_135 rfl ?_
      refine J_icmp_ge (tgt := 144) dX9_asked_137 (by decide) (fun q6 => ?_) (fun q6 => ?_)
      · rw [if_pos q6] at hF
        refine J_iconst (v := 0) dX9_asked_144 (by decide) ?_
        refine J_sub [] rfl ?_
        exact SB_X9_asked_145 hd hF
      · rw [if_neg q6] at hF
        refine J_iconst (v := 1) dX9_asked_140 (by decide) ?_
        refine J_goto (tgt := 145) dX9_asked_141 (by decide) ?_
        refine J_sub [] rfl ?_
        exact SB_X9_asked_145 hd hF
    · rw [if_pos q5] at hF
      refine J_iload (j := 5) dX9_asked_127 rfl ?_
      refine J_goto (tgt := 148) dX9_asked_129 (by decide) ?_
      obtain ⟨e_r, e_z⟩ := someP hF
      subst e_r
      subst e_z
      exact J_ireturn rfl rfl dX9_asked_148 ⟨rfl, rfl⟩
  · rw [if_neg q4] at hF
    refine J_iload (j := 5) dX9_asked_67 rfl ?_
    refine J_iload (j := 5) dX9_asked_69 rfl ?_
    refine J_iload (j := 4) dX9_asked_71 rfl ?_
    refine J_icmp_ge (tgt := 87) dX9_asked_73 (by decide) (fun q7 => ?_) (fun q7 => ?_)
    · rw [if_pos q7] at hF
      refine J_aload_n (j := 0) dX9_asked_87 rfl rfl ?_
      refine J_iload (j := 7) dX9_asked_88 rfl ?_
      refine J_iload (j := 7) dX9_asked_90 rfl ?_
      refine J_iload (j := 3) dX9_asked_92 rfl ?_
      refine J_iconst (v := 0) dX9_asked_94 (by decide) ?_
      obtain ⟨r8, m9, h10, hF⟩ := ob2_some hF
      refine JM_callVi (As := [.int v8, .int v8, .int v4, .int 0]) (S := [.int v6]) lkV_WithOneHandModel_257_X9_takes rfl (by decide) dX9_asked_95 c_80 (S_X9_takes (by omega) h10) (by omega) rfl rfl (Nat.le_of_ble_eq_true rfl) rfl ?_
      refine J_sub [0, 1, 2, 3, 4, 6, 7] rfl ?_
      exact SB_X9_asked_98 hd hK61 hF
    · rw [if_neg q7] at hF
      refine J_aload_n (j := 0) dX9_asked_76 rfl rfl ?_
      refine J_iload (j := 7) dX9_asked_77 rfl ?_
      refine J_iload (j := 7) dX9_asked_79 rfl ?_
      obtain ⟨r14, m15, h16, hF⟩ := ob2_some hF
      refine JM_callVi (As := [.int v8, .int v8]) (S := [.int v6]) lkV_WithOneHandModel_264_X9_takesNow rfl (by decide) dX9_asked_81 c_80 (S_X9_takesNow (by omega) h16) (by omega) rfl rfl (Nat.le_of_ble_eq_true rfl) rfl ?_
      refine J_goto (tgt := 98) dX9_asked_84 (by decide) ?_
      refine J_sub [0, 1, 2, 3, 4, 6, 7] rfl ?_
      exact SB_X9_asked_98 hd hK61 hF
def f_X9_asked_61  : Nat → Int32 → Int32 → Int32 → Int32 → Int32 → Int32 → Int32 → MM → Option (Int32 × MM)
  | 0 => fun _ _ _ _ _ _ _ _ => none
  | n + 1 => fun v1 v3 v4 v5 v6 v7 v8 m => B_X9_asked_61 (f_X9_asked_61  n) v1 v3 v4 v5 v6 v7 v8 m
theorem Sf_X9_asked_61 {g : GC} {d : Nat} {x : MX} (hd : 108 ≤ d)  : ∀ (n : Nat) (v1 : Int32) (v3 : Int32) (v4 : Int32) (v5 : Int32) (v6 : Int32) (v7 : Int32) (v8 : Int32) (m : MM) (r : Int32) (z : MM), f_X9_asked_61  n v1 v3 v4 v5 v6 v7 v8 m = some (r, z) → J g m_X9_asked d 0 0 61 [(0, .ref 80), (1, .int v1), (3, .int v3), (4, .int v4), (5, .int v5), (6, .int v6), (7, .int v7), (8, .int v8)] [] (ST x m) 0 0 (EQ (some (.int r)) (ST x z)) := by
  intro n
  induction n with
  | zero => intro v1 v3 v4 v5 v6 v7 v8 m r z  hF; exact absurd hF (fun q => by cases q)
  | succ n ih =>
    intro v1 v3 v4 v5 v6 v7 v8 m r z  hF
    exact SB_X9_asked_61 hd (fun v1 v3 v4 v5 v6 v7 v8 m r z  hF => ih v1 v3 v4 v5 v6 v7 v8 m r z  hF) hF
def f_X9_asked (a1 : Int32) (a2 : Int32) (a3 : Int32) (m : MM) : Option (Int32 × MM) :=
  if (f_X9_isIn a1 0 (f_X9_both m)) = true then
  if (f_X9_isIn a2 0 99999) = true then
  if (f_X9_isIn a3 0 1) = true then
  f_X9_asked_61 LF a1 a3 (a2 / 10000) (a2 % 10000) 0 (a2 % 10000) 0 m
  else
  some ((-1), m)
  else
  some ((-1), m)
  else
  some ((-1), m)
theorem S_X9_asked {g : GC} {d : Nat} {a1 : Int32} {a2 : Int32} {a3 : Int32} {x : MX} {m : MM} {r : Int32} {z : MM} (hd : 108 ≤ d) 
  (hF : f_X9_asked a1 a2 a3 m = some (r, z)) : JC g m_X9_asked d 0 0 [.ref 80, .int a1, .int a2, .int a3] (ST x m) (EQ (some (.int r)) (ST x z)) := by
  refine JC.of (by decide +kernel) (Nat.le_of_ble_eq_true rfl) ?_
  change J g m_X9_asked d 0 0 0 [(0, .ref 80), (1, .int a1), (2, .int a2), (3, .int a3)] [] (ST x m) 0 0 (EQ (some (.int r)) (ST x z))
  unfold f_X9_asked at hF
  refine J_aload_n (j := 0) dX9_asked_0 rfl rfl ?_
  refine J_iload_n (j := 1) dX9_asked_1 rfl rfl ?_
  refine J_iconst (v := 0) dX9_asked_2 (by decide) ?_
  refine J_aload_n (j := 0) dX9_asked_3 rfl rfl ?_
  refine JM_callVi (As := []) (S := [.int 0, .int a1, .ref 80]) lkV_WithOneHandModel_287_X9_both rfl (by decide) dX9_asked_4 c_80 (S_X9_both (by omega) rfl) (by omega) rfl rfl (Nat.le_of_ble_eq_true rfl) rfl ?_
  refine JM_callVi (As := [.int a1, .int 0, .int (f_X9_both m)]) (S := []) lkV_WithOneHandModel_114_X9_isIn rfl (by decide) dX9_asked_7 c_80 (S_X9_isIn (by omega) rfl) (by omega) rfl rfl (Nat.le_of_ble_eq_true rfl) rfl ?_
  refine J_ifb_eq (tgt := 35) dX9_asked_10 (by decide) (fun q1 => ?_) (fun q1 => ?_)
  · rw [if_neg q1] at hF
    refine J_iconst (v := (-1)) dX9_asked_35 (by decide) ?_
    obtain ⟨e_r, e_z⟩ := someP hF
    subst e_r
    subst e_z
    exact J_ireturn rfl rfl dX9_asked_36 ⟨rfl, rfl⟩
  · rw [if_pos q1] at hF
    refine J_aload_n (j := 0) dX9_asked_13 rfl rfl ?_
    refine J_iload_n (j := 2) dX9_asked_14 rfl rfl ?_
    refine J_iconst (v := 0) dX9_asked_15 (by decide) ?_
    refine J_ldc_w (v := 99999) (tb 1325 (by decide +kernel)) dX9_asked_16 ?_
    refine JM_callVi (As := [.int a2, .int 0, .int 99999]) (S := []) lkV_WithOneHandModel_114_X9_isIn rfl (by decide) dX9_asked_19 c_80 (S_X9_isIn (by omega) rfl) (by omega) rfl rfl (Nat.le_of_ble_eq_true rfl) rfl ?_
    refine J_ifb_eq (tgt := 35) dX9_asked_22 (by decide) (fun q2 => ?_) (fun q2 => ?_)
    · rw [if_neg q2] at hF
      refine J_iconst (v := (-1)) dX9_asked_35 (by decide) ?_
      obtain ⟨e_r, e_z⟩ := someP hF
      subst e_r
      subst e_z
      exact J_ireturn rfl rfl dX9_asked_36 ⟨rfl, rfl⟩
    · rw [if_pos q2] at hF
      refine J_aload_n (j := 0) dX9_asked_25 rfl rfl ?_
      refine J_iload_n (j := 3) dX9_asked_26 rfl rfl ?_
      refine J_iconst (v := 0) dX9_asked_27 (by decide) ?_
      refine J_iconst (v := 1) dX9_asked_28 (by decide) ?_
      refine JM_callVi (As := [.int a3, .int 0, .int 1]) (S := []) lkV_WithOneHandModel_114_X9_isIn rfl (by decide) dX9_asked_29 c_80 (S_X9_isIn (by omega) rfl) (by omega) rfl rfl (Nat.le_of_ble_eq_true rfl) rfl ?_
      refine J_ifb_ne (tgt := 37) dX9_asked_32 (by decide) (fun q3 => ?_) (fun q3 => ?_)
      · rw [if_pos q3] at hF
        refine J_iload_n (j := 2) dX9_asked_37 rfl rfl ?_
        refine J_sipush (v := 10000) dX9_asked_38 (by decide) ?_
        refine J_idiv dX9_asked_41 (by decide) ?_
        refine J_istore (L' := [(4, .int (a2 / 10000)), (0, .ref 80), (1, .int a1), (2, .int a2), (3, .int a3)]) dX9_asked_42 (by decide) rfl ?_
        refine J_iload_n (j := 3) dX9_asked_44 rfl rfl ?_
        refine J_sipush (v := 10000) dX9_asked_45 (by decide) ?_
        refine J_irem dX9_asked_48 (by decide) ?_
        refine J_istore (L' := [(5, .int (a2 % 10000)), (4, .int (a2 / 10000)), (0, .ref 80), (1, .int a1), (2, .int a2), (3, .int a3)]) dX9_asked_49 (by decide) rfl ?_
        refine J_iconst (v := 0) dX9_asked_51 (by decide) ?_
        refine J_istore (L' := [(6, .int 0), (5, .int (a2 % 10000)), (4, .int (a2 / 10000)), (0, .ref 80), (1, .int a1), (2, .int a2), (3, .int a3)]) dX9_asked_52 (by decide) rfl ?_
        refine J_iload (j := 1) dX9_asked_54 rfl ?_
        refine J_istore (L' := [(7, .int (a2 % 10000)), (6, .int 0), (5, .int (a2 % 10000)), (4, .int (a2 / 10000)), (0, .ref 80), (1, .int a1), (2, .int a2), (3, .int a3)]) dX9_asked_56 (by decide) rfl ?_
        refine J_iconst (v := 0) dX9_asked_58 (by decide) ?_
        refine J_istore (L' := [(8, .int 0), (7, .int (a2 % 10000)), (6, .int 0), (5, .int (a2 % 10000)), (4, .int (a2 / 10000)), (0, .ref 80), (1, .int a1), (2, .int a2), (3, .int a3)]) dX9_asked_59 (by decide) rfl ?_
        refine J_sub [5, 6, 8, 4, 3, 2, 1, 0] rfl ?_
        exact Sf_X9_asked_61 hd _ _ _ _ _ _ _ _ _ _ _ hF
      · rw [if_neg q3] at hF
        refine J_iconst (v := (-1)) dX9_asked_35 (by decide) ?_
        obtain ⟨e_r, e_z⟩ := someP hF
        subst e_r
        subst e_z
        exact J_ireturn rfl rfl dX9_asked_36 ⟨rfl, rfl⟩
def B_X8_takesAlone_35 (K4 : Int32 → Int32 → Int32 → MX → Option (Int32 × MX)) (v1 : Int32) (v3 : Int32) (t0 : Int32) (t1 : Int32) (t2 : Int32) (t4 : Int32) (x : MX) : Option (Int32 × MX) :=
  ob2 (f_X8_takesBySkill t2 t1 t0 0 x) (fun r4 x5 =>
  K4 v1 (t4 + r4) (v3 + 1) x5)
theorem SB_X8_takesAlone_35 {g : GC} {d : Nat} {K4 : Int32 → Int32 → Int32 → MX → Option (Int32 × MX)} {v1 : Int32} {v3 : Int32} {t0 : Int32} {t1 : Int32} {t2 : Int32} {t4 : Int32} {x : MX} {m : MM} {r : Int32} {z : MX} (hd : 5 ≤ d) (hK4 : ∀ (v1 : Int32) (v2 : Int32) (v3 : Int32) (x : MX) (r : Int32) (z : MX), K4 v1 v2 v3 x = some (r, z) → J g m_X8_takesAlone d 0 0 4 [(0, .ref 5), (1, .int v1), (2, .int v2), (3, .int v3)] [] (ST x m) 0 0 (EQ (some (.int r)) (ST z m)))
  (hF : B_X8_takesAlone_35 K4 v1 v3 t0 t1 t2 t4 x = some (r, z)) : J g m_X8_takesAlone d 0 0 35 [(0, .ref 5), (1, .int v1), (3, .int v3)] [.int t0, .int t1, .int t2, .ref 5, .int t4] (ST x m) 0 0 (EQ (some (.int r)) (ST z m)) := by
  unfold B_X8_takesAlone_35 at hF
  refine J_iconst (v := 0) dX8_takesAlone_35 (by decide) ?_
  obtain ⟨r4, x5, h6, hF⟩ := ob2_some hF
  refine JX_callVi (As := [.int t2, .int t1, .int t0, .int 0]) (S := [.int t4]) lkV_WithOneHand_210_X8_takesBySkill rfl (by decide) dX8_takesAlone_36 c_5 (S_X8_takesBySkill (by omega) h6) (by omega) rfl rfl (Nat.le_of_ble_eq_true rfl) rfl ?_
  refine J_iadd dX8_takesAlone_39 ?_
  refine J_istore_n (L' := [(2, .int (t4 + r4)), (0, .ref 5), (1, .int v1), (3, .int v3)]) dX8_takesAlone_40 rfl (by decide) rfl ?_
  refine J_iinc (j := 3) (v := v3 + 1) (L' := [(3, .int (v3 + 1)), (2, .int (t4 + r4)), (0, .ref 5), (1, .int v1)]) dX8_takesAlone_41 rfl rfl (by decide) rfl ?_
  refine J_goto (tgt := 4) dX8_takesAlone_44 (by decide) ?_
  refine J_sub [2, 3, 1, 0] rfl ?_
  exact hK4 _ _ _ _ _ _  hF
def B_X8_takesAlone_4 (K4 : Int32 → Int32 → Int32 → MX → Option (Int32 × MX)) (v1 : Int32) (v2 : Int32) (v3 : Int32) (x : MX) : Option (Int32 × MX) :=
  if 2 ≤ v3 then
  some (v2, x)
  else
  if inb v3 8 = true then
  if (xi x 11 (ix v3)) = 0 then
  B_X8_takesAlone_35 K4 v1 v3 (v1 / 10) v3 v3 v2 x
  else
  B_X8_takesAlone_35 K4 v1 v3 (v1 % 10) v3 v3 v2 x
  else none
theorem SB_X8_takesAlone_4 {g : GC} {d : Nat} {K4 : Int32 → Int32 → Int32 → MX → Option (Int32 × MX)} {v1 : Int32} {v2 : Int32} {v3 : Int32} {x : MX} {m : MM} {r : Int32} {z : MX} (hd : 5 ≤ d) (hK4 : ∀ (v1 : Int32) (v2 : Int32) (v3 : Int32) (x : MX) (r : Int32) (z : MX), K4 v1 v2 v3 x = some (r, z) → J g m_X8_takesAlone d 0 0 4 [(0, .ref 5), (1, .int v1), (2, .int v2), (3, .int v3)] [] (ST x m) 0 0 (EQ (some (.int r)) (ST z m)))
  (hF : B_X8_takesAlone_4 K4 v1 v2 v3 x = some (r, z)) : J g m_X8_takesAlone d 0 0 4 [(0, .ref 5), (1, .int v1), (2, .int v2), (3, .int v3)] [] (ST x m) 0 0 (EQ (some (.int r)) (ST z m)) := by
  unfold B_X8_takesAlone_4 at hF
  refine J_iload_n (j := 3) dX8_takesAlone_4 rfl rfl ?_
  refine J_iconst (v := 2) dX8_takesAlone_5 (by decide) ?_
  refine J_icmp_ge (tgt := 47) dX8_takesAlone_6 (by decide) (fun q1 => ?_) (fun q1 => ?_)
  · rw [if_pos q1] at hF
    refine J_iload_n (j := 2) dX8_takesAlone_47 rfl rfl ?_
    obtain ⟨e_r, e_z⟩ := someP hF
    subst e_r
    subst e_z
    exact J_ireturn rfl rfl dX8_takesAlone_48 ⟨rfl, rfl⟩
  · rw [if_neg q1] at hF
    refine J_iload_n (j := 2) dX8_takesAlone_9 rfl rfl ?_
    refine J_aload_n (j := 0) dX8_takesAlone_10 rfl rfl ?_
    refine J_iload_n (j := 3) dX8_takesAlone_11 rfl rfl ?_
    refine J_iload_n (j := 3) dX8_takesAlone_12 rfl rfl ?_
    refine J_aload_n (j := 0) dX8_takesAlone_13 rfl rfl ?_
    refine JX_getR (r := 6) fl_WithOneHand_11_7 dX8_takesAlone_14 c_5 rfl rfl ?_
    refine J_iconst (v := 4) dX8_takesAlone_17 (by decide) ?_
    refine JX_aald (j := 4) (r := 11) (by decide) dX8_takesAlone_18 c_6 (by unfold vp_in; decide) (by decide) rfl ?_
    refine J_iload_n (j := 3) dX8_takesAlone_19 rfl rfl ?_
    obtain ⟨b2, hF⟩ := chk hF
    refine JX_iald (j := ix v3) dX8_takesAlone_20 c_11 (inb_vp b2) rfl ?_
    refine J_if_ne (tgt := 31) dX8_takesAlone_21 (by decide) (fun q3 => ?_) (fun q3 => ?_)
    · rw [if_neg q3] at hF
      refine J_iload_n (j := 1) dX8_takesAlone_31 rfl rfl ?_
      refine J_bipush (v := 10) dX8_takesAlone_32 (by decide) ?_
      refine J_irem dX8_takesAlone_34 (by decide) ?_
      refine J_sub [0, 1, 3] rfl ?_
      exact SB_X8_takesAlone_35 hd hK4 hF
    · rw [if_pos q3] at hF
      refine J_iload_n (j := 1) dX8_takesAlone_24 rfl rfl ?_
      refine J_bipush (v := 10) dX8_takesAlone_25 (by decide) ?_
      refine J_idiv dX8_takesAlone_27 (by decide) ?_
      refine J_goto (tgt := 35) dX8_takesAlone_28 (by decide) ?_
      refine J_sub [0, 1, 3] rfl ?_
      exact SB_X8_takesAlone_35 hd hK4 hF
def f_X8_takesAlone_4  : Nat → Int32 → Int32 → Int32 → MX → Option (Int32 × MX)
  | 0 => fun _ _ _ _ => none
  | n + 1 => fun v1 v2 v3 x => B_X8_takesAlone_4 (f_X8_takesAlone_4  n) v1 v2 v3 x
theorem Sf_X8_takesAlone_4 {g : GC} {d : Nat} {m : MM} (hd : 5 ≤ d)  : ∀ (n : Nat) (v1 : Int32) (v2 : Int32) (v3 : Int32) (x : MX) (r : Int32) (z : MX), f_X8_takesAlone_4  n v1 v2 v3 x = some (r, z) → J g m_X8_takesAlone d 0 0 4 [(0, .ref 5), (1, .int v1), (2, .int v2), (3, .int v3)] [] (ST x m) 0 0 (EQ (some (.int r)) (ST z m)) := by
  intro n
  induction n with
  | zero => intro v1 v2 v3 x r z  hF; exact absurd hF (fun q => by cases q)
  | succ n ih =>
    intro v1 v2 v3 x r z  hF
    exact SB_X8_takesAlone_4 hd (fun v1 v2 v3 x r z  hF => ih v1 v2 v3 x r z  hF) hF
def f_X8_takesAlone (a1 : Int32) (x : MX) : Option (Int32 × MX) :=
  f_X8_takesAlone_4 LF a1 0 0 x
theorem S_X8_takesAlone {g : GC} {d : Nat} {a1 : Int32} {x : MX} {m : MM} {r : Int32} {z : MX} (hd : 5 ≤ d) 
  (hF : f_X8_takesAlone a1 x = some (r, z)) : JC g m_X8_takesAlone d 0 0 [.ref 5, .int a1] (ST x m) (EQ (some (.int r)) (ST z m)) := by
  refine JC.of (by decide +kernel) (Nat.le_of_ble_eq_true rfl) ?_
  change J g m_X8_takesAlone d 0 0 0 [(0, .ref 5), (1, .int a1)] [] (ST x m) 0 0 (EQ (some (.int r)) (ST z m))
  unfold f_X8_takesAlone at hF
  refine J_iconst (v := 0) dX8_takesAlone_0 (by decide) ?_
  refine J_istore_n (L' := [(2, .int 0), (0, .ref 5), (1, .int a1)]) dX8_takesAlone_1 rfl (by decide) rfl ?_
  refine J_iconst (v := 0) dX8_takesAlone_2 (by decide) ?_
  refine J_istore_n (L' := [(3, .int 0), (2, .int 0), (0, .ref 5), (1, .int a1)]) dX8_takesAlone_3 rfl (by decide) rfl ?_
  refine J_sub [2, 3, 1, 0] rfl ?_
  exact Sf_X8_takesAlone_4 hd _ _ _ _ _ _ _ hF
def f_X8_takesHelping (a1 : Int32) (x : MX) : Option (Int32 × MX) :=
  ob2 (f_X8_takesBySkill 0 0 (imax (a1 / 10) (a1 % 10)) 0 x) (fun r1 x2 =>
  ob2 (f_X8_takesBySkill 1 1 (imax (a1 / 10) (a1 % 10)) 0 x2) (fun r4 x5 =>
  some (r1 + r4, x5)))
theorem S_X8_takesHelping {g : GC} {d : Nat} {a1 : Int32} {x : MX} {m : MM} {r : Int32} {z : MX} (hd : 5 ≤ d) 
  (hF : f_X8_takesHelping a1 x = some (r, z)) : JC g m_X8_takesHelping d 0 0 [.ref 5, .int a1] (ST x m) (EQ (some (.int r)) (ST z m)) := by
  refine JC.of (by decide +kernel) (Nat.le_of_ble_eq_true rfl) ?_
  change J g m_X8_takesHelping d 0 0 0 [(0, .ref 5), (1, .int a1)] [] (ST x m) 0 0 (EQ (some (.int r)) (ST z m))
  unfold f_X8_takesHelping at hF
  refine J_iload_n (j := 1) dX8_takesHelping_0 rfl rfl ?_
  refine J_bipush (v := 10) dX8_takesHelping_1 (by decide) ?_
  refine J_idiv dX8_takesHelping_3 (by decide) ?_
  refine J_iload_n (j := 1) dX8_takesHelping_4 rfl rfl ?_
  refine J_bipush (v := 10) dX8_takesHelping_5 (by decide) ?_
  refine J_irem dX8_takesHelping_7 (by decide) ?_
  refine J_mmax (S := []) (tb 505 (by decide +kernel)) dX8_takesHelping_8 (Nat.le_of_ble_eq_true rfl) ?_
  refine J_istore_n (L' := [(2, .int (imax (a1 / 10) (a1 % 10))), (0, .ref 5), (1, .int a1)]) dX8_takesHelping_11 rfl (by decide) rfl ?_
  refine J_aload_n (j := 1) dX8_takesHelping_12 rfl rfl ?_
  refine J_iconst (v := 0) dX8_takesHelping_13 (by decide) ?_
  refine J_iconst (v := 0) dX8_takesHelping_14 (by decide) ?_
  refine J_iload_n (j := 0) dX8_takesHelping_15 rfl rfl ?_
  refine J_iconst (v := 0) dX8_takesHelping_16 (by decide) ?_
  obtain ⟨r1, x2, h3, hF⟩ := ob2_some hF
  refine JX_callVi (As := [.int 0, .int 0, .int (imax (a1 / 10) (a1 % 10)), .int 0]) (S := []) lkV_WithOneHand_210_X8_takesBySkill rfl (by decide) dX8_takesHelping_17 c_5 (S_X8_takesBySkill (by omega) h3) (by omega) rfl rfl (Nat.le_of_ble_eq_true rfl) rfl ?_
  refine J_aload_n (j := 1) dX8_takesHelping_20 rfl rfl ?_
  refine J_iconst (v := 1) dX8_takesHelping_21 (by decide) ?_
  refine J_iconst (v := 1) dX8_takesHelping_22 (by decide) ?_
  refine J_iload_n (j := 0) dX8_takesHelping_23 rfl rfl ?_
  refine J_iconst (v := 0) dX8_takesHelping_24 (by decide) ?_
  obtain ⟨r4, x5, h6, hF⟩ := ob2_some hF
  refine JX_callVi (As := [.int 1, .int 1, .int (imax (a1 / 10) (a1 % 10)), .int 0]) (S := [.int r1]) lkV_WithOneHand_210_X8_takesBySkill rfl (by decide) dX8_takesHelping_25 c_5 (S_X8_takesBySkill (by omega) h6) (by omega) rfl rfl (Nat.le_of_ble_eq_true rfl) rfl ?_
  refine J_iadd dX8_takesHelping_28 ?_
  obtain ⟨e_r, e_z⟩ := someP hF
  subst e_r
  subst e_z
  exact J_ireturn rfl rfl dX8_takesHelping_29 ⟨rfl, rfl⟩
def f_X8_two (a1 : Int32) (a2 : Int32) (a3 : Int32) (x : MX) : Option (Int32 × MX) :=
  if a1 < 0 then
  some ((-1), x)
  else
  if 99 < a1 then
  some ((-1), x)
  else
  if a2 < 0 then
  some ((-1), x)
  else
  if 99 < a2 then
  some ((-1), x)
  else
  if a3 < 0 then
  some ((-1), x)
  else
  if a3 ≤ 2 then
  if (xi x 5 12) < 2 then
  some ((-5), x)
  else
  if 2 ≤ (xi x 5 13) then
  ob2 (f_X8_takesAlone a1 x) (fun r9 x10 =>
  ob2 (f_X8_takesAlone a2 x10) (fun r12 x13 =>
  ob2 (f_X8_takesHelping a1 x13) (fun r15 x16 =>
  ob2 (f_X8_takesHelping a2 x16) (fun r18 x19 =>
  if a3 = 0 then
  some (imax r9 r12, x19)
  else
  if a3 = 1 then
  some (r15 + r18, x19)
  else
  if (imax r9 r12) ≤ (r15 + r18) then
  some (0, x19)
  else
  some (1, x19)))))
  else
  some ((-5), x)
  else
  some ((-1), x)
theorem S_X8_two {g : GC} {d : Nat} {a1 : Int32} {a2 : Int32} {a3 : Int32} {x : MX} {m : MM} {r : Int32} {z : MX} (hd : 6 ≤ d) 
  (hF : f_X8_two a1 a2 a3 x = some (r, z)) : JC g m_X8_two d 0 0 [.ref 5, .int a1, .int a2, .int a3] (ST x m) (EQ (some (.int r)) (ST z m)) := by
  refine JC.of (by decide +kernel) (Nat.le_of_ble_eq_true rfl) ?_
  change J g m_X8_two d 0 0 0 [(0, .ref 5), (1, .int a1), (2, .int a2), (3, .int a3)] [] (ST x m) 0 0 (EQ (some (.int r)) (ST z m))
  unfold f_X8_two at hF
  refine J_iload_n (j := 1) dX8_two_0 rfl rfl ?_
  refine J_if_lt (tgt := 29) dX8_two_1 (by decide) (fun q1 => ?_) (fun q1 => ?_)
  · rw [if_pos q1] at hF
    refine J_iconst (v := (-1)) dX8_two_29 (by decide) ?_
    obtain ⟨e_r, e_z⟩ := someP hF
    subst e_r
    subst e_z
    exact J_ireturn rfl rfl dX8_two_30 ⟨rfl, rfl⟩
  · rw [if_neg q1] at hF
    refine J_iload_n (j := 1) dX8_two_4 rfl rfl ?_
    refine J_bipush (v := 99) dX8_two_5 (by decide) ?_
    refine J_icmp_gt (tgt := 29) dX8_two_7 (by decide) (fun q2 => ?_) (fun q2 => ?_)
    · rw [if_pos q2] at hF
      refine J_iconst (v := (-1)) dX8_two_29 (by decide) ?_
      obtain ⟨e_r, e_z⟩ := someP hF
      subst e_r
      subst e_z
      exact J_ireturn rfl rfl dX8_two_30 ⟨rfl, rfl⟩
    · rw [if_neg q2] at hF
      refine J_iload_n (j := 2) dX8_two_10 rfl rfl ?_
      refine J_if_lt (tgt := 29) dX8_two_11 (by decide) (fun q3 => ?_) (fun q3 => ?_)
      · rw [if_pos q3] at hF
        refine J_iconst (v := (-1)) dX8_two_29 (by decide) ?_
        obtain ⟨e_r, e_z⟩ := someP hF
        subst e_r
        subst e_z
        exact J_ireturn rfl rfl dX8_two_30 ⟨rfl, rfl⟩
      · rw [if_neg q3] at hF
        refine J_iload_n (j := 2) dX8_two_14 rfl rfl ?_
        refine J_bipush (v := 99) dX8_two_15 (by decide) ?_
        refine J_icmp_gt (tgt := 29) dX8_two_17 (by decide) (fun q4 => ?_) (fun q4 => ?_)
        · rw [if_pos q4] at hF
          refine J_iconst (v := (-1)) dX8_two_29 (by decide) ?_
          obtain ⟨e_r, e_z⟩ := someP hF
          subst e_r
          subst e_z
          exact J_ireturn rfl rfl dX8_two_30 ⟨rfl, rfl⟩
        · rw [if_neg q4] at hF
          refine J_iload_n (j := 3) dX8_two_20 rfl rfl ?_
          refine J_if_lt (tgt := 29) dX8_two_21 (by decide) (fun q5 => ?_) (fun q5 => ?_)
          · rw [if_pos q5] at hF
            refine J_iconst (v := (-1)) dX8_two_29 (by decide) ?_
            obtain ⟨e_r, e_z⟩ := someP hF
            subst e_r
            subst e_z
            exact J_ireturn rfl rfl dX8_two_30 ⟨rfl, rfl⟩
          · rw [if_neg q5] at hF
            refine J_iload_n (j := 3) dX8_two_24 rfl rfl ?_
            refine J_iconst (v := 2) dX8_two_25 (by decide) ?_
            refine J_icmp_le (tgt := 31) dX8_two_26 (by decide) (fun q6 => ?_) (fun q6 => ?_)
            · rw [if_pos q6] at hF
              refine J_aload_n (j := 0) dX8_two_31 rfl rfl ?_
              refine JX_getI fl_WithOneHand_80_7 dX8_two_32 c_5 rfl ?_
              refine J_iconst (v := 2) dX8_two_35 (by decide) ?_
              refine J_icmp_lt (tgt := 47) dX8_two_36 (by decide) (fun q7 => ?_) (fun q7 => ?_)
              · rw [if_pos q7] at hF
                refine J_bipush (v := (-5)) dX8_two_47 (by decide) ?_
                obtain ⟨e_r, e_z⟩ := someP hF
                subst e_r
                subst e_z
                exact J_ireturn rfl rfl dX8_two_49 ⟨rfl, rfl⟩
              · rw [if_neg q7] at hF
                refine J_aload_n (j := 0) dX8_two_39 rfl rfl ?_
                refine JX_getI fl_WithOneHand_84_7 dX8_two_40 c_5 rfl ?_
                refine J_iconst (v := 2) dX8_two_43 (by decide) ?_
                refine J_icmp_ge (tgt := 50) dX8_two_44 (by decide) (fun q8 => ?_) (fun q8 => ?_)
                · rw [if_pos q8] at hF
                  refine J_aload_n (j := 0) dX8_two_50 rfl rfl ?_
                  refine J_iload_n (j := 1) dX8_two_51 rfl rfl ?_
                  obtain ⟨r9, x10, h11, hF⟩ := ob2_some hF
                  refine JX_callVi (As := [.int a1]) (S := []) lkV_WithOneHand_213_X8_takesAlone rfl (by decide) dX8_two_52 c_5 (S_X8_takesAlone (by omega) h11) (by omega) rfl rfl (Nat.le_of_ble_eq_true rfl) rfl ?_
                  refine J_aload_n (j := 0) dX8_two_55 rfl rfl ?_
                  refine J_iload_n (j := 2) dX8_two_56 rfl rfl ?_
                  obtain ⟨r12, x13, h14, hF⟩ := ob2_some hF
                  refine JX_callVi (As := [.int a2]) (S := [.int r9]) lkV_WithOneHand_213_X8_takesAlone rfl (by decide) dX8_two_57 c_5 (S_X8_takesAlone (by omega) h14) (by omega) rfl rfl (Nat.le_of_ble_eq_true rfl) rfl ?_
                  refine J_mmax (S := []) (tb 505 (by decide +kernel)) dX8_two_60 (Nat.le_of_ble_eq_true rfl) ?_
                  refine J_istore (L' := [(4, .int (imax r9 r12)), (0, .ref 5), (1, .int a1), (2, .int a2), (3, .int a3)]) dX8_two_63 (by decide) rfl ?_
                  refine J_aload_n (j := 1) dX8_two_65 rfl rfl ?_
                  refine J_iload_n (j := 2) dX8_two_66 rfl rfl ?_
                  obtain ⟨r15, x16, h17, hF⟩ := ob2_some hF
                  refine JX_callVi (As := [.int a1]) (S := []) lkV_WithOneHand_221_X8_takesHelping rfl (by decide) dX8_two_67 c_5 (S_X8_takesHelping (by omega) h17) (by omega) rfl rfl (Nat.le_of_ble_eq_true rfl) rfl ?_
                  refine J_aload_n (j := 1) dX8_two_70 rfl rfl ?_
                  refine J_iload_n (j := 3) dX8_two_71 rfl rfl ?_
                  obtain ⟨r18, x19, h20, hF⟩ := ob2_some hF
                  refine JX_callVi (As := [.int a2]) (S := [.int r15]) lkV_WithOneHand_221_X8_takesHelping rfl (by decide) dX8_two_72 c_5 (S_X8_takesHelping (by omega) h20) (by omega) rfl rfl (Nat.le_of_ble_eq_true rfl) rfl ?_
                  refine J_iadd dX8_two_75 ?_
                  refine J_istore (L' := [(5, .int (r15 + r18)), (4, .int (imax r9 r12)), (0, .ref 5), (1, .int a1), (2, .int a2), (3, .int a3)]) dX8_two_76 (by decide) rfl ?_
                  refine J_iload_n (j := 5) dX8_two_78 rfl rfl ?_
                  refine J_lsw (td := 110) (cs := [(0, 104), (1, 107)]) dX8_two_79 (by decide +kernel) (by decide) (by decide) (by decide +kernel) ?_
                  refine J_sw (fun q21 => ?_) (fun q21 => ?_)
                  · rw [if_pos q21] at hF
                    refine J_iload (j := 1) dX8_two_104 rfl ?_
                    obtain ⟨e_r, e_z⟩ := someP hF
                    subst e_r
                    subst e_z
                    exact J_ireturn rfl rfl dX8_two_106 ⟨rfl, rfl⟩
                  rw [if_neg q21] at hF
                  refine J_sw (fun q22 => ?_) (fun q22 => ?_)
                  · rw [if_pos q22] at hF
                    refine J_iload (j := 0) dX8_two_107 rfl ?_
                    obtain ⟨e_r, e_z⟩ := someP hF
                    subst e_r
                    subst e_z
                    exact J_ireturn rfl rfl dX8_two_109 ⟨rfl, rfl⟩
                  rw [if_neg q22] at hF
                  refine J_swd ?_
                  refine J_iload (j := 0) dX8_two_110 rfl ?_
                  refine J_iload (j := 1) dX8_two_112 rfl ?_
                  refine J_icmp_ge (tgt := 121) dX8_two_114 (by decide) (fun q23 => ?_) (fun q23 => ?_)
                  · rw [if_pos q23] at hF
                    refine J_iconst (v := 0) dX8_two_121 (by decide) ?_
                    obtain ⟨e_r, e_z⟩ := someP hF
                    subst e_r
                    subst e_z
                    exact J_ireturn rfl rfl dX8_two_122 ⟨rfl, rfl⟩
                  · rw [if_neg q23] at hF
                    refine J_iconst (v := 1) dX8_two_117 (by decide) ?_
                    refine J_goto (tgt := 122) dX8_two_118 (by decide) ?_
                    obtain ⟨e_r, e_z⟩ := someP hF
                    subst e_r
                    subst e_z
                    exact J_ireturn rfl rfl dX8_two_122 ⟨rfl, rfl⟩
                · rw [if_neg q8] at hF
                  refine J_bipush (v := (-5)) dX8_two_47 (by decide) ?_
                  obtain ⟨e_r, e_z⟩ := someP hF
                  subst e_r
                  subst e_z
                  exact J_ireturn rfl rfl dX8_two_49 ⟨rfl, rfl⟩
            · rw [if_neg q6] at hF
              refine J_iconst (v := (-1)) dX8_two_29 (by decide) ?_
              obtain ⟨e_r, e_z⟩ := someP hF
              subst e_r
              subst e_z
              exact J_ireturn rfl rfl dX8_two_30 ⟨rfl, rfl⟩
def B_X9_alone_33 (K4 : Int32 → Int32 → Int32 → MM → Option (Int32 × MM)) (v1 : Int32) (v3 : Int32) (t0 : Int32) (t1 : Int32) (t2 : Int32) (t4 : Int32) (m : MM) : Option (Int32 × MM) :=
  ob2 (f_X9_takes t2 t1 t0 0 m) (fun r4 m5 =>
  K4 v1 (t4 + r4) (v3 + 1) m5)
theorem SB_X9_alone_33 {g : GC} {d : Nat} {K4 : Int32 → Int32 → Int32 → MM → Option (Int32 × MM)} {v1 : Int32} {v3 : Int32} {t0 : Int32} {t1 : Int32} {t2 : Int32} {t4 : Int32} {x : MX} {m : MM} {r : Int32} {z : MM} (hd : 107 ≤ d) (hK4 : ∀ (v1 : Int32) (v2 : Int32) (v3 : Int32) (m : MM) (r : Int32) (z : MM), K4 v1 v2 v3 m = some (r, z) → J g m_X9_alone d 0 0 4 [(0, .ref 80), (1, .int v1), (2, .int v2), (3, .int v3)] [] (ST x m) 0 0 (EQ (some (.int r)) (ST x z)))
  (hF : B_X9_alone_33 K4 v1 v3 t0 t1 t2 t4 m = some (r, z)) : J g m_X9_alone d 0 0 33 [(0, .ref 80), (1, .int v1), (3, .int v3)] [.int t0, .int t1, .int t2, .ref 80, .int t4] (ST x m) 0 0 (EQ (some (.int r)) (ST x z)) := by
  unfold B_X9_alone_33 at hF
  refine J_iconst (v := 0) dX9_alone_33 (by decide) ?_
  obtain ⟨r4, m5, h6, hF⟩ := ob2_some hF
  refine JM_callVi (As := [.int t2, .int t1, .int t0, .int 0]) (S := [.int t4]) lkV_WithOneHandModel_257_X9_takes rfl (by decide) dX9_alone_34 c_80 (S_X9_takes (by omega) h6) (by omega) rfl rfl (Nat.le_of_ble_eq_true rfl) rfl ?_
  refine J_iadd dX9_alone_37 ?_
  refine J_istore_n (L' := [(2, .int (t4 + r4)), (0, .ref 80), (1, .int v1), (3, .int v3)]) dX9_alone_38 rfl (by decide) rfl ?_
  refine J_iinc (j := 3) (v := v3 + 1) (L' := [(3, .int (v3 + 1)), (2, .int (t4 + r4)), (0, .ref 80), (1, .int v1)]) dX9_alone_39 rfl rfl (by decide) rfl ?_
  refine J_goto (tgt := 4) dX9_alone_42 (by decide) ?_
  refine J_sub [2, 3, 1, 0] rfl ?_
  exact hK4 _ _ _ _ _ _  hF
def B_X9_alone_4 (K4 : Int32 → Int32 → Int32 → MM → Option (Int32 × MM)) (v1 : Int32) (v2 : Int32) (v3 : Int32) (m : MM) : Option (Int32 × MM) :=
  if 2 ≤ v3 then
  some (v2, m)
  else
  if inb v3 6 = true then
  if (mi m 85 (ix v3)) = 0 then
  B_X9_alone_33 K4 v1 v3 (v1 / 10) v3 v3 v2 m
  else
  B_X9_alone_33 K4 v1 v3 (v1 % 10) v3 v3 v2 m
  else none
theorem SB_X9_alone_4 {g : GC} {d : Nat} {K4 : Int32 → Int32 → Int32 → MM → Option (Int32 × MM)} {v1 : Int32} {v2 : Int32} {v3 : Int32} {x : MX} {m : MM} {r : Int32} {z : MM} (hd : 107 ≤ d) (hK4 : ∀ (v1 : Int32) (v2 : Int32) (v3 : Int32) (m : MM) (r : Int32) (z : MM), K4 v1 v2 v3 m = some (r, z) → J g m_X9_alone d 0 0 4 [(0, .ref 80), (1, .int v1), (2, .int v2), (3, .int v3)] [] (ST x m) 0 0 (EQ (some (.int r)) (ST x z)))
  (hF : B_X9_alone_4 K4 v1 v2 v3 m = some (r, z)) : J g m_X9_alone d 0 0 4 [(0, .ref 80), (1, .int v1), (2, .int v2), (3, .int v3)] [] (ST x m) 0 0 (EQ (some (.int r)) (ST x z)) := by
  unfold B_X9_alone_4 at hF
  refine J_iload_n (j := 3) dX9_alone_4 rfl rfl ?_
  refine J_iconst (v := 2) dX9_alone_5 (by decide) ?_
  refine J_icmp_ge (tgt := 45) dX9_alone_6 (by decide) (fun q1 => ?_) (fun q1 => ?_)
  · rw [if_pos q1] at hF
    refine J_iload_n (j := 2) dX9_alone_45 rfl rfl ?_
    obtain ⟨e_r, e_z⟩ := someP hF
    subst e_r
    subst e_z
    exact J_ireturn rfl rfl dX9_alone_46 ⟨rfl, rfl⟩
  · rw [if_neg q1] at hF
    refine J_iload_n (j := 2) dX9_alone_9 rfl rfl ?_
    refine J_aload_n (j := 0) dX9_alone_10 rfl rfl ?_
    refine J_iload_n (j := 3) dX9_alone_11 rfl rfl ?_
    refine J_iload_n (j := 3) dX9_alone_12 rfl rfl ?_
    refine J_aload_n (j := 0) dX9_alone_13 rfl rfl ?_
    refine JM_getR (r := 85) fl_WithOneHandModel_26_8 dX9_alone_14 c_80 rfl rfl ?_
    refine J_iload_n (j := 3) dX9_alone_17 rfl rfl ?_
    obtain ⟨b2, hF⟩ := chk hF
    refine JM_iald (j := ix v3) dX9_alone_18 c_85 (inb_vp b2) rfl ?_
    refine J_if_ne (tgt := 29) dX9_alone_19 (by decide) (fun q3 => ?_) (fun q3 => ?_)
    · rw [if_neg q3] at hF
      refine J_iload_n (j := 1) dX9_alone_29 rfl rfl ?_
      refine J_bipush (v := 10) dX9_alone_30 (by decide) ?_
      refine J_irem dX9_alone_32 (by decide) ?_
      refine J_sub [0, 1, 3] rfl ?_
      exact SB_X9_alone_33 hd hK4 hF
    · rw [if_pos q3] at hF
      refine J_iload_n (j := 1) dX9_alone_22 rfl rfl ?_
      refine J_bipush (v := 10) dX9_alone_23 (by decide) ?_
      refine J_idiv dX9_alone_25 (by decide) ?_
      refine J_goto (tgt := 33) dX9_alone_26 (by decide) ?_
      refine J_sub [0, 1, 3] rfl ?_
      exact SB_X9_alone_33 hd hK4 hF
def f_X9_alone_4  : Nat → Int32 → Int32 → Int32 → MM → Option (Int32 × MM)
  | 0 => fun _ _ _ _ => none
  | n + 1 => fun v1 v2 v3 m => B_X9_alone_4 (f_X9_alone_4  n) v1 v2 v3 m
theorem Sf_X9_alone_4 {g : GC} {d : Nat} {x : MX} (hd : 107 ≤ d)  : ∀ (n : Nat) (v1 : Int32) (v2 : Int32) (v3 : Int32) (m : MM) (r : Int32) (z : MM), f_X9_alone_4  n v1 v2 v3 m = some (r, z) → J g m_X9_alone d 0 0 4 [(0, .ref 80), (1, .int v1), (2, .int v2), (3, .int v3)] [] (ST x m) 0 0 (EQ (some (.int r)) (ST x z)) := by
  intro n
  induction n with
  | zero => intro v1 v2 v3 m r z  hF; exact absurd hF (fun q => by cases q)
  | succ n ih =>
    intro v1 v2 v3 m r z  hF
    exact SB_X9_alone_4 hd (fun v1 v2 v3 m r z  hF => ih v1 v2 v3 m r z  hF) hF
def f_X9_alone (a1 : Int32) (m : MM) : Option (Int32 × MM) :=
  f_X9_alone_4 LF a1 0 0 m
theorem S_X9_alone {g : GC} {d : Nat} {a1 : Int32} {x : MX} {m : MM} {r : Int32} {z : MM} (hd : 107 ≤ d) 
  (hF : f_X9_alone a1 m = some (r, z)) : JC g m_X9_alone d 0 0 [.ref 80, .int a1] (ST x m) (EQ (some (.int r)) (ST x z)) := by
  refine JC.of (by decide +kernel) (Nat.le_of_ble_eq_true rfl) ?_
  change J g m_X9_alone d 0 0 0 [(0, .ref 80), (1, .int a1)] [] (ST x m) 0 0 (EQ (some (.int r)) (ST x z))
  unfold f_X9_alone at hF
  refine J_iconst (v := 0) dX9_alone_0 (by decide) ?_
  refine J_istore_n (L' := [(2, .int 0), (0, .ref 80), (1, .int a1)]) dX9_alone_1 rfl (by decide) rfl ?_
  refine J_iconst (v := 0) dX9_alone_2 (by decide) ?_
  refine J_istore_n (L' := [(3, .int 0), (2, .int 0), (0, .ref 80), (1, .int a1)]) dX9_alone_3 rfl (by decide) rfl ?_
  refine J_sub [2, 3, 1, 0] rfl ?_
  exact Sf_X9_alone_4 hd _ _ _ _ _ _ _ hF
def B_X9_helping_22 (t0 : Int32) (m : MM) : Option (Int32 × MM) :=
  ob2 (f_X9_takes 0 0 t0 0 m) (fun r2 m3 =>
  ob2 (f_X9_takes 1 1 t0 0 m3) (fun r5 m6 =>
  some (r2 + r5, m6)))
theorem SB_X9_helping_22 {g : GC} {d : Nat} {t0 : Int32} {x : MX} {m : MM} {r : Int32} {z : MM} (hd : 107 ≤ d) 
  (hF : B_X9_helping_22 t0 m = some (r, z)) : J g m_X9_helping d 0 0 22 [(0, .ref 80)] [.int t0] (ST x m) 0 0 (EQ (some (.int r)) (ST x z)) := by
  unfold B_X9_helping_22 at hF
  refine J_istore_n (L' := [(2, .int t0), (0, .ref 80)]) dX9_helping_22 rfl (by decide) rfl ?_
  refine J_aload_n (j := 1) dX9_helping_23 rfl rfl ?_
  refine J_iconst (v := 0) dX9_helping_24 (by decide) ?_
  refine J_iconst (v := 0) dX9_helping_25 (by decide) ?_
  refine J_iload_n (j := 0) dX9_helping_26 rfl rfl ?_
  refine J_iconst (v := 0) dX9_helping_27 (by decide) ?_
  obtain ⟨r2, m3, h4, hF⟩ := ob2_some hF
  refine JM_callVi (As := [.int 0, .int 0, .int t0, .int 0]) (S := []) lkV_WithOneHandModel_257_X9_takes rfl (by decide) dX9_helping_28 c_80 (S_X9_takes (by omega) h4) (by omega) rfl rfl (Nat.le_of_ble_eq_true rfl) rfl ?_
  refine J_aload_n (j := 1) dX9_helping_31 rfl rfl ?_
  refine J_iconst (v := 1) dX9_helping_32 (by decide) ?_
  refine J_iconst (v := 1) dX9_helping_33 (by decide) ?_
  refine J_iload_n (j := 0) dX9_helping_34 rfl rfl ?_
  refine J_iconst (v := 0) dX9_helping_35 (by decide) ?_
  obtain ⟨r5, m6, h7, hF⟩ := ob2_some hF
  refine JM_callVi (As := [.int 1, .int 1, .int t0, .int 0]) (S := [.int r2]) lkV_WithOneHandModel_257_X9_takes rfl (by decide) dX9_helping_36 c_80 (S_X9_takes (by omega) h7) (by omega) rfl rfl (Nat.le_of_ble_eq_true rfl) rfl ?_
  refine J_iadd dX9_helping_39 ?_
  obtain ⟨e_r, e_z⟩ := someP hF
  subst e_r
  subst e_z
  exact J_ireturn rfl rfl dX9_helping_40 ⟨rfl, rfl⟩
def f_X9_helping (a1 : Int32) (m : MM) : Option (Int32 × MM) :=
  if (a1 / 10) ≤ (a1 % 10) then
  B_X9_helping_22 (a1 % 10) m
  else
  B_X9_helping_22 (a1 / 10) m
theorem S_X9_helping {g : GC} {d : Nat} {a1 : Int32} {x : MX} {m : MM} {r : Int32} {z : MM} (hd : 107 ≤ d) 
  (hF : f_X9_helping a1 m = some (r, z)) : JC g m_X9_helping d 0 0 [.ref 80, .int a1] (ST x m) (EQ (some (.int r)) (ST x z)) := by
  refine JC.of (by decide +kernel) (Nat.le_of_ble_eq_true rfl) ?_
  change J g m_X9_helping d 0 0 0 [(0, .ref 80), (1, .int a1)] [] (ST x m) 0 0 (EQ (some (.int r)) (ST x z))
  unfold f_X9_helping at hF
  refine J_iload_n (j := 1) dX9_helping_0 rfl rfl ?_
  refine J_bipush (v := 10) dX9_helping_1 (by decide) ?_
  refine J_idiv dX9_helping_3 (by decide) ?_
  refine J_iload_n (j := 1) dX9_helping_4 rfl rfl ?_
  refine J_bipush (v := 10) dX9_helping_5 (by decide) ?_
  refine J_irem dX9_helping_7 (by decide) ?_
  refine J_icmp_le (tgt := 18) dX9_helping_8 (by decide) (fun q1 => ?_) (fun q1 => ?_)
  · rw [if_pos q1] at hF
    refine J_iload_n (j := 1) dX9_helping_18 rfl rfl ?_
    refine J_bipush (v := 10) dX9_helping_19 (by decide) ?_
    refine J_irem dX9_helping_21 (by decide) ?_
    refine J_sub [0] rfl ?_
    exact SB_X9_helping_22 hd hF
  · rw [if_neg q1] at hF
    refine J_iload_n (j := 1) dX9_helping_11 rfl rfl ?_
    refine J_bipush (v := 10) dX9_helping_12 (by decide) ?_
    refine J_idiv dX9_helping_14 (by decide) ?_
    refine J_goto (tgt := 22) dX9_helping_15 (by decide) ?_
    refine J_sub [0] rfl ?_
    exact SB_X9_helping_22 hd hF
def B_X9_two_118 (t0 : Int32) (m : MM) : Option (Int32 × MM) :=
  some (f_X9_one t0, m)
theorem SB_X9_two_118 {g : GC} {d : Nat} {t0 : Int32} {x : MX} {m : MM} {r : Int32} {z : MM} (hd : 108 ≤ d) 
  (hF : B_X9_two_118 t0 m = some (r, z)) : J g m_X9_two d 0 0 118 [] [.int t0, .ref 80] (ST x m) 0 0 (EQ (some (.int r)) (ST x z)) := by
  unfold B_X9_two_118 at hF
  refine JM_callVi (As := [.int t0]) (S := []) lkV_WithOneHandModel_228_X9_one rfl (by decide) dX9_two_118 c_80 (S_X9_one (by omega) rfl) (by omega) rfl rfl (Nat.le_of_ble_eq_true rfl) rfl ?_
  obtain ⟨e_r, e_z⟩ := someP hF
  subst e_r
  subst e_z
  exact J_ireturn rfl rfl dX9_two_121 ⟨rfl, rfl⟩
def B_X9_two_71 (v1 : Int32) (v2 : Int32) (v3 : Int32) (t0 : Int32) (m : MM) : Option (Int32 × MM) :=
  ob2 (f_X9_helping v1 m) (fun r15 m16 =>
  ob2 (f_X9_helping v2 m16) (fun r18 m19 =>
  if v3 = 0 then
  some (t0, m19)
  else
  if v3 = 1 then
  some (r15 + r18, m19)
  else
  if t0 ≤ (r15 + r18) then
  B_X9_two_118 0 m19
  else
  B_X9_two_118 1 m19))
theorem SB_X9_two_71 {g : GC} {d : Nat} {v1 : Int32} {v2 : Int32} {v3 : Int32} {t0 : Int32} {x : MX} {m : MM} {r : Int32} {z : MM} (hd : 108 ≤ d) 
  (hF : B_X9_two_71 v1 v2 v3 t0 m = some (r, z)) : J g m_X9_two d 0 0 71 [(0, .ref 80), (1, .int v1), (2, .int v2), (3, .int v3)] [.int t0] (ST x m) 0 0 (EQ (some (.int r)) (ST x z)) := by
  unfold B_X9_two_71 at hF
  refine J_istore (L' := [(4, .int t0), (0, .ref 80), (1, .int v1), (2, .int v2), (3, .int v3)]) dX9_two_71 (by decide) rfl ?_
  refine J_aload_n (j := 1) dX9_two_73 rfl rfl ?_
  refine J_iload_n (j := 2) dX9_two_74 rfl rfl ?_
  obtain ⟨r15, m16, h17, hF⟩ := ob2_some hF
  refine JM_callVi (As := [.int v1]) (S := []) lkV_WithOneHandModel_318_X9_helping rfl (by decide) dX9_two_75 c_80 (S_X9_helping (by omega) h17) (by omega) rfl rfl (Nat.le_of_ble_eq_true rfl) rfl ?_
  refine J_aload_n (j := 1) dX9_two_78 rfl rfl ?_
  refine J_iload_n (j := 3) dX9_two_79 rfl rfl ?_
  obtain ⟨r18, m19, h20, hF⟩ := ob2_some hF
  refine JM_callVi (As := [.int v2]) (S := [.int r15]) lkV_WithOneHandModel_318_X9_helping rfl (by decide) dX9_two_80 c_80 (S_X9_helping (by omega) h20) (by omega) rfl rfl (Nat.le_of_ble_eq_true rfl) rfl ?_
  refine J_iadd dX9_two_83 ?_
  refine J_istore (L' := [(5, .int (r15 + r18)), (4, .int t0), (0, .ref 80), (1, .int v1), (2, .int v2), (3, .int v3)]) dX9_two_84 (by decide) rfl ?_
  refine J_iload_n (j := 5) dX9_two_86 rfl rfl ?_
  refine J_if_ne (tgt := 95) dX9_two_87 (by decide) (fun q21 => ?_) (fun q21 => ?_)
  · rw [if_neg q21] at hF
    refine J_iload_n (j := 5) dX9_two_95 rfl rfl ?_
    refine J_iconst (v := 1) dX9_two_96 (by decide) ?_
    refine J_icmp_ne (tgt := 105) dX9_two_97 (by decide) (fun q22 => ?_) (fun q22 => ?_)
    · rw [if_neg q22] at hF
      refine J_aload_n (j := 2) dX9_two_105 rfl rfl ?_
      refine J_iload (j := 0) dX9_two_106 rfl ?_
      refine J_iload (j := 1) dX9_two_108 rfl ?_
      refine J_icmp_ge (tgt := 117) dX9_two_110 (by decide) (fun q23 => ?_) (fun q23 => ?_)
      · rw [if_pos q23] at hF
        refine J_iconst (v := 0) dX9_two_117 (by decide) ?_
        refine J_sub [] rfl ?_
        exact SB_X9_two_118 hd hF
      · rw [if_neg q23] at hF
        refine J_iconst (v := 1) dX9_two_113 (by decide) ?_
        refine J_goto (tgt := 118) dX9_two_114 (by decide) ?_
        refine J_sub [] rfl ?_
        exact SB_X9_two_118 hd hF
    · rw [if_pos q22] at hF
      refine J_iload (j := 0) dX9_two_100 rfl ?_
      refine J_goto (tgt := 121) dX9_two_102 (by decide) ?_
      obtain ⟨e_r, e_z⟩ := someP hF
      subst e_r
      subst e_z
      exact J_ireturn rfl rfl dX9_two_121 ⟨rfl, rfl⟩
  · rw [if_pos q21] at hF
    refine J_iload (j := 1) dX9_two_90 rfl ?_
    refine J_goto (tgt := 121) dX9_two_92 (by decide) ?_
    obtain ⟨e_r, e_z⟩ := someP hF
    subst e_r
    subst e_z
    exact J_ireturn rfl rfl dX9_two_121 ⟨rfl, rfl⟩
def f_X9_two (a1 : Int32) (a2 : Int32) (a3 : Int32) (m : MM) : Option (Int32 × MM) :=
  if (f_X9_isIn a1 0 99) = true then
  if (f_X9_isIn a2 0 99) = true then
  if (f_X9_isIn a3 0 2) = true then
  if 2 ≤ (f_X9_both m) then
  ob2 (f_X9_alone a1 m) (fun r5 m6 =>
  ob2 (f_X9_alone a2 m6) (fun r8 m9 =>
  if r5 ≤ r8 then
  ob2 (f_X9_alone a2 m9) (fun r12 m13 =>
  B_X9_two_71 a1 a2 a3 r12 m13)
  else
  ob2 (f_X9_alone a1 m9) (fun r24 m25 =>
  B_X9_two_71 a1 a2 a3 r24 m25)))
  else
  some ((-5), m)
  else
  some ((-1), m)
  else
  some ((-1), m)
  else
  some ((-1), m)
theorem S_X9_two {g : GC} {d : Nat} {a1 : Int32} {a2 : Int32} {a3 : Int32} {x : MX} {m : MM} {r : Int32} {z : MM} (hd : 108 ≤ d) 
  (hF : f_X9_two a1 a2 a3 m = some (r, z)) : JC g m_X9_two d 0 0 [.ref 80, .int a1, .int a2, .int a3] (ST x m) (EQ (some (.int r)) (ST x z)) := by
  refine JC.of (by decide +kernel) (Nat.le_of_ble_eq_true rfl) ?_
  change J g m_X9_two d 0 0 0 [(0, .ref 80), (1, .int a1), (2, .int a2), (3, .int a3)] [] (ST x m) 0 0 (EQ (some (.int r)) (ST x z))
  unfold f_X9_two at hF
  refine J_aload_n (j := 0) dX9_two_0 rfl rfl ?_
  refine J_iload_n (j := 1) dX9_two_1 rfl rfl ?_
  refine J_iconst (v := 0) dX9_two_2 (by decide) ?_
  refine J_bipush (v := 99) dX9_two_3 (by decide) ?_
  refine JM_callVi (As := [.int a1, .int 0, .int 99]) (S := []) lkV_WithOneHandModel_114_X9_isIn rfl (by decide) dX9_two_5 c_80 (S_X9_isIn (by omega) rfl) (by omega) rfl rfl (Nat.le_of_ble_eq_true rfl) rfl ?_
  refine J_ifb_eq (tgt := 32) dX9_two_8 (by decide) (fun q1 => ?_) (fun q1 => ?_)
  · rw [if_neg q1] at hF
    refine J_iconst (v := (-1)) dX9_two_32 (by decide) ?_
    obtain ⟨e_r, e_z⟩ := someP hF
    subst e_r
    subst e_z
    exact J_ireturn rfl rfl dX9_two_33 ⟨rfl, rfl⟩
  · rw [if_pos q1] at hF
    refine J_aload_n (j := 0) dX9_two_11 rfl rfl ?_
    refine J_iload_n (j := 2) dX9_two_12 rfl rfl ?_
    refine J_iconst (v := 0) dX9_two_13 (by decide) ?_
    refine J_bipush (v := 99) dX9_two_14 (by decide) ?_
    refine JM_callVi (As := [.int a2, .int 0, .int 99]) (S := []) lkV_WithOneHandModel_114_X9_isIn rfl (by decide) dX9_two_16 c_80 (S_X9_isIn (by omega) rfl) (by omega) rfl rfl (Nat.le_of_ble_eq_true rfl) rfl ?_
    refine J_ifb_eq (tgt := 32) dX9_two_19 (by decide) (fun q2 => ?_) (fun q2 => ?_)
    · rw [if_neg q2] at hF
      refine J_iconst (v := (-1)) dX9_two_32 (by decide) ?_
      obtain ⟨e_r, e_z⟩ := someP hF
      subst e_r
      subst e_z
      exact J_ireturn rfl rfl dX9_two_33 ⟨rfl, rfl⟩
    · rw [if_pos q2] at hF
      refine J_aload_n (j := 0) dX9_two_22 rfl rfl ?_
      refine J_iload_n (j := 3) dX9_two_23 rfl rfl ?_
      refine J_iconst (v := 0) dX9_two_24 (by decide) ?_
      refine J_iconst (v := 2) dX9_two_25 (by decide) ?_
      refine JM_callVi (As := [.int a3, .int 0, .int 2]) (S := []) lkV_WithOneHandModel_114_X9_isIn rfl (by decide) dX9_two_26 c_80 (S_X9_isIn (by omega) rfl) (by omega) rfl rfl (Nat.le_of_ble_eq_true rfl) rfl ?_
      refine J_ifb_ne (tgt := 34) dX9_two_29 (by decide) (fun q3 => ?_) (fun q3 => ?_)
      · rw [if_pos q3] at hF
        refine J_aload_n (j := 0) dX9_two_34 rfl rfl ?_
        refine JM_callVi (As := []) (S := []) lkV_WithOneHandModel_287_X9_both rfl (by decide) dX9_two_35 c_80 (S_X9_both (by omega) rfl) (by omega) rfl rfl (Nat.le_of_ble_eq_true rfl) rfl ?_
        refine J_iconst (v := 2) dX9_two_38 (by decide) ?_
        refine J_icmp_ge (tgt := 45) dX9_two_39 (by decide) (fun q4 => ?_) (fun q4 => ?_)
        · rw [if_pos q4] at hF
          refine J_aload_n (j := 0) dX9_two_45 rfl rfl ?_
          refine J_iload_n (j := 1) dX9_two_46 rfl rfl ?_
          obtain ⟨r5, m6, h7, hF⟩ := ob2_some hF
          refine JM_callVi (As := [.int a1]) (S := []) lkV_WithOneHandModel_315_X9_alone rfl (by decide) dX9_two_47 c_80 (S_X9_alone (by omega) h7) (by omega) rfl rfl (Nat.le_of_ble_eq_true rfl) rfl ?_
          refine J_aload_n (j := 0) dX9_two_50 rfl rfl ?_
          refine J_iload_n (j := 2) dX9_two_51 rfl rfl ?_
          obtain ⟨r8, m9, h10, hF⟩ := ob2_some hF
          refine JM_callVi (As := [.int a2]) (S := [.int r5]) lkV_WithOneHandModel_315_X9_alone rfl (by decide) dX9_two_52 c_80 (S_X9_alone (by omega) h10) (by omega) rfl rfl (Nat.le_of_ble_eq_true rfl) rfl ?_
          refine J_icmp_le (tgt := 66) dX9_two_55 (by decide) (fun q11 => ?_) (fun q11 => ?_)
          · rw [if_pos q11] at hF
            refine J_aload_n (j := 0) dX9_two_66 rfl rfl ?_
            refine J_iload_n (j := 2) dX9_two_67 rfl rfl ?_
            obtain ⟨r12, m13, h14, hF⟩ := ob2_some hF
            refine JM_callVi (As := [.int a2]) (S := []) lkV_WithOneHandModel_315_X9_alone rfl (by decide) dX9_two_68 c_80 (S_X9_alone (by omega) h14) (by omega) rfl rfl (Nat.le_of_ble_eq_true rfl) rfl ?_
            exact SB_X9_two_71 hd hF
          · rw [if_neg q11] at hF
            refine J_aload_n (j := 0) dX9_two_58 rfl rfl ?_
            refine J_iload_n (j := 1) dX9_two_59 rfl rfl ?_
            obtain ⟨r24, m25, h26, hF⟩ := ob2_some hF
            refine JM_callVi (As := [.int a1]) (S := []) lkV_WithOneHandModel_315_X9_alone rfl (by decide) dX9_two_60 c_80 (S_X9_alone (by omega) h26) (by omega) rfl rfl (Nat.le_of_ble_eq_true rfl) rfl ?_
            refine J_goto (tgt := 71) dX9_two_63 (by decide) ?_
            exact SB_X9_two_71 hd hF
        · rw [if_neg q4] at hF
          refine J_bipush (v := (-5)) dX9_two_42 (by decide) ?_
          obtain ⟨e_r, e_z⟩ := someP hF
          subst e_r
          subst e_z
          exact J_ireturn rfl rfl dX9_two_44 ⟨rfl, rfl⟩
      · rw [if_neg q3] at hF
        refine J_iconst (v := (-1)) dX9_two_32 (by decide) ?_
        obtain ⟨e_r, e_z⟩ := someP hF
        subst e_r
        subst e_z
        exact J_ireturn rfl rfl dX9_two_33 ⟨rfl, rfl⟩
def f_X6_refusalAs (h0 : Nat) (a1 : Int32) (x : MX) : Int32 :=
  if (f_X6_holdsNothing h0 x) = true then
  (-11)
  else
  if (f_X6_holdsRowOf h0 a1 x) = true then
  0
  else
  (-12)
theorem S_X6_refusalAs {g : GC} {d : Nat} {h0 : Nat} {a1 : Int32} {x : MX} {m : MM} {r : Int32} (hd : 3 ≤ d) (e_h0 : isSh h0)
  (hF : f_X6_refusalAs h0 a1 x = r) : JC g m_X6_refusalAs d 0 0 [.ref h0, .int a1] (ST x m) (EQ (some (.int r)) (ST x m)) := by
  refine JC.of (by decide +kernel) (Nat.le_of_ble_eq_true rfl) ?_
  change J g m_X6_refusalAs d 0 0 0 [(0, .ref h0), (1, .int a1)] [] (ST x m) 0 0 (EQ (some (.int r)) (ST x m))
  unfold f_X6_refusalAs at hF
  refine J_aload_n (j := 0) dX6_refusalAs_0 rfl rfl ?_
  refine JX_callVi (As := []) (S := []) lkV_Shelf_23_X6_holdsNothing rfl (by decide) dX6_refusalAs_1 (c_sh e_h0) (S_X6_holdsNothing (by omega) e_h0 rfl) (by omega) rfl rfl (Nat.le_of_ble_eq_true rfl) rfl ?_
  refine J_ifb_eq (tgt := 10) dX6_refusalAs_4 (by decide) (fun q1 => ?_) (fun q1 => ?_)
  · rw [if_neg q1] at hF
    refine J_aload_n (j := 0) dX6_refusalAs_10 rfl rfl ?_
    refine J_iload_n (j := 1) dX6_refusalAs_11 rfl rfl ?_
    refine JX_callVi (As := [.int a1]) (S := []) lkV_Shelf_30_X6_holdsRowOf rfl (by decide) dX6_refusalAs_12 (c_sh e_h0) (S_X6_holdsRowOf (by omega) e_h0 rfl) (by omega) rfl rfl (Nat.le_of_ble_eq_true rfl) rfl ?_
    refine J_ifb_eq (tgt := 22) dX6_refusalAs_15 (by decide) (fun q2 => ?_) (fun q2 => ?_)
    · rw [if_neg q2] at hF
      refine J_bipush (v := (-12)) dX6_refusalAs_22 (by decide) ?_
      subst hF
      exact J_ireturn rfl rfl dX6_refusalAs_24 ⟨rfl, rfl⟩
    · rw [if_pos q2] at hF
      refine J_iconst (v := 0) dX6_refusalAs_18 (by decide) ?_
      refine J_goto (tgt := 24) dX6_refusalAs_19 (by decide) ?_
      subst hF
      exact J_ireturn rfl rfl dX6_refusalAs_24 ⟨rfl, rfl⟩
  · rw [if_pos q1] at hF
    refine J_bipush (v := (-11)) dX6_refusalAs_7 (by decide) ?_
    subst hF
    exact J_ireturn rfl rfl dX6_refusalAs_9 ⟨rfl, rfl⟩
def B_X8_firstNotSo_27 (K27 : Nat → Int32 → Int32 → Int32 → Int32 → Int32 → Int32 → MX → Option (Int32 × MX)) (v1 : Nat) (v2 : Int32) (v3 : Int32) (v4 : Int32) (v6 : Int32) (v7 : Int32) (v8 : Int32) (x : MX) : Option (Int32 × MX) :=
  if (xi x v1 2) ≤ v8 then
  some ((-2), x)
  else
  if inb v8 60 = true then
  ob2 (f_X8_takesWith v2 v3 v4 v6 (v7 + v8) x) (fun r4 x5 =>
  if (lg_cmp (xl x (v1 + 1) (ix v8)) (Int32.toInt64 r4)) = 0 then
  K27 v1 v2 v3 v4 v6 v7 (v8 + 1) x5
  else
  some (v8, x5))
  else none
theorem SB_X8_firstNotSo_27 {g : GC} {d : Nat} {K27 : Nat → Int32 → Int32 → Int32 → Int32 → Int32 → Int32 → MX → Option (Int32 × MX)} {v1 : Nat} {v2 : Int32} {v3 : Int32} {v4 : Int32} {v6 : Int32} {v7 : Int32} {v8 : Int32} {x : MX} {m : MM} {r : Int32} {z : MX} (hd : 4 ≤ d) (hK27 : ∀ (v1 : Nat) (v2 : Int32) (v3 : Int32) (v4 : Int32) (v6 : Int32) (v7 : Int32) (v8 : Int32) (x : MX) (r : Int32) (z : MX), isSh v1 → K27 v1 v2 v3 v4 v6 v7 v8 x = some (r, z) → J g m_X8_firstNotSo d 0 0 27 [(0, .ref 5), (1, .ref v1), (2, .int v2), (3, .int v3), (4, .int v4), (6, .int v6), (7, .int v7), (8, .int v8)] [] (ST x m) 0 0 (EQ (some (.int r)) (ST z m))) (e_v1 : isSh v1)
  (hF : B_X8_firstNotSo_27 K27 v1 v2 v3 v4 v6 v7 v8 x = some (r, z)) : J g m_X8_firstNotSo d 0 0 27 [(0, .ref 5), (1, .ref v1), (2, .int v2), (3, .int v3), (4, .int v4), (6, .int v6), (7, .int v7), (8, .int v8)] [] (ST x m) 0 0 (EQ (some (.int r)) (ST z m)) := by
  unfold B_X8_firstNotSo_27 at hF
  refine J_iload (j := 7) dX8_firstNotSo_27 rfl ?_
  refine J_aload_n (j := 1) dX8_firstNotSo_29 rfl rfl ?_
  refine JX_getI fl_WithOneHand_363_5 dX8_firstNotSo_30 (c_sh e_v1) rfl ?_
  refine J_icmp_ge (tgt := 72) dX8_firstNotSo_33 (by decide) (fun q2 => ?_) (fun q2 => ?_)
  · rw [if_pos q2] at hF
    refine J_bipush (v := (-2)) dX8_firstNotSo_72 (by decide) ?_
    obtain ⟨e_r, e_z⟩ := someP hF
    subst e_r
    subst e_z
    exact J_ireturn rfl rfl dX8_firstNotSo_74 ⟨rfl, rfl⟩
  · rw [if_neg q2] at hF
    refine J_aload_n (j := 1) dX8_firstNotSo_36 rfl rfl ?_
    refine JX_getR (r := (v1 + 1)) fl_WithOneHand_320_5 dX8_firstNotSo_37 (c_sh e_v1) rfl rfl ?_
    refine J_iload (j := 7) dX8_firstNotSo_40 rfl ?_
    obtain ⟨b3, hF⟩ := chk hF
    refine JX_lald (j := ix v8) dX8_firstNotSo_42 (c_she e_v1) (inb_vp b3) rfl ?_
    refine J_aload_n (j := 0) dX8_firstNotSo_43 rfl rfl ?_
    refine J_iload_n (j := 2) dX8_firstNotSo_44 rfl rfl ?_
    refine J_iload_n (j := 3) dX8_firstNotSo_45 rfl rfl ?_
    refine J_iload (j := 4) dX8_firstNotSo_46 rfl ?_
    refine J_iload (j := 5) dX8_firstNotSo_48 rfl ?_
    refine J_iload (j := 6) dX8_firstNotSo_50 rfl ?_
    refine J_iload (j := 7) dX8_firstNotSo_52 rfl ?_
    refine J_iadd dX8_firstNotSo_54 ?_
    obtain ⟨r4, x5, h6, hF⟩ := ob2_some hF
    refine JX_callVi (As := [.int v2, .int v3, .int v4, .int v6, .int (v7 + v8)]) (S := [.long (xl x (v1 + 1) (ix v8))]) lkV_WithOneHand_359_X8_takesWith rfl (by decide) dX8_firstNotSo_55 c_5 (S_X8_takesWith (by omega) h6) (by omega) rfl rfl (Nat.le_of_ble_eq_true rfl) rfl ?_
    refine J_i2l dX8_firstNotSo_58 ?_
    refine J_lcmp dX8_firstNotSo_59 ?_
    refine J_if_eq (tgt := 66) dX8_firstNotSo_60 (by decide) (fun q7 => ?_) (fun q7 => ?_)
    · rw [if_pos q7] at hF
      refine J_iinc (j := 7) (v := v8 + 1) (L' := [(8, .int (v8 + 1)), (0, .ref 5), (1, .ref v1), (2, .int v2), (3, .int v3), (4, .int v4), (6, .int v6), (7, .int v7)]) dX8_firstNotSo_66 rfl rfl (by decide) rfl ?_
      refine J_goto (tgt := 27) dX8_firstNotSo_69 (by decide) ?_
      refine J_sub [1, 2, 3, 4, 5, 6, 7, 0] rfl ?_
      exact hK27 _ _ _ _ _ _ _ _ _ _ e_v1 hF
    · rw [if_neg q7] at hF
      refine J_iload (j := 7) dX8_firstNotSo_63 rfl ?_
      obtain ⟨e_r, e_z⟩ := someP hF
      subst e_r
      subst e_z
      exact J_ireturn rfl rfl dX8_firstNotSo_65 ⟨rfl, rfl⟩
def f_X8_firstNotSo_27  : Nat → Nat → Int32 → Int32 → Int32 → Int32 → Int32 → Int32 → MX → Option (Int32 × MX)
  | 0 => fun _ _ _ _ _ _ _ _ => none
  | n + 1 => fun v1 v2 v3 v4 v6 v7 v8 x => B_X8_firstNotSo_27 (f_X8_firstNotSo_27  n) v1 v2 v3 v4 v6 v7 v8 x
theorem Sf_X8_firstNotSo_27 {g : GC} {d : Nat} {m : MM} (hd : 4 ≤ d)  : ∀ (n : Nat) (v1 : Nat) (v2 : Int32) (v3 : Int32) (v4 : Int32) (v6 : Int32) (v7 : Int32) (v8 : Int32) (x : MX) (r : Int32) (z : MX), (e_v1 : isSh v1) → f_X8_firstNotSo_27  n v1 v2 v3 v4 v6 v7 v8 x = some (r, z) → J g m_X8_firstNotSo d 0 0 27 [(0, .ref 5), (1, .ref v1), (2, .int v2), (3, .int v3), (4, .int v4), (6, .int v6), (7, .int v7), (8, .int v8)] [] (ST x m) 0 0 (EQ (some (.int r)) (ST z m)) := by
  intro n
  induction n with
  | zero => intro v1 v2 v3 v4 v6 v7 v8 x r z e_v1 hF; exact absurd hF (fun q => by cases q)
  | succ n ih =>
    intro v1 v2 v3 v4 v6 v7 v8 x r z e_v1 hF
    exact SB_X8_firstNotSo_27 hd (fun v1 v2 v3 v4 v6 v7 v8 x r z e_v1 hF => ih v1 v2 v3 v4 v6 v7 v8 x r z e_v1 hF) e_v1 hF
def f_X8_firstNotSo (h1 : Nat) (a2 : Int32) (a3 : Int32) (a4 : Int32) (a5 : Int32) (x : MX) : Option (Int32 × MX) :=
  if inb a5 8 = true then
  f_X8_firstNotSo_27 LF h1 a2 a3 a4 (xi x 13 (ix a5)) (xi x 15 (ix a5)) 0 x
  else none
theorem S_X8_firstNotSo {g : GC} {d : Nat} {h1 : Nat} {a2 : Int32} {a3 : Int32} {a4 : Int32} {a5 : Int32} {x : MX} {m : MM} {r : Int32} {z : MX} (hd : 4 ≤ d) (e_h1 : isSh h1)
  (hF : f_X8_firstNotSo h1 a2 a3 a4 a5 x = some (r, z)) : JC g m_X8_firstNotSo d 0 0 [.ref 5, .ref h1, .int a2, .int a3, .int a4, .int a5] (ST x m) (EQ (some (.int r)) (ST z m)) := by
  refine JC.of (by decide +kernel) (Nat.le_of_ble_eq_true rfl) ?_
  change J g m_X8_firstNotSo d 0 0 0 [(0, .ref 5), (1, .ref h1), (2, .int a2), (3, .int a3), (4, .int a4), (5, .int a5)] [] (ST x m) 0 0 (EQ (some (.int r)) (ST z m))
  unfold f_X8_firstNotSo at hF
  refine J_aload_n (j := 0) dX8_firstNotSo_0 rfl rfl ?_
  refine JX_getR (r := 6) fl_WithOneHand_11_7 dX8_firstNotSo_1 c_5 rfl rfl ?_
  refine J_bipush (v := 6) dX8_firstNotSo_4 (by decide) ?_
  refine JX_aald (j := 6) (r := 13) (by decide) dX8_firstNotSo_6 c_6 (by unfold vp_in; decide) (by decide) rfl ?_
  refine J_iload (j := 5) dX8_firstNotSo_7 rfl ?_
  obtain ⟨b1, hF⟩ := chk hF
  refine JX_iald (j := ix a5) dX8_firstNotSo_9 c_13 (inb_vp b1) rfl ?_
  refine J_istore (L' := [(6, .int (xi x 13 (ix a5))), (0, .ref 5), (1, .ref h1), (2, .int a2), (3, .int a3), (4, .int a4), (5, .int a5)]) dX8_firstNotSo_10 (by decide) rfl ?_
  refine J_aload_n (j := 1) dX8_firstNotSo_12 rfl rfl ?_
  refine JX_getR (r := 6) fl_WithOneHand_11_7 dX8_firstNotSo_13 c_5 rfl rfl ?_
  refine J_bipush (v := 8) dX8_firstNotSo_16 (by decide) ?_
  refine JX_aald (j := 8) (r := 15) (by decide) dX8_firstNotSo_18 c_6 (by unfold vp_in; decide) (by decide) rfl ?_
  refine J_iload (j := 6) dX8_firstNotSo_19 rfl ?_
  refine JX_iald (j := ix a5) dX8_firstNotSo_21 c_15 (inb_vp b1) rfl ?_
  refine J_istore (L' := [(7, .int (xi x 15 (ix a5))), (6, .int (xi x 13 (ix a5))), (0, .ref 5), (1, .ref h1), (2, .int a2), (3, .int a3), (4, .int a4), (5, .int a5)]) dX8_firstNotSo_22 (by decide) rfl ?_
  refine J_iconst (v := 0) dX8_firstNotSo_24 (by decide) ?_
  refine J_istore (L' := [(8, .int 0), (7, .int (xi x 15 (ix a5))), (6, .int (xi x 13 (ix a5))), (0, .ref 5), (1, .ref h1), (2, .int a2), (3, .int a3), (4, .int a4), (5, .int a5)]) dX8_firstNotSo_25 (by decide) rfl ?_
  refine J_sub [3, 4, 5, 6, 7, 2, 1, 0] rfl ?_
  exact Sf_X8_firstNotSo_27 hd _ _ _ _ _ _ _ _ _ _ _ e_h1 hF
