def B_X9_shift_161 (K161 : Int32 → Int32 → Int32 → Int32 → MM → Option (Int32 × MM)) (v3 : Int32) (v4 : Int32) (v5 : Int32) (v6 : Int32) (m : MM) : Option (Int32 × MM) :=
  if v5 ≤ v6 then
  some (v5, m)
  else
  if inb v6 60 = true then
  if inb (((60 * v3) + v4) + v6) 360 = true then
  letx (msl m 109 (ix (((60 * v3) + v4) + v6)) (ml m 110 (ix v6))) (fun m19 =>
  K161 v3 v4 v5 (v6 + 1) m19)
  else none
  else none
theorem SB_X9_shift_161 {g : GC} {d : Nat} {K161 : Int32 → Int32 → Int32 → Int32 → MM → Option (Int32 × MM)} {v3 : Int32} {v4 : Int32} {v5 : Int32} {v6 : Int32} {x : MX} {m : MM} {r : Int32} {z : MM} (hd : 2 ≤ d) (hK161 : ∀ (v3 : Int32) (v4 : Int32) (v5 : Int32) (v6 : Int32) (m : MM) (r : Int32) (z : MM), K161 v3 v4 v5 v6 m = some (r, z) → J g m_X9_shift d 0 0 161 [(0, .ref 80), (3, .int v3), (4, .int v4), (5, .int v5), (6, .int v6)] [] (ST x m) 0 0 (EQ (some (.int r)) (ST x z)))
  (hF : B_X9_shift_161 K161 v3 v4 v5 v6 m = some (r, z)) : J g m_X9_shift d 0 0 161 [(0, .ref 80), (3, .int v3), (4, .int v4), (5, .int v5), (6, .int v6)] [] (ST x m) 0 0 (EQ (some (.int r)) (ST x z)) := by
  unfold B_X9_shift_161 at hF
  refine J_iload (j := 4) dX9_shift_161 rfl ?_
  refine J_iload (j := 3) dX9_shift_163 rfl ?_
  refine J_icmp_ge (tgt := 196) dX9_shift_165 (by decide) (fun q16 => ?_) (fun q16 => ?_)
  · rw [if_pos q16] at hF
    refine J_iload (j := 3) dX9_shift_196 rfl ?_
    obtain ⟨e_r, e_z⟩ := someP hF
    subst e_r
    subst e_z
    exact J_ireturn rfl rfl dX9_shift_198 ⟨rfl, rfl⟩
  · rw [if_neg q16] at hF
    refine J_aload_n (j := 0) dX9_shift_168 rfl rfl ?_
    refine JM_getR (r := 109) fl_WithOneHandModel_101_8 dX9_shift_169 c_80 rfl rfl ?_
    refine J_bipush (v := 60) dX9_shift_172 (by decide) ?_
    refine J_iload_n (j := 1) dX9_shift_174 rfl rfl ?_
    refine J_imul dX9_shift_175 ?_
    refine J_iload (j := 2) dX9_shift_176 rfl ?_
    refine J_iadd dX9_shift_178 ?_
    refine J_iload (j := 4) dX9_shift_179 rfl ?_
    refine J_iadd dX9_shift_181 ?_
    refine J_aload_n (j := 0) dX9_shift_182 rfl rfl ?_
    refine JM_getR (r := 110) fl_WithOneHandModel_105_8 dX9_shift_183 c_80 rfl rfl ?_
    refine J_iload (j := 4) dX9_shift_186 rfl ?_
    obtain ⟨b17, hF⟩ := chk hF
    refine JM_lald (j := ix v6) dX9_shift_188 c_110 (inb_vp b17) rfl ?_
    obtain ⟨b18, hF⟩ := chk hF
    obtain ⟨m19, e_m19, hF⟩ := letx_eq hF
    refine JM_last (j := ix (((60 * v3) + v4) + v6)) dX9_shift_189 c_109 (inb_vp b18) rfl ?_
    rw [← e_m19]
    refine J_iinc (j := 4) (v := v6 + 1) (L' := [(6, .int (v6 + 1)), (0, .ref 80), (3, .int v3), (4, .int v4), (5, .int v5)]) dX9_shift_190 rfl rfl (by decide) rfl ?_
    refine J_goto (tgt := 161) dX9_shift_193 (by decide) ?_
    refine J_sub [1, 2, 3, 4, 0] rfl ?_
    exact hK161 _ _ _ _ _ _ _  hF
def f_X9_shift_161  : Nat → Int32 → Int32 → Int32 → Int32 → MM → Option (Int32 × MM)
  | 0 => fun _ _ _ _ _ => none
  | n + 1 => fun v3 v4 v5 v6 m => B_X9_shift_161 (f_X9_shift_161  n) v3 v4 v5 v6 m
theorem Sf_X9_shift_161 {g : GC} {d : Nat} {x : MX} (hd : 2 ≤ d)  : ∀ (n : Nat) (v3 : Int32) (v4 : Int32) (v5 : Int32) (v6 : Int32) (m : MM) (r : Int32) (z : MM), f_X9_shift_161  n v3 v4 v5 v6 m = some (r, z) → J g m_X9_shift d 0 0 161 [(0, .ref 80), (3, .int v3), (4, .int v4), (5, .int v5), (6, .int v6)] [] (ST x m) 0 0 (EQ (some (.int r)) (ST x z)) := by
  intro n
  induction n with
  | zero => intro v3 v4 v5 v6 m r z  hF; exact absurd hF (fun q => by cases q)
  | succ n ih =>
    intro v3 v4 v5 v6 m r z  hF
    exact SB_X9_shift_161 hd (fun v3 v4 v5 v6 m r z  hF => ih v3 v4 v5 v6 m r z  hF) hF
def B_X9_shift_124 (K124 : Int32 → Int32 → Int32 → Int32 → Int32 → Int32 → MM → Option (Int32 × MM)) (v1 : Int32) (v2 : Int32) (v3 : Int32) (v4 : Int32) (v5 : Int32) (v6 : Int32) (m : MM) : Option (Int32 × MM) :=
  if v5 ≤ v6 then
  f_X9_shift_161 LF v3 v4 v5 0 m
  else
  if inb (((60 * v1) + v2) + v6) 360 = true then
  if inb v6 60 = true then
  letx (msl m 110 (ix v6) (ml m 109 (ix (((60 * v1) + v2) + v6)))) (fun m22 =>
  K124 v1 v2 v3 v4 v5 (v6 + 1) m22)
  else none
  else none
theorem SB_X9_shift_124 {g : GC} {d : Nat} {K124 : Int32 → Int32 → Int32 → Int32 → Int32 → Int32 → MM → Option (Int32 × MM)} {v1 : Int32} {v2 : Int32} {v3 : Int32} {v4 : Int32} {v5 : Int32} {v6 : Int32} {x : MX} {m : MM} {r : Int32} {z : MM} (hd : 2 ≤ d) (hK124 : ∀ (v1 : Int32) (v2 : Int32) (v3 : Int32) (v4 : Int32) (v5 : Int32) (v6 : Int32) (m : MM) (r : Int32) (z : MM), K124 v1 v2 v3 v4 v5 v6 m = some (r, z) → J g m_X9_shift d 0 0 124 [(0, .ref 80), (1, .int v1), (2, .int v2), (3, .int v3), (4, .int v4), (5, .int v5), (6, .int v6)] [] (ST x m) 0 0 (EQ (some (.int r)) (ST x z)))
  (hF : B_X9_shift_124 K124 v1 v2 v3 v4 v5 v6 m = some (r, z)) : J g m_X9_shift d 0 0 124 [(0, .ref 80), (1, .int v1), (2, .int v2), (3, .int v3), (4, .int v4), (5, .int v5), (6, .int v6)] [] (ST x m) 0 0 (EQ (some (.int r)) (ST x z)) := by
  unfold B_X9_shift_124 at hF
  refine J_iload (j := 6) dX9_shift_124 rfl ?_
  refine J_iload (j := 5) dX9_shift_126 rfl ?_
  refine J_icmp_ge (tgt := 158) dX9_shift_128 (by decide) (fun q15 => ?_) (fun q15 => ?_)
  · rw [if_pos q15] at hF
    refine J_iconst (v := 0) dX9_shift_158 (by decide) ?_
    refine J_istore (L' := [(6, .int 0), (0, .ref 80), (1, .int v1), (2, .int v2), (3, .int v3), (4, .int v4), (5, .int v5)]) dX9_shift_159 (by decide) rfl ?_
    refine J_sub [1, 4, 5, 6, 0] rfl ?_
    exact Sf_X9_shift_161 hd _ _ _ _ _ _ _ _ hF
  · rw [if_neg q15] at hF
    refine J_aload_n (j := 0) dX9_shift_131 rfl rfl ?_
    refine JM_getR (r := 110) fl_WithOneHandModel_105_8 dX9_shift_132 c_80 rfl rfl ?_
    refine J_iload (j := 6) dX9_shift_135 rfl ?_
    refine J_aload_n (j := 0) dX9_shift_137 rfl rfl ?_
    refine JM_getR (r := 109) fl_WithOneHandModel_101_8 dX9_shift_138 c_80 rfl rfl ?_
    refine J_bipush (v := 60) dX9_shift_141 (by decide) ?_
    refine J_iload_n (j := 1) dX9_shift_143 rfl rfl ?_
    refine J_imul dX9_shift_144 ?_
    refine J_iload_n (j := 2) dX9_shift_145 rfl rfl ?_
    refine J_iadd dX9_shift_146 ?_
    refine J_iload (j := 6) dX9_shift_147 rfl ?_
    refine J_iadd dX9_shift_149 ?_
    obtain ⟨b20, hF⟩ := chk hF
    refine JM_lald (j := ix (((60 * v1) + v2) + v6)) dX9_shift_150 c_109 (inb_vp b20) rfl ?_
    obtain ⟨b21, hF⟩ := chk hF
    obtain ⟨m22, e_m22, hF⟩ := letx_eq hF
    refine JM_last (j := ix v6) dX9_shift_151 c_110 (inb_vp b21) rfl ?_
    rw [← e_m22]
    refine J_iinc (j := 6) (v := v6 + 1) (L' := [(6, .int (v6 + 1)), (0, .ref 80), (1, .int v1), (2, .int v2), (3, .int v3), (4, .int v4), (5, .int v5)]) dX9_shift_152 rfl rfl (by decide) rfl ?_
    refine J_goto (tgt := 124) dX9_shift_155 (by decide) ?_
    refine J_sub [1, 2, 3, 4, 5, 6, 0] rfl ?_
    exact hK124 _ _ _ _ _ _ _ _ _  hF
def f_X9_shift_124  : Nat → Int32 → Int32 → Int32 → Int32 → Int32 → Int32 → MM → Option (Int32 × MM)
  | 0 => fun _ _ _ _ _ _ _ => none
  | n + 1 => fun v1 v2 v3 v4 v5 v6 m => B_X9_shift_124 (f_X9_shift_124  n) v1 v2 v3 v4 v5 v6 m
theorem Sf_X9_shift_124 {g : GC} {d : Nat} {x : MX} (hd : 2 ≤ d)  : ∀ (n : Nat) (v1 : Int32) (v2 : Int32) (v3 : Int32) (v4 : Int32) (v5 : Int32) (v6 : Int32) (m : MM) (r : Int32) (z : MM), f_X9_shift_124  n v1 v2 v3 v4 v5 v6 m = some (r, z) → J g m_X9_shift d 0 0 124 [(0, .ref 80), (1, .int v1), (2, .int v2), (3, .int v3), (4, .int v4), (5, .int v5), (6, .int v6)] [] (ST x m) 0 0 (EQ (some (.int r)) (ST x z)) := by
  intro n
  induction n with
  | zero => intro v1 v2 v3 v4 v5 v6 m r z  hF; exact absurd hF (fun q => by cases q)
  | succ n ih =>
    intro v1 v2 v3 v4 v5 v6 m r z  hF
    exact SB_X9_shift_124 hd (fun v1 v2 v3 v4 v5 v6 m r z  hF => ih v1 v2 v3 v4 v5 v6 m r z  hF) hF
def f_X9_shift (a1 : Int32) (a2 : Int32) (a3 : Int32) (a4 : Int32) (a5 : Int32) (m : MM) : Option (Int32 × MM) :=
  if (f_X9_isShelf a1) = true then
  if (f_X9_isShelf a3) = true then
  if inb a1 6 = true then
  if (mi m 105 (ix a1)) = 0 then
  some ((-11), m)
  else
  if inb a3 6 = true then
  if (mi m 105 (ix a3)) = 0 then
  some ((-11), m)
  else
  if (mi m 105 (ix a1)) = 1 then
  some ((-12), m)
  else
  if (mi m 105 (ix a3)) = 1 then
  some ((-12), m)
  else
  if (mi m 106 (ix a1)) = (mi m 106 (ix a3)) then
  if a5 < 0 then
  some ((-13), m)
  else
  if a2 < 0 then
  some ((-13), m)
  else
  if a4 < 0 then
  some ((-13), m)
  else
  if ((mi m 107 (ix a1)) - a5) < a2 then
  some ((-13), m)
  else
  if a4 ≤ ((mi m 107 (ix a3)) - a5) then
  f_X9_shift_124 LF a1 a2 a3 a4 a5 0 m
  else
  some ((-13), m)
  else
  some ((-12), m)
  else none
  else none
  else
  some ((-1), m)
  else
  some ((-1), m)
theorem S_X9_shift {g : GC} {d : Nat} {a1 : Int32} {a2 : Int32} {a3 : Int32} {a4 : Int32} {a5 : Int32} {x : MX} {m : MM} {r : Int32} {z : MM} (hd : 2 ≤ d) 
  (hF : f_X9_shift a1 a2 a3 a4 a5 m = some (r, z)) : JC g m_X9_shift d 0 0 [.ref 80, .int a1, .int a2, .int a3, .int a4, .int a5] (ST x m) (EQ (some (.int r)) (ST x z)) := by
  refine JC.of (by decide +kernel) (Nat.le_of_ble_eq_true rfl) ?_
  change J g m_X9_shift d 0 0 0 [(0, .ref 80), (1, .int a1), (2, .int a2), (3, .int a3), (4, .int a4), (5, .int a5)] [] (ST x m) 0 0 (EQ (some (.int r)) (ST x z))
  unfold f_X9_shift at hF
  refine J_aload_n (j := 0) dX9_shift_0 rfl rfl ?_
  refine J_iload_n (j := 1) dX9_shift_1 rfl rfl ?_
  refine JM_callVi (As := [.int a1]) (S := []) lkV_WithOneHandModel_122_X9_isShelf rfl (by decide) dX9_shift_2 c_80 (S_X9_isShelf (by omega) rfl) (by omega) rfl rfl (Nat.le_of_ble_eq_true rfl) rfl ?_
  refine J_ifb_eq (tgt := 16) dX9_shift_5 (by decide) (fun q1 => ?_) (fun q1 => ?_)
  · rw [if_neg q1] at hF
    refine J_iconst (v := (-1)) dX9_shift_16 (by decide) ?_
    obtain ⟨e_r, e_z⟩ := someP hF
    subst e_r
    subst e_z
    exact J_ireturn rfl rfl dX9_shift_17 ⟨rfl, rfl⟩
  · rw [if_pos q1] at hF
    refine J_aload_n (j := 0) dX9_shift_8 rfl rfl ?_
    refine J_iload_n (j := 3) dX9_shift_9 rfl rfl ?_
    refine JM_callVi (As := [.int a3]) (S := []) lkV_WithOneHandModel_122_X9_isShelf rfl (by decide) dX9_shift_10 c_80 (S_X9_isShelf (by omega) rfl) (by omega) rfl rfl (Nat.le_of_ble_eq_true rfl) rfl ?_
    refine J_ifb_ne (tgt := 18) dX9_shift_13 (by decide) (fun q2 => ?_) (fun q2 => ?_)
    · rw [if_pos q2] at hF
      refine J_aload_n (j := 0) dX9_shift_18 rfl rfl ?_
      refine JM_getR (r := 105) fl_WithOneHandModel_89_8 dX9_shift_19 c_80 rfl rfl ?_
      refine J_iload_n (j := 1) dX9_shift_22 rfl rfl ?_
      obtain ⟨b3, hF⟩ := chk hF
      refine JM_iald (j := ix a1) dX9_shift_23 c_105 (inb_vp b3) rfl ?_
      refine J_if_eq (tgt := 36) dX9_shift_24 (by decide) (fun q4 => ?_) (fun q4 => ?_)
      · rw [if_pos q4] at hF
        refine J_bipush (v := (-11)) dX9_shift_36 (by decide) ?_
        obtain ⟨e_r, e_z⟩ := someP hF
        subst e_r
        subst e_z
        exact J_ireturn rfl rfl dX9_shift_38 ⟨rfl, rfl⟩
      · rw [if_neg q4] at hF
        refine J_aload_n (j := 0) dX9_shift_27 rfl rfl ?_
        refine JM_getR (r := 105) fl_WithOneHandModel_89_8 dX9_shift_28 c_80 rfl rfl ?_
        refine J_iload_n (j := 3) dX9_shift_31 rfl rfl ?_
        obtain ⟨b5, hF⟩ := chk hF
        refine JM_iald (j := ix a3) dX9_shift_32 c_105 (inb_vp b5) rfl ?_
        refine J_if_ne (tgt := 39) dX9_shift_33 (by decide) (fun q6 => ?_) (fun q6 => ?_)
        · rw [if_neg q6] at hF
          refine J_aload_n (j := 0) dX9_shift_39 rfl rfl ?_
          refine JM_getR (r := 105) fl_WithOneHandModel_89_8 dX9_shift_40 c_80 rfl rfl ?_
          refine J_iload_n (j := 1) dX9_shift_43 rfl rfl ?_
          refine JM_iald (j := ix a1) dX9_shift_44 c_105 (inb_vp b3) rfl ?_
          refine J_iconst (v := 1) dX9_shift_45 (by decide) ?_
          refine J_icmp_eq (tgt := 74) dX9_shift_46 (by decide) (fun q7 => ?_) (fun q7 => ?_)
          · rw [if_pos q7] at hF
            refine J_bipush (v := (-12)) dX9_shift_74 (by decide) ?_
            obtain ⟨e_r, e_z⟩ := someP hF
            subst e_r
            subst e_z
            exact J_ireturn rfl rfl dX9_shift_76 ⟨rfl, rfl⟩
          · rw [if_neg q7] at hF
            refine J_aload_n (j := 0) dX9_shift_49 rfl rfl ?_
            refine JM_getR (r := 105) fl_WithOneHandModel_89_8 dX9_shift_50 c_80 rfl rfl ?_
            refine J_iload_n (j := 3) dX9_shift_53 rfl rfl ?_
            refine JM_iald (j := ix a3) dX9_shift_54 c_105 (inb_vp b5) rfl ?_
            refine J_iconst (v := 1) dX9_shift_55 (by decide) ?_
            refine J_icmp_eq (tgt := 74) dX9_shift_56 (by decide) (fun q8 => ?_) (fun q8 => ?_)
            · rw [if_pos q8] at hF
              refine J_bipush (v := (-12)) dX9_shift_74 (by decide) ?_
              obtain ⟨e_r, e_z⟩ := someP hF
              subst e_r
              subst e_z
              exact J_ireturn rfl rfl dX9_shift_76 ⟨rfl, rfl⟩
            · rw [if_neg q8] at hF
              refine J_aload_n (j := 0) dX9_shift_59 rfl rfl ?_
              refine JM_getR (r := 106) fl_WithOneHandModel_92_8 dX9_shift_60 c_80 rfl rfl ?_
              refine J_iload_n (j := 1) dX9_shift_63 rfl rfl ?_
              refine JM_iald (j := ix a1) dX9_shift_64 c_106 (inb_vp b3) rfl ?_
              refine J_aload_n (j := 0) dX9_shift_65 rfl rfl ?_
              refine JM_getR (r := 106) fl_WithOneHandModel_92_8 dX9_shift_66 c_80 rfl rfl ?_
              refine J_iload_n (j := 3) dX9_shift_69 rfl rfl ?_
              refine JM_iald (j := ix a3) dX9_shift_70 c_106 (inb_vp b5) rfl ?_
              refine J_icmp_eq (tgt := 77) dX9_shift_71 (by decide) (fun q9 => ?_) (fun q9 => ?_)
              · rw [if_pos q9] at hF
                refine J_iload (j := 5) dX9_shift_77 rfl ?_
                refine J_if_lt (tgt := 118) dX9_shift_79 (by decide) (fun q10 => ?_) (fun q10 => ?_)
                · rw [if_pos q10] at hF
                  refine J_bipush (v := (-13)) dX9_shift_118 (by decide) ?_
                  obtain ⟨e_r, e_z⟩ := someP hF
                  subst e_r
                  subst e_z
                  exact J_ireturn rfl rfl dX9_shift_120 ⟨rfl, rfl⟩
                · rw [if_neg q10] at hF
                  refine J_iload_n (j := 2) dX9_shift_82 rfl rfl ?_
                  refine J_if_lt (tgt := 118) dX9_shift_83 (by decide) (fun q11 => ?_) (fun q11 => ?_)
                  · rw [if_pos q11] at hF
                    refine J_bipush (v := (-13)) dX9_shift_118 (by decide) ?_
                    obtain ⟨e_r, e_z⟩ := someP hF
                    subst e_r
                    subst e_z
                    exact J_ireturn rfl rfl dX9_shift_120 ⟨rfl, rfl⟩
                  · rw [if_neg q11] at hF
                    refine J_iload (j := 4) dX9_shift_86 rfl ?_
                    refine J_if_lt (tgt := 118) dX9_shift_88 (by decide) (fun q12 => ?_) (fun q12 => ?_)
                    · rw [if_pos q12] at hF
                      refine J_bipush (v := (-13)) dX9_shift_118 (by decide) ?_
                      obtain ⟨e_r, e_z⟩ := someP hF
                      subst e_r
                      subst e_z
                      exact J_ireturn rfl rfl dX9_shift_120 ⟨rfl, rfl⟩
                    · rw [if_neg q12] at hF
                      refine J_iload_n (j := 2) dX9_shift_91 rfl rfl ?_
                      refine J_aload_n (j := 0) dX9_shift_92 rfl rfl ?_
                      refine JM_getR (r := 107) fl_WithOneHandModel_95_8 dX9_shift_93 c_80 rfl rfl ?_
                      refine J_iload_n (j := 1) dX9_shift_96 rfl rfl ?_
                      refine JM_iald (j := ix a1) dX9_shift_97 c_107 (inb_vp b3) rfl ?_
                      refine J_iload (j := 5) dX9_shift_98 rfl ?_
                      refine J_isub dX9_shift_100 ?_
                      refine J_icmp_gt (tgt := 118) dX9_shift_101 (by decide) (fun q13 => ?_) (fun q13 => ?_)
                      · rw [if_pos q13] at hF
                        refine J_bipush (v := (-13)) dX9_shift_118 (by decide) ?_
                        obtain ⟨e_r, e_z⟩ := someP hF
                        subst e_r
                        subst e_z
                        exact J_ireturn rfl rfl dX9_shift_120 ⟨rfl, rfl⟩
                      · rw [if_neg q13] at hF
                        refine J_iload (j := 4) dX9_shift_104 rfl ?_
                        refine J_aload_n (j := 0) dX9_shift_106 rfl rfl ?_
                        refine JM_getR (r := 107) fl_WithOneHandModel_95_8 dX9_shift_107 c_80 rfl rfl ?_
                        refine J_iload_n (j := 3) dX9_shift_110 rfl rfl ?_
                        refine JM_iald (j := ix a3) dX9_shift_111 c_107 (inb_vp b5) rfl ?_
                        refine J_iload (j := 5) dX9_shift_112 rfl ?_
                        refine J_isub dX9_shift_114 ?_
                        refine J_icmp_le (tgt := 121) dX9_shift_115 (by decide) (fun q14 => ?_) (fun q14 => ?_)
                        · rw [if_pos q14] at hF
                          refine J_iconst (v := 0) dX9_shift_121 (by decide) ?_
                          refine J_istore (L' := [(6, .int 0), (0, .ref 80), (1, .int a1), (2, .int a2), (3, .int a3), (4, .int a4), (5, .int a5)]) dX9_shift_122 (by decide) rfl ?_
                          refine J_sub [1, 2, 3, 4, 5, 6, 0] rfl ?_
                          exact Sf_X9_shift_124 hd _ _ _ _ _ _ _ _ _ _ hF
                        · rw [if_neg q14] at hF
                          refine J_bipush (v := (-13)) dX9_shift_118 (by decide) ?_
                          obtain ⟨e_r, e_z⟩ := someP hF
                          subst e_r
                          subst e_z
                          exact J_ireturn rfl rfl dX9_shift_120 ⟨rfl, rfl⟩
              · rw [if_neg q9] at hF
                refine J_bipush (v := (-12)) dX9_shift_74 (by decide) ?_
                obtain ⟨e_r, e_z⟩ := someP hF
                subst e_r
                subst e_z
                exact J_ireturn rfl rfl dX9_shift_76 ⟨rfl, rfl⟩
        · rw [if_pos q6] at hF
          refine J_bipush (v := (-11)) dX9_shift_36 (by decide) ?_
          obtain ⟨e_r, e_z⟩ := someP hF
          subst e_r
          subst e_z
          exact J_ireturn rfl rfl dX9_shift_38 ⟨rfl, rfl⟩
    · rw [if_neg q2] at hF
      refine J_iconst (v := (-1)) dX9_shift_16 (by decide) ?_
      obtain ⟨e_r, e_z⟩ := someP hF
      subst e_r
      subst e_z
      exact J_ireturn rfl rfl dX9_shift_17 ⟨rfl, rfl⟩
def B_X2_isUnder_57 (v2 : Int32) (v3 : Int32) (x : MX) : Option Bool :=
  if v3 = v2 then
  some true
  else
  some false
theorem SB_X2_isUnder_57 {g : GC} {d : Nat} {v2 : Int32} {v3 : Int32} {x : MX} {m : MM} {r : Bool} (hd : 2 ≤ d) 
  (hF : B_X2_isUnder_57 v2 v3 x = some r) : J g m_X2_isUnder d 0 0 57 [(2, .int v2), (3, .int v3)] [] (ST x m) 0 0 (EQ (some (.int (b2i r))) (ST x m)) := by
  unfold B_X2_isUnder_57 at hF
  refine J_iload_n (j := 1) dX2_isUnder_57 rfl rfl ?_
  refine J_iload_n (j := 0) dX2_isUnder_58 rfl rfl ?_
  refine J_icmp_ne (tgt := 66) dX2_isUnder_59 (by decide) (fun q5 => ?_) (fun q5 => ?_)
  · rw [if_neg q5] at hF
    refine J_iconst (v := 0) dX2_isUnder_66 (by decide) ?_
    have e_r := Option.some.inj hF
    subst e_r
    exact J_ireturn rfl rfl dX2_isUnder_67 ⟨rfl, rfl⟩
  · rw [if_pos q5] at hF
    refine J_iconst (v := 1) dX2_isUnder_62 (by decide) ?_
    refine J_goto (tgt := 67) dX2_isUnder_63 (by decide) ?_
    have e_r := Option.some.inj hF
    subst e_r
    exact J_ireturn rfl rfl dX2_isUnder_67 ⟨rfl, rfl⟩
def B_X2_isUnder_24 (K24 : Int32 → Int32 → Int32 → Option Bool) (v2 : Int32) (v3 : Int32) (v4 : Int32) (x : MX) : Option Bool :=
  if 8 ≤ v4 then
  B_X2_isUnder_57 v2 v3 x
  else
  if (f_X2_isKind v3) = true then
  if v3 = v2 then
  B_X2_isUnder_57 v2 v3 x
  else
  if inb v3 8 = true then
  K24 v2 ((SA 2).getD (ix v3) 0) (v4 + 1)
  else none
  else
  B_X2_isUnder_57 v2 v3 x
theorem SB_X2_isUnder_24 {g : GC} {d : Nat} {K24 : Int32 → Int32 → Int32 → Option Bool} {v2 : Int32} {v3 : Int32} {v4 : Int32} {x : MX} {m : MM} {r : Bool} (hd : 2 ≤ d) (hK24 : ∀ (v2 : Int32) (v3 : Int32) (v4 : Int32) (r : Bool), K24 v2 v3 v4 = some r → J g m_X2_isUnder d 0 0 24 [(2, .int v2), (3, .int v3), (4, .int v4)] [] (ST x m) 0 0 (EQ (some (.int (b2i r))) (ST x m)))
  (hF : B_X2_isUnder_24 K24 v2 v3 v4 x = some r) : J g m_X2_isUnder d 0 0 24 [(2, .int v2), (3, .int v3), (4, .int v4)] [] (ST x m) 0 0 (EQ (some (.int (b2i r))) (ST x m)) := by
  unfold B_X2_isUnder_24 at hF
  refine J_iload (j := 2) dX2_isUnder_24 rfl ?_
  refine J_gets (j := 2) (by decide) (tb 793 (by decide +kernel)) dX2_isUnder_26 ?_
  refine J_alenS (v := 8) (by decide) dX2_isUnder_29 (by decide) ?_
  refine J_icmp_ge (tgt := 57) dX2_isUnder_30 (by decide) (fun q4 => ?_) (fun q4 => ?_)
  · rw [if_pos q4] at hF
    refine J_sub [0, 1] rfl ?_
    exact SB_X2_isUnder_57 hd hF
  · rw [if_neg q4] at hF
    refine J_iload_n (j := 1) dX2_isUnder_33 rfl rfl ?_
    refine J_callSi (As := [.int v3]) (S := []) lkS_Holes_25_X2_isKind dX2_isUnder_34 (S_X2_isKind (by omega) rfl) (by omega) rfl rfl (Nat.le_of_ble_eq_true rfl) rfl ?_
    refine J_ifb_eq (tgt := 57) dX2_isUnder_37 (by decide) (fun q6 => ?_) (fun q6 => ?_)
    · rw [if_neg q6] at hF
      refine J_sub [0, 1] rfl ?_
      exact SB_X2_isUnder_57 hd hF
    · rw [if_pos q6] at hF
      refine J_iload_n (j := 1) dX2_isUnder_40 rfl rfl ?_
      refine J_iload_n (j := 0) dX2_isUnder_41 rfl rfl ?_
      refine J_icmp_eq (tgt := 57) dX2_isUnder_42 (by decide) (fun q7 => ?_) (fun q7 => ?_)
      · rw [if_pos q7] at hF
        refine J_sub [0, 1] rfl ?_
        exact SB_X2_isUnder_57 hd hF
      · rw [if_neg q7] at hF
        refine J_gets (j := 2) (by decide) (tb 793 (by decide +kernel)) dX2_isUnder_45 ?_
        refine J_iload_n (j := 1) dX2_isUnder_48 rfl rfl ?_
        obtain ⟨b8, hF⟩ := chk hF
        refine J_ialdS (v := (SA 2).getD (ix v3) 0) (by decide) dX2_isUnder_49 (inb_vp b8) rfl ?_
        refine J_istore_n (L' := [(3, .int ((SA 2).getD (ix v3) 0)), (2, .int v2), (4, .int v4)]) dX2_isUnder_50 rfl (by decide) rfl ?_
        refine J_iinc (j := 2) (v := v4 + 1) (L' := [(4, .int (v4 + 1)), (3, .int ((SA 2).getD (ix v3) 0)), (2, .int v2)]) dX2_isUnder_51 rfl rfl (by decide) rfl ?_
        refine J_goto (tgt := 24) dX2_isUnder_54 (by decide) ?_
        refine J_sub [2, 1, 0] rfl ?_
        exact hK24 _ _ _ _  hF
def f_X2_isUnder_24 (x : MX) : Nat → Int32 → Int32 → Int32 → Option Bool
  | 0 => fun _ _ _ => none
  | n + 1 => fun v2 v3 v4 => B_X2_isUnder_24 (f_X2_isUnder_24 x n) v2 v3 v4 x
theorem Sf_X2_isUnder_24 {g : GC} {d : Nat} {x : MX} {m : MM} (hd : 2 ≤ d)  : ∀ (n : Nat) (v2 : Int32) (v3 : Int32) (v4 : Int32) (r : Bool), f_X2_isUnder_24 x n v2 v3 v4 = some r → J g m_X2_isUnder d 0 0 24 [(2, .int v2), (3, .int v3), (4, .int v4)] [] (ST x m) 0 0 (EQ (some (.int (b2i r))) (ST x m)) := by
  intro n
  induction n with
  | zero => intro v2 v3 v4 r  hF; exact absurd hF (fun q => by cases q)
  | succ n ih =>
    intro v2 v3 v4 r  hF
    exact SB_X2_isUnder_24 hd (fun v2 v3 v4 r  hF => ih v2 v3 v4 r  hF) hF
def f_X2_isUnder (a1 : Int32) (a2 : Int32) (x : MX) : Option Bool :=
  if a1 < 0 then
  some false
  else
  if a1 < (xi x 51 2) then
  if inb a1 50 = true then
  f_X2_isUnder_24 x LF a2 (xi x 52 (ix a1)) 0
  else none
  else
  some false
theorem S_X2_isUnder {g : GC} {d : Nat} {a1 : Int32} {a2 : Int32} {x : MX} {m : MM} {r : Bool} (hd : 2 ≤ d) 
  (hF : f_X2_isUnder a1 a2 x = some r) : JC g m_X2_isUnder d 0 0 [.ref 51, .int a1, .int a2] (ST x m) (EQ (some (.int (b2i r))) (ST x m)) := by
  refine JC.of (by decide +kernel) (Nat.le_of_ble_eq_true rfl) ?_
  change J g m_X2_isUnder d 0 0 0 [(0, .ref 51), (1, .int a1), (2, .int a2)] [] (ST x m) 0 0 (EQ (some (.int (b2i r))) (ST x m))
  unfold f_X2_isUnder at hF
  refine J_iload_n (j := 1) dX2_isUnder_0 rfl rfl ?_
  refine J_if_lt (tgt := 12) dX2_isUnder_1 (by decide) (fun q1 => ?_) (fun q1 => ?_)
  · rw [if_pos q1] at hF
    refine J_iconst (v := 0) dX2_isUnder_12 (by decide) ?_
    have e_r := Option.some.inj hF
    subst e_r
    exact J_ireturn rfl rfl dX2_isUnder_13 ⟨rfl, rfl⟩
  · rw [if_neg q1] at hF
    refine J_iload_n (j := 1) dX2_isUnder_4 rfl rfl ?_
    refine J_aload_n (j := 0) dX2_isUnder_5 rfl rfl ?_
    refine JX_getI fl_Holes_21_2 dX2_isUnder_6 c_51 rfl ?_
    refine J_icmp_lt (tgt := 14) dX2_isUnder_9 (by decide) (fun q2 => ?_) (fun q2 => ?_)
    · rw [if_pos q2] at hF
      refine J_aload_n (j := 0) dX2_isUnder_14 rfl rfl ?_
      refine JX_getR (r := 52) fl_Holes_9_2 dX2_isUnder_15 c_51 rfl rfl ?_
      refine J_iload_n (j := 1) dX2_isUnder_18 rfl rfl ?_
      obtain ⟨b3, hF⟩ := chk hF
      refine JX_iald (j := ix a1) dX2_isUnder_19 c_52 (inb_vp b3) rfl ?_
      refine J_istore_n (L' := [(3, .int (xi x 52 (ix a1))), (0, .ref 51), (1, .int a1), (2, .int a2)]) dX2_isUnder_20 rfl (by decide) rfl ?_
      refine J_iconst (v := 0) dX2_isUnder_21 (by decide) ?_
      refine J_istore (L' := [(4, .int 0), (3, .int (xi x 52 (ix a1))), (0, .ref 51), (1, .int a1), (2, .int a2)]) dX2_isUnder_22 (by decide) rfl ?_
      refine J_sub [4, 1, 0] rfl ?_
      exact Sf_X2_isUnder_24 hd _ _ _ _ _ hF
    · rw [if_neg q2] at hF
      refine J_iconst (v := 0) dX2_isUnder_12 (by decide) ?_
      have e_r := Option.some.inj hF
      subst e_r
      exact J_ireturn rfl rfl dX2_isUnder_13 ⟨rfl, rfl⟩
def f_X8_taken (a1 : Int32) (a2 : Int32) (x : MX) : Option Int32 :=
  if (f_X8_isShelf a1) = true then
  if (f_X2_isKind a2) = true then
  if inb a1 6 = true then
  if (f_X6_holdsNothing (68 + 2 * ix a1) x) = true then
  some (-11)
  else
  if (f_X6_holdsRow (68 + 2 * ix a1) x) = true then
  some (-12)
  else
  ob (f_X2_isUnder (xi x (68 + 2 * ix a1) 3) a2 x) (fun r6 =>
  if r6 = true then
  if inb (xi x (68 + 2 * ix a1) 3) 50 = true then
  some (xi x 52 (ix (xi x (68 + 2 * ix a1) 3)))
  else none
  else
  some (-12))
  else none
  else
  some (-1)
  else
  some (-1)
theorem S_X8_taken {g : GC} {d : Nat} {a1 : Int32} {a2 : Int32} {x : MX} {m : MM} {r : Int32} (hd : 3 ≤ d) 
  (hF : f_X8_taken a1 a2 x = some r) : JC g m_X8_taken d 0 0 [.ref 5, .int a1, .int a2] (ST x m) (EQ (some (.int r)) (ST x m)) := by
  refine JC.of (by decide +kernel) (Nat.le_of_ble_eq_true rfl) ?_
  change J g m_X8_taken d 0 0 0 [(0, .ref 5), (1, .int a1), (2, .int a2)] [] (ST x m) 0 0 (EQ (some (.int r)) (ST x m))
  unfold f_X8_taken at hF
  refine J_iload_n (j := 1) dX8_taken_0 rfl rfl ?_
  refine J_callSi (As := [.int a1]) (S := []) lkS_WithOneHand_91_X8_isShelf dX8_taken_1 (S_X8_isShelf (by omega) rfl) (by omega) rfl rfl (Nat.le_of_ble_eq_true rfl) rfl ?_
  refine J_ifb_eq (tgt := 14) dX8_taken_4 (by decide) (fun q1 => ?_) (fun q1 => ?_)
  · rw [if_neg q1] at hF
    refine J_iconst (v := (-1)) dX8_taken_14 (by decide) ?_
    have e_r := Option.some.inj hF
    subst e_r
    exact J_ireturn rfl rfl dX8_taken_15 ⟨rfl, rfl⟩
  · rw [if_pos q1] at hF
    refine J_iload_n (j := 2) dX8_taken_7 rfl rfl ?_
    refine J_callSi (As := [.int a2]) (S := []) lkS_WithOneHand_283_X2_isKind dX8_taken_8 (S_X2_isKind (by omega) rfl) (by omega) rfl rfl (Nat.le_of_ble_eq_true rfl) rfl ?_
    refine J_ifb_ne (tgt := 16) dX8_taken_11 (by decide) (fun q2 => ?_) (fun q2 => ?_)
    · rw [if_pos q2] at hF
      refine J_aload_n (j := 0) dX8_taken_16 rfl rfl ?_
      refine JX_getR (r := 54) fl_WithOneHand_58_7 dX8_taken_17 c_5 rfl rfl ?_
      refine J_iload_n (j := 1) dX8_taken_20 rfl rfl ?_
      obtain ⟨b3, hF⟩ := chk hF
      refine JX_aald (j := ix a1) (r := 68 + 2 * ix a1) (by decide) dX8_taken_21 c_54 (inb_vp b3) rfl (rw_54 _ (inb_lt b3)) ?_
      refine J_astore_n (L' := [(3, .ref (68 + 2 * ix a1)), (0, .ref 5), (1, .int a1), (2, .int a2)]) dX8_taken_22 rfl (by decide) rfl ?_
      refine J_aload_n (j := 0) dX8_taken_23 rfl rfl ?_
      refine JX_callVi (As := []) (S := []) lkV_WithOneHand_95_X6_holdsNothing rfl (by decide) dX8_taken_24 (c_sh (sh_of (inb_lt b3))) (S_X6_holdsNothing (by omega) (sh_of (inb_lt b3)) rfl) (by omega) rfl rfl (Nat.le_of_ble_eq_true rfl) rfl ?_
      refine J_ifb_eq (tgt := 33) dX8_taken_27 (by decide) (fun q4 => ?_) (fun q4 => ?_)
      · rw [if_neg q4] at hF
        refine J_aload_n (j := 0) dX8_taken_33 rfl rfl ?_
        refine JX_callVi (As := []) (S := []) lkV_WithOneHand_328_X6_holdsRow rfl (by decide) dX8_taken_34 (c_sh (sh_of (inb_lt b3))) (S_X6_holdsRow (by omega) (sh_of (inb_lt b3)) rfl) (by omega) rfl rfl (Nat.le_of_ble_eq_true rfl) rfl ?_
        refine J_ifb_ne (tgt := 55) dX8_taken_37 (by decide) (fun q5 => ?_) (fun q5 => ?_)
        · rw [if_pos q5] at hF
          refine J_bipush (v := (-12)) dX8_taken_55 (by decide) ?_
          have e_r := Option.some.inj hF
          subst e_r
          exact J_ireturn rfl rfl dX8_taken_57 ⟨rfl, rfl⟩
        · rw [if_neg q5] at hF
          refine J_aload_n (j := 1) dX8_taken_40 rfl rfl ?_
          refine JX_getR (r := 51) fl_WithOneHand_52_7 dX8_taken_41 c_5 rfl rfl ?_
          refine J_aload_n (j := 0) dX8_taken_44 rfl rfl ?_
          refine JX_getI fl_WithOneHand_334_5 dX8_taken_45 (c_sh (sh_of (inb_lt b3))) rfl ?_
          refine J_iload_n (j := 3) dX8_taken_48 rfl rfl ?_
          obtain ⟨r6, h7, hF⟩ := ob_some hF
          refine JX_callVi (As := [.int (xi x (68 + 2 * ix a1) 3), .int a2]) (S := []) lkV_WithOneHand_337_X2_isUnder rfl (by decide) dX8_taken_49 c_51 (S_X2_isUnder (by omega) h7) (by omega) rfl rfl (Nat.le_of_ble_eq_true rfl) rfl ?_
          refine J_ifb_ne (tgt := 58) dX8_taken_52 (by decide) (fun q8 => ?_) (fun q8 => ?_)
          · rw [if_pos q8] at hF
            refine J_aload_n (j := 1) dX8_taken_58 rfl rfl ?_
            refine JX_getR (r := 51) fl_WithOneHand_52_7 dX8_taken_59 c_5 rfl rfl ?_
            refine JX_getR (r := 52) fl_WithOneHand_289_2 dX8_taken_62 c_51 rfl rfl ?_
            refine J_aload_n (j := 0) dX8_taken_65 rfl rfl ?_
            refine JX_getI fl_WithOneHand_334_5 dX8_taken_66 (c_sh (sh_of (inb_lt b3))) rfl ?_
            obtain ⟨b9, hF⟩ := chk hF
            refine JX_iald (j := ix (xi x (68 + 2 * ix a1) 3)) dX8_taken_69 c_52 (inb_vp b9) rfl ?_
            have e_r := Option.some.inj hF
            subst e_r
            exact J_ireturn rfl rfl dX8_taken_70 ⟨rfl, rfl⟩
          · rw [if_neg q8] at hF
            refine J_bipush (v := (-12)) dX8_taken_55 (by decide) ?_
            have e_r := Option.some.inj hF
            subst e_r
            exact J_ireturn rfl rfl dX8_taken_57 ⟨rfl, rfl⟩
      · rw [if_pos q4] at hF
        refine J_bipush (v := (-11)) dX8_taken_30 (by decide) ?_
        have e_r := Option.some.inj hF
        subst e_r
        exact J_ireturn rfl rfl dX8_taken_32 ⟨rfl, rfl⟩
    · rw [if_neg q2] at hF
      refine J_iconst (v := (-1)) dX8_taken_14 (by decide) ?_
      have e_r := Option.some.inj hF
      subst e_r
      exact J_ireturn rfl rfl dX8_taken_15 ⟨rfl, rfl⟩
def B_X9_taken_61 (K61 : Int32 → Int32 → Int32 → Option Int32) (v2 : Int32) (v3 : Int32) (v4 : Int32) (m : MM) : Option Int32 :=
  if v4 < 0 then
  some (-12)
  else
  if v4 = v2 then
  some v3
  else
  K61 v2 v3 (f_X9_above v4)
theorem SB_X9_taken_61 {g : GC} {d : Nat} {K61 : Int32 → Int32 → Int32 → Option Int32} {v2 : Int32} {v3 : Int32} {v4 : Int32} {x : MX} {m : MM} {r : Int32} (hd : 2 ≤ d) (hK61 : ∀ (v2 : Int32) (v3 : Int32) (v4 : Int32) (r : Int32), K61 v2 v3 v4 = some r → J g m_X9_taken d 0 0 61 [(0, .ref 80), (2, .int v2), (3, .int v3), (4, .int v4)] [] (ST x m) 0 0 (EQ (some (.int r)) (ST x m)))
  (hF : B_X9_taken_61 K61 v2 v3 v4 m = some r) : J g m_X9_taken d 0 0 61 [(0, .ref 80), (2, .int v2), (3, .int v3), (4, .int v4)] [] (ST x m) 0 0 (EQ (some (.int r)) (ST x m)) := by
  unfold B_X9_taken_61 at hF
  refine J_iload (j := 3) dX9_taken_61 rfl ?_
  refine J_if_lt (tgt := 85) dX9_taken_63 (by decide) (fun q8 => ?_) (fun q8 => ?_)
  · rw [if_pos q8] at hF
    refine J_bipush (v := (-12)) dX9_taken_85 (by decide) ?_
    have e_r := Option.some.inj hF
    subst e_r
    exact J_ireturn rfl rfl dX9_taken_87 ⟨rfl, rfl⟩
  · rw [if_neg q8] at hF
    refine J_iload (j := 3) dX9_taken_66 rfl ?_
    refine J_iload_n (j := 1) dX9_taken_68 rfl rfl ?_
    refine J_icmp_ne (tgt := 74) dX9_taken_69 (by decide) (fun q9 => ?_) (fun q9 => ?_)
    · rw [if_neg q9] at hF
      refine J_aload_n (j := 0) dX9_taken_74 rfl rfl ?_
      refine J_iload (j := 3) dX9_taken_75 rfl ?_
      refine JM_callVi (As := [.int v4]) (S := []) lkV_WithOneHandModel_353_X9_above rfl (by decide) dX9_taken_77 c_80 (S_X9_above (by omega) rfl) (by omega) rfl rfl (Nat.le_of_ble_eq_true rfl) rfl ?_
      refine J_istore (L' := [(4, .int (f_X9_above v4)), (0, .ref 80), (2, .int v2), (3, .int v3)]) dX9_taken_80 (by decide) rfl ?_
      refine J_goto (tgt := 61) dX9_taken_82 (by decide) ?_
      refine J_sub [1, 2, 3, 0] rfl ?_
      exact hK61 _ _ _ _  hF
    · rw [if_pos q9] at hF
      refine J_iload_n (j := 2) dX9_taken_72 rfl rfl ?_
      have e_r := Option.some.inj hF
      subst e_r
      exact J_ireturn rfl rfl dX9_taken_73 ⟨rfl, rfl⟩
def f_X9_taken_61 (m : MM) : Nat → Int32 → Int32 → Int32 → Option Int32
  | 0 => fun _ _ _ => none
  | n + 1 => fun v2 v3 v4 => B_X9_taken_61 (f_X9_taken_61 m n) v2 v3 v4 m
theorem Sf_X9_taken_61 {g : GC} {d : Nat} {x : MX} {m : MM} (hd : 2 ≤ d)  : ∀ (n : Nat) (v2 : Int32) (v3 : Int32) (v4 : Int32) (r : Int32), f_X9_taken_61 m n v2 v3 v4 = some r → J g m_X9_taken d 0 0 61 [(0, .ref 80), (2, .int v2), (3, .int v3), (4, .int v4)] [] (ST x m) 0 0 (EQ (some (.int r)) (ST x m)) := by
  intro n
  induction n with
  | zero => intro v2 v3 v4 r  hF; exact absurd hF (fun q => by cases q)
  | succ n ih =>
    intro v2 v3 v4 r  hF
    exact SB_X9_taken_61 hd (fun v2 v3 v4 r  hF => ih v2 v3 v4 r  hF) hF
def f_X9_taken (a1 : Int32) (a2 : Int32) (m : MM) : Option Int32 :=
  if (f_X9_isShelf a1) = true then
  if (f_X9_isIn a2 0 7) = true then
  if inb a1 6 = true then
  if (mi m 105 (ix a1)) = 0 then
  some (-11)
  else
  if (mi m 105 (ix a1)) = 2 then
  some (-12)
  else
  if inb (mi m 108 (ix a1)) 50 = true then
  letx (mi m 103 (ix (mi m 108 (ix a1)))) (fun y7 =>
  f_X9_taken_61 m LF a2 y7 y7)
  else none
  else none
  else
  some (-1)
  else
  some (-1)
theorem S_X9_taken {g : GC} {d : Nat} {a1 : Int32} {a2 : Int32} {x : MX} {m : MM} {r : Int32} (hd : 2 ≤ d) 
  (hF : f_X9_taken a1 a2 m = some r) : JC g m_X9_taken d 0 0 [.ref 80, .int a1, .int a2] (ST x m) (EQ (some (.int r)) (ST x m)) := by
  refine JC.of (by decide +kernel) (Nat.le_of_ble_eq_true rfl) ?_
  change J g m_X9_taken d 0 0 0 [(0, .ref 80), (1, .int a1), (2, .int a2)] [] (ST x m) 0 0 (EQ (some (.int r)) (ST x m))
  unfold f_X9_taken at hF
  refine J_aload_n (j := 0) dX9_taken_0 rfl rfl ?_
  refine J_iload_n (j := 1) dX9_taken_1 rfl rfl ?_
  refine JM_callVi (As := [.int a1]) (S := []) lkV_WithOneHandModel_122_X9_isShelf rfl (by decide) dX9_taken_2 c_80 (S_X9_isShelf (by omega) rfl) (by omega) rfl rfl (Nat.le_of_ble_eq_true rfl) rfl ?_
  refine J_ifb_eq (tgt := 19) dX9_taken_5 (by decide) (fun q1 => ?_) (fun q1 => ?_)
  · rw [if_neg q1] at hF
    refine J_iconst (v := (-1)) dX9_taken_19 (by decide) ?_
    have e_r := Option.some.inj hF
    subst e_r
    exact J_ireturn rfl rfl dX9_taken_20 ⟨rfl, rfl⟩
  · rw [if_pos q1] at hF
    refine J_aload_n (j := 0) dX9_taken_8 rfl rfl ?_
    refine J_iload_n (j := 2) dX9_taken_9 rfl rfl ?_
    refine J_iconst (v := 0) dX9_taken_10 (by decide) ?_
    refine J_bipush (v := 7) dX9_taken_11 (by decide) ?_
    refine JM_callVi (As := [.int a2, .int 0, .int 7]) (S := []) lkV_WithOneHandModel_114_X9_isIn rfl (by decide) dX9_taken_13 c_80 (S_X9_isIn (by omega) rfl) (by omega) rfl rfl (Nat.le_of_ble_eq_true rfl) rfl ?_
    refine J_ifb_ne (tgt := 21) dX9_taken_16 (by decide) (fun q2 => ?_) (fun q2 => ?_)
    · rw [if_pos q2] at hF
      refine J_aload_n (j := 0) dX9_taken_21 rfl rfl ?_
      refine JM_getR (r := 105) fl_WithOneHandModel_89_8 dX9_taken_22 c_80 rfl rfl ?_
      refine J_iload_n (j := 1) dX9_taken_25 rfl rfl ?_
      obtain ⟨b3, hF⟩ := chk hF
      refine JM_iald (j := ix a1) dX9_taken_26 c_105 (inb_vp b3) rfl ?_
      refine J_if_ne (tgt := 33) dX9_taken_27 (by decide) (fun q4 => ?_) (fun q4 => ?_)
      · rw [if_neg q4] at hF
        refine J_aload_n (j := 0) dX9_taken_33 rfl rfl ?_
        refine JM_getR (r := 105) fl_WithOneHandModel_89_8 dX9_taken_34 c_80 rfl rfl ?_
        refine J_iload_n (j := 1) dX9_taken_37 rfl rfl ?_
        refine JM_iald (j := ix a1) dX9_taken_38 c_105 (inb_vp b3) rfl ?_
        refine J_iconst (v := 2) dX9_taken_39 (by decide) ?_
        refine J_icmp_ne (tgt := 46) dX9_taken_40 (by decide) (fun q5 => ?_) (fun q5 => ?_)
        · rw [if_neg q5] at hF
          refine J_aload_n (j := 0) dX9_taken_46 rfl rfl ?_
          refine JM_getR (r := 103) fl_WithOneHandModel_83_8 dX9_taken_47 c_80 rfl rfl ?_
          refine J_aload_n (j := 0) dX9_taken_50 rfl rfl ?_
          refine JM_getR (r := 108) fl_WithOneHandModel_98_8 dX9_taken_51 c_80 rfl rfl ?_
          refine J_iload_n (j := 1) dX9_taken_54 rfl rfl ?_
          refine JM_iald (j := ix a1) dX9_taken_55 c_108 (inb_vp b3) rfl ?_
          obtain ⟨b6, hF⟩ := chk hF
          refine JM_iald (j := ix (mi m 108 (ix a1))) dX9_taken_56 c_103 (inb_vp b6) rfl ?_
          obtain ⟨y7, e_y7, hF⟩ := letx_eq hF
          rw [← e_y7]
          refine J_istore_n (L' := [(3, .int y7), (0, .ref 80), (1, .int a1), (2, .int a2)]) dX9_taken_57 rfl (by decide) rfl ?_
          refine J_iload_n (j := 0) dX9_taken_58 rfl rfl ?_
          refine J_istore (L' := [(4, .int y7), (3, .int y7), (0, .ref 80), (1, .int a1), (2, .int a2)]) dX9_taken_59 (by decide) rfl ?_
          refine J_sub [2, 4, 1, 0] rfl ?_
          exact Sf_X9_taken_61 hd _ _ _ _ _ hF
        · rw [if_pos q5] at hF
          refine J_bipush (v := (-12)) dX9_taken_43 (by decide) ?_
          have e_r := Option.some.inj hF
          subst e_r
          exact J_ireturn rfl rfl dX9_taken_45 ⟨rfl, rfl⟩
      · rw [if_pos q4] at hF
        refine J_bipush (v := (-11)) dX9_taken_30 (by decide) ?_
        have e_r := Option.some.inj hF
        subst e_r
        exact J_ireturn rfl rfl dX9_taken_32 ⟨rfl, rfl⟩
    · rw [if_neg q2] at hF
      refine J_iconst (v := (-1)) dX9_taken_19 (by decide) ?_
      have e_r := Option.some.inj hF
      subst e_r
      exact J_ireturn rfl rfl dX9_taken_20 ⟨rfl, rfl⟩
def f_X8_count (a1 : Int32) (x : MX) : Option Int32 :=
  if a1 = 0 then
  some (xi x 5 12)
  else
  if a1 = 1 then
  some (xi x 5 13)
  else
  if a1 = 2 then
  some (xi x 5 14)
  else
  if a1 = 3 then
  if isLawB x.1.2 = true then
  some (xi x x.1.2 8)
  else none
  else
  if a1 = 4 then
  some (xi x 20 4)
  else
  if a1 = 5 then
  some (xi x 51 2)
  else
  if a1 = 6 then
  some (xi x 51 3)
  else
  some (-1)
theorem S_X8_count {g : GC} {d : Nat} {a1 : Int32} {x : MX} {m : MM} {r : Int32} (hd : 1 ≤ d) 
  (hF : f_X8_count a1 x = some r) : JC g m_X8_count d 0 0 [.ref 5, .int a1] (ST x m) (EQ (some (.int r)) (ST x m)) := by
  refine JC.of (by decide +kernel) (Nat.le_of_ble_eq_true rfl) ?_
  change J g m_X8_count d 0 0 0 [(0, .ref 5), (1, .int a1)] [] (ST x m) 0 0 (EQ (some (.int r)) (ST x m))
  unfold f_X8_count at hF
  refine J_iload_n (j := 1) dX8_count_0 rfl rfl ?_
  refine J_tsw (n := 6) (td := 91) (cs := [(0, 44), (1, 49), (2, 54), (3, 59), (4, 67), (5, 75), (6, 83)]) dX8_count_1 (by decide) (by decide) (by decide +kernel) (by decide +kernel) ?_
  refine J_sw (fun q1 => ?_) (fun q1 => ?_)
  · rw [if_pos q1] at hF
    refine J_aload_n (j := 0) dX8_count_44 rfl rfl ?_
    refine JX_getI fl_WithOneHand_80_7 dX8_count_45 c_5 rfl ?_
    have e_r := Option.some.inj hF
    subst e_r
    exact J_ireturn rfl rfl dX8_count_48 ⟨rfl, rfl⟩
  rw [if_neg q1] at hF
  refine J_sw (fun q2 => ?_) (fun q2 => ?_)
  · rw [if_pos q2] at hF
    refine J_aload_n (j := 0) dX8_count_49 rfl rfl ?_
    refine JX_getI fl_WithOneHand_84_7 dX8_count_50 c_5 rfl ?_
    have e_r := Option.some.inj hF
    subst e_r
    exact J_ireturn rfl rfl dX8_count_53 ⟨rfl, rfl⟩
  rw [if_neg q2] at hF
  refine J_sw (fun q3 => ?_) (fun q3 => ?_)
  · rw [if_pos q3] at hF
    refine J_aload_n (j := 0) dX8_count_54 rfl rfl ?_
    refine JX_getI fl_WithOneHand_106_7 dX8_count_55 c_5 rfl ?_
    have e_r := Option.some.inj hF
    subst e_r
    exact J_ireturn rfl rfl dX8_count_58 ⟨rfl, rfl⟩
  rw [if_neg q3] at hF
  refine J_sw (fun q4 => ?_) (fun q4 => ?_)
  · rw [if_pos q4] at hF
    refine J_aload_n (j := 0) dX8_count_59 rfl rfl ?_
    obtain ⟨b5, hF⟩ := chk hF
    refine JX_getR (r := x.1.2) fl_WithOneHand_72_7 dX8_count_60 c_5 rfl rfl ?_
    refine JX_getI fl_WithOneHand_122_3 dX8_count_63 (c_law (law_of b5)) rfl ?_
    have e_r := Option.some.inj hF
    subst e_r
    exact J_ireturn rfl rfl dX8_count_66 ⟨rfl, rfl⟩
  rw [if_neg q4] at hF
  refine J_sw (fun q6 => ?_) (fun q6 => ?_)
  · rw [if_pos q6] at hF
    refine J_aload_n (j := 0) dX8_count_67 rfl rfl ?_
    refine JX_getR (r := 20) fl_WithOneHand_17_7 dX8_count_68 c_5 rfl rfl ?_
    refine JX_getI fl_WithOneHand_265_1 dX8_count_71 c_20 rfl ?_
    have e_r := Option.some.inj hF
    subst e_r
    exact J_ireturn rfl rfl dX8_count_74 ⟨rfl, rfl⟩
  rw [if_neg q6] at hF
  refine J_sw (fun q7 => ?_) (fun q7 => ?_)
  · rw [if_pos q7] at hF
    refine J_aload_n (j := 0) dX8_count_75 rfl rfl ?_
    refine JX_getR (r := 51) fl_WithOneHand_52_7 dX8_count_76 c_5 rfl rfl ?_
    refine JX_getI fl_WithOneHand_286_2 dX8_count_79 c_51 rfl ?_
    have e_r := Option.some.inj hF
    subst e_r
    exact J_ireturn rfl rfl dX8_count_82 ⟨rfl, rfl⟩
  rw [if_neg q7] at hF
  refine J_sw (fun q8 => ?_) (fun q8 => ?_)
  · rw [if_pos q8] at hF
    refine J_aload_n (j := 0) dX8_count_83 rfl rfl ?_
    refine JX_getR (r := 51) fl_WithOneHand_52_7 dX8_count_84 c_5 rfl rfl ?_
    refine JX_getI fl_WithOneHand_295_2 dX8_count_87 c_51 rfl ?_
    have e_r := Option.some.inj hF
    subst e_r
    exact J_ireturn rfl rfl dX8_count_90 ⟨rfl, rfl⟩
  rw [if_neg q8] at hF
  refine J_swd ?_
  refine J_iconst (v := (-1)) dX8_count_91 (by decide) ?_
  have e_r := Option.some.inj hF
  subst e_r
  exact J_ireturn rfl rfl dX8_count_92 ⟨rfl, rfl⟩
def f_X9_count (a1 : Int32) (m : MM) : Int32 :=
  if a1 = 0 then
  mi m 80 0
  else
  if a1 = 1 then
  mi m 80 1
  else
  if a1 = 2 then
  mi m 80 2
  else
  if a1 = 3 then
  mi m 80 5
  else
  if a1 = 4 then
  mi m 80 28
  else
  if a1 = 5 then
  mi m 80 8
  else
  if a1 = 6 then
  mi m 80 7
  else
  (-1)
theorem S_X9_count {g : GC} {d : Nat} {a1 : Int32} {x : MX} {m : MM} {r : Int32} (hd : 1 ≤ d) 
  (hF : f_X9_count a1 m = r) : JC g m_X9_count d 0 0 [.ref 80, .int a1] (ST x m) (EQ (some (.int r)) (ST x m)) := by
  refine JC.of (by decide +kernel) (Nat.le_of_ble_eq_true rfl) ?_
  change J g m_X9_count d 0 0 0 [(0, .ref 80), (1, .int a1)] [] (ST x m) 0 0 (EQ (some (.int r)) (ST x m))
  unfold f_X9_count at hF
  refine J_iload_n (j := 1) dX9_count_0 rfl rfl ?_
  refine J_tsw (n := 6) (td := 79) (cs := [(0, 44), (1, 49), (2, 54), (3, 59), (4, 64), (5, 69), (6, 74)]) dX9_count_1 (by decide) (by decide) (by decide +kernel) (by decide +kernel) ?_
  refine J_sw (fun q1 => ?_) (fun q1 => ?_)
  · rw [if_pos q1] at hF
    refine J_aload_n (j := 0) dX9_count_44 rfl rfl ?_
    refine JM_getI fl_WithOneHandModel_108_8 dX9_count_45 c_80 rfl ?_
    subst hF
    exact J_ireturn rfl rfl dX9_count_48 ⟨rfl, rfl⟩
  rw [if_neg q1] at hF
  refine J_sw (fun q2 => ?_) (fun q2 => ?_)
  · rw [if_pos q2] at hF
    refine J_aload_n (j := 0) dX9_count_49 rfl rfl ?_
    refine JM_getI fl_WithOneHandModel_111_8 dX9_count_50 c_80 rfl ?_
    subst hF
    exact J_ireturn rfl rfl dX9_count_53 ⟨rfl, rfl⟩
  rw [if_neg q2] at hF
  refine J_sw (fun q3 => ?_) (fun q3 => ?_)
  · rw [if_pos q3] at hF
    refine J_aload_n (j := 0) dX9_count_54 rfl rfl ?_
    refine JM_getI fl_WithOneHandModel_130_8 dX9_count_55 c_80 rfl ?_
    subst hF
    exact J_ireturn rfl rfl dX9_count_58 ⟨rfl, rfl⟩
  rw [if_neg q3] at hF
  refine J_sw (fun q4 => ?_) (fun q4 => ?_)
  · rw [if_pos q4] at hF
    refine J_aload_n (j := 0) dX9_count_59 rfl rfl ?_
    refine JM_getI fl_WithOneHandModel_168_8 dX9_count_60 c_80 rfl ?_
    subst hF
    exact J_ireturn rfl rfl dX9_count_63 ⟨rfl, rfl⟩
  rw [if_neg q4] at hF
  refine J_sw (fun q5 => ?_) (fun q5 => ?_)
  · rw [if_pos q5] at hF
    refine J_aload_n (j := 0) dX9_count_64 rfl rfl ?_
    refine JM_getI fl_WithOneHandModel_142_8 dX9_count_65 c_80 rfl ?_
    subst hF
    exact J_ireturn rfl rfl dX9_count_68 ⟨rfl, rfl⟩
  rw [if_neg q5] at hF
  refine J_sw (fun q6 => ?_) (fun q6 => ?_)
  · rw [if_pos q6] at hF
    refine J_aload_n (j := 0) dX9_count_69 rfl rfl ?_
    refine JM_getI fl_WithOneHandModel_343_8 dX9_count_70 c_80 rfl ?_
    subst hF
    exact J_ireturn rfl rfl dX9_count_73 ⟨rfl, rfl⟩
  rw [if_neg q6] at hF
  refine J_sw (fun q7 => ?_) (fun q7 => ?_)
  · rw [if_pos q7] at hF
    refine J_aload_n (j := 0) dX9_count_74 rfl rfl ?_
    refine JM_getI fl_WithOneHandModel_346_8 dX9_count_75 c_80 rfl ?_
    subst hF
    exact J_ireturn rfl rfl dX9_count_78 ⟨rfl, rfl⟩
  rw [if_neg q7] at hF
  refine J_swd ?_
  refine J_iconst (v := (-1)) dX9_count_79 (by decide) ?_
  subst hF
  exact J_ireturn rfl rfl dX9_count_80 ⟨rfl, rfl⟩
