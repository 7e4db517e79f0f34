def selM (lvl : Nat) (G : (MM → Option MM) × (MM → Option MM) × (MM → Option MM) × (MM → Option MM) × (MM → Option MM) × (MM → Option MM)) : MM → Option MM := match lvl with
  | 0 => G.2.2.2.2.2
  | 1 => G.2.2.2.2.1
  | 2 => G.2.2.2.1
  | 3 => G.2.2.1
  | 4 => G.2.1
  | _ => G.1
def selE (lvl : Nat) (G : (MM → Option (Int32 × MM)) × (MM → Option (Int32 × MM)) × (MM → Option (Int32 × MM)) × (MM → Option (Int32 × MM)) × (MM → Option (Int32 × MM)) × (MM → Option (Int32 × MM))) : MM → Option (Int32 × MM) := match lvl with
  | 0 => G.2.2.2.2.2
  | 1 => G.2.2.2.2.1
  | 2 => G.2.2.2.1
  | 3 => G.2.2.1
  | 4 => G.2.1
  | _ => G.1
def loopM (lvl n f : Nat) : MM → Option MM := match lvl with
  | 0 => f_X9_readsE_4 (G_X9_readsO n).1 (G_X9_readsO n).2.1 (G_X9_readsO n).2.2.1 (G_X9_readsO n).2.2.2.1 (G_X9_readsO n).2.2.2.2.1 (G_X9_readsO n).2.2.2.2.2 f
  | 1 => f_X9_readsA_4 (G_X9_readsO n).1 (G_X9_readsO n).2.1 (G_X9_readsO n).2.2.1 (G_X9_readsO n).2.2.2.1 (G_X9_readsO n).2.2.2.2.1 (G_X9_readsO n).2.2.2.2.2 f
  | 3 => f_X9_readsS_4 (G_X9_readsO n).1 (G_X9_readsO n).2.1 (G_X9_readsO n).2.2.1 (G_X9_readsO n).2.2.2.1 (G_X9_readsO n).2.2.2.2.1 (G_X9_readsO n).2.2.2.2.2 f
  | _ => f_X9_readsP_4 (G_X9_readsO n).1 (G_X9_readsO n).2.1 (G_X9_readsO n).2.2.1 (G_X9_readsO n).2.2.2.1 (G_X9_readsO n).2.2.2.2.1 (G_X9_readsO n).2.2.2.2.2 f
def loopE (lvl n f : Nat) : Int32 → MM → Option (Int32 × MM) := match lvl with
  | 0 => f_X9_takesE_5 (G_X9_takesO n).1 (G_X9_takesO n).2.1 (G_X9_takesO n).2.2.1 (G_X9_takesO n).2.2.2.1 (G_X9_takesO n).2.2.2.2.1 (G_X9_takesO n).2.2.2.2.2 f
  | 1 => f_X9_takesA_5 (G_X9_takesO n).1 (G_X9_takesO n).2.1 (G_X9_takesO n).2.2.1 (G_X9_takesO n).2.2.2.1 (G_X9_takesO n).2.2.2.2.1 (G_X9_takesO n).2.2.2.2.2 f
  | 3 => f_X9_takesS_5 (G_X9_takesO n).1 (G_X9_takesO n).2.1 (G_X9_takesO n).2.2.1 (G_X9_takesO n).2.2.2.1 (G_X9_takesO n).2.2.2.2.1 (G_X9_takesO n).2.2.2.2.2 f
  | _ => f_X9_takesP_5 (G_X9_takesO n).1 (G_X9_takesO n).2.1 (G_X9_takesO n).2.2.1 (G_X9_takesO n).2.2.2.1 (G_X9_takesO n).2.2.2.2.1 (G_X9_takesO n).2.2.2.2.2 f
def isLp (l : Nat) : Prop := l = 0 ∨ l = 1 ∨ l = 3 ∨ l = 4
theorem loopM_0 (n f : Nat) : loopM 0 n f = f_X9_readsE_4 (G_X9_readsO n).1 (G_X9_readsO n).2.1 (G_X9_readsO n).2.2.1 (G_X9_readsO n).2.2.2.1 (G_X9_readsO n).2.2.2.2.1 (G_X9_readsO n).2.2.2.2.2 f := rfl
theorem loopE_0 (n f : Nat) : loopE 0 n f = f_X9_takesE_5 (G_X9_takesO n).1 (G_X9_takesO n).2.1 (G_X9_takesO n).2.2.1 (G_X9_takesO n).2.2.2.1 (G_X9_takesO n).2.2.2.2.1 (G_X9_takesO n).2.2.2.2.2 f := rfl
theorem selM_0 (n : Nat) (m : MM) : selM 0 (G_X9_readsO (n + 1)) m = R_X9_readsE (G_X9_readsO n).1 (G_X9_readsO n).2.1 (G_X9_readsO n).2.2.1 (G_X9_readsO n).2.2.2.1 (G_X9_readsO n).2.2.2.2.1 (G_X9_readsO n).2.2.2.2.2 m := rfl
theorem selE_0 (n : Nat) (m : MM) : selE 0 (G_X9_takesO (n + 1)) m = R_X9_takesE (G_X9_takesO n).1 (G_X9_takesO n).2.1 (G_X9_takesO n).2.2.1 (G_X9_takesO n).2.2.2.1 (G_X9_takesO n).2.2.2.2.1 (G_X9_takesO n).2.2.2.2.2 m := rfl
theorem loopM_1 (n f : Nat) : loopM 1 n f = f_X9_readsA_4 (G_X9_readsO n).1 (G_X9_readsO n).2.1 (G_X9_readsO n).2.2.1 (G_X9_readsO n).2.2.2.1 (G_X9_readsO n).2.2.2.2.1 (G_X9_readsO n).2.2.2.2.2 f := rfl
theorem loopE_1 (n f : Nat) : loopE 1 n f = f_X9_takesA_5 (G_X9_takesO n).1 (G_X9_takesO n).2.1 (G_X9_takesO n).2.2.1 (G_X9_takesO n).2.2.2.1 (G_X9_takesO n).2.2.2.2.1 (G_X9_takesO n).2.2.2.2.2 f := rfl
theorem selM_1 (n : Nat) (m : MM) : selM 1 (G_X9_readsO (n + 1)) m = R_X9_readsA (G_X9_readsO n).1 (G_X9_readsO n).2.1 (G_X9_readsO n).2.2.1 (G_X9_readsO n).2.2.2.1 (G_X9_readsO n).2.2.2.2.1 (G_X9_readsO n).2.2.2.2.2 m := rfl
theorem selE_1 (n : Nat) (m : MM) : selE 1 (G_X9_takesO (n + 1)) m = R_X9_takesA (G_X9_takesO n).1 (G_X9_takesO n).2.1 (G_X9_takesO n).2.2.1 (G_X9_takesO n).2.2.2.1 (G_X9_takesO n).2.2.2.2.1 (G_X9_takesO n).2.2.2.2.2 m := rfl
theorem loopM_3 (n f : Nat) : loopM 3 n f = f_X9_readsS_4 (G_X9_readsO n).1 (G_X9_readsO n).2.1 (G_X9_readsO n).2.2.1 (G_X9_readsO n).2.2.2.1 (G_X9_readsO n).2.2.2.2.1 (G_X9_readsO n).2.2.2.2.2 f := rfl
theorem loopE_3 (n f : Nat) : loopE 3 n f = f_X9_takesS_5 (G_X9_takesO n).1 (G_X9_takesO n).2.1 (G_X9_takesO n).2.2.1 (G_X9_takesO n).2.2.2.1 (G_X9_takesO n).2.2.2.2.1 (G_X9_takesO n).2.2.2.2.2 f := rfl
theorem selM_3 (n : Nat) (m : MM) : selM 3 (G_X9_readsO (n + 1)) m = R_X9_readsS (G_X9_readsO n).1 (G_X9_readsO n).2.1 (G_X9_readsO n).2.2.1 (G_X9_readsO n).2.2.2.1 (G_X9_readsO n).2.2.2.2.1 (G_X9_readsO n).2.2.2.2.2 m := rfl
theorem selE_3 (n : Nat) (m : MM) : selE 3 (G_X9_takesO (n + 1)) m = R_X9_takesS (G_X9_takesO n).1 (G_X9_takesO n).2.1 (G_X9_takesO n).2.2.1 (G_X9_takesO n).2.2.2.1 (G_X9_takesO n).2.2.2.2.1 (G_X9_takesO n).2.2.2.2.2 m := rfl
theorem loopM_4 (n f : Nat) : loopM 4 n f = f_X9_readsP_4 (G_X9_readsO n).1 (G_X9_readsO n).2.1 (G_X9_readsO n).2.2.1 (G_X9_readsO n).2.2.2.1 (G_X9_readsO n).2.2.2.2.1 (G_X9_readsO n).2.2.2.2.2 f := rfl
theorem loopE_4 (n f : Nat) : loopE 4 n f = f_X9_takesP_5 (G_X9_takesO n).1 (G_X9_takesO n).2.1 (G_X9_takesO n).2.2.1 (G_X9_takesO n).2.2.2.1 (G_X9_takesO n).2.2.2.2.1 (G_X9_takesO n).2.2.2.2.2 f := rfl
theorem selM_4 (n : Nat) (m : MM) : selM 4 (G_X9_readsO (n + 1)) m = R_X9_readsP (G_X9_readsO n).1 (G_X9_readsO n).2.1 (G_X9_readsO n).2.2.1 (G_X9_readsO n).2.2.2.1 (G_X9_readsO n).2.2.2.2.1 (G_X9_readsO n).2.2.2.2.2 m := rfl
theorem selE_4 (n : Nat) (m : MM) : selE 4 (G_X9_takesO (n + 1)) m = R_X9_takesP (G_X9_takesO n).1 (G_X9_takesO n).2.1 (G_X9_takesO n).2.2.1 (G_X9_takesO n).2.2.2.1 (G_X9_takesO n).2.2.2.2.1 (G_X9_takesO n).2.2.2.2.2 m := rfl
theorem selMp_1 (n : Nat) : selM 1 (G_X9_readsO n) = (G_X9_readsO n).2.2.2.2.1 := rfl
theorem selEp_1 (n : Nat) : selE 1 (G_X9_takesO n) = (G_X9_takesO n).2.2.2.2.1 := rfl
theorem selMp_2 (n : Nat) : selM 2 (G_X9_readsO n) = (G_X9_readsO n).2.2.2.1 := rfl
theorem selEp_2 (n : Nat) : selE 2 (G_X9_takesO n) = (G_X9_takesO n).2.2.2.1 := rfl
theorem selMp_4 (n : Nat) : selM 4 (G_X9_readsO n) = (G_X9_readsO n).2.1 := rfl
theorem selEp_4 (n : Nat) : selE 4 (G_X9_takesO n) = (G_X9_takesO n).2.1 := rfl
theorem selMp_5 (n : Nat) : selM 5 (G_X9_readsO n) = (G_X9_readsO n).1 := rfl
theorem selEp_5 (n : Nat) : selE 5 (G_X9_takesO n) = (G_X9_takesO n).1 := rfl
theorem selM_s {l : Nat} (hl : isLp l) (n : Nat) (m : MM) : selM l (G_X9_readsO (n + 1)) m = ob (selM (l + 1) (G_X9_readsO n) m) (loopM l n LF) := by
  rcases hl with e | e | e | e <;> subst e
  · rw [selM_0, loopM_0, selMp_1]; unfold R_X9_readsE; rfl
  · rw [selM_1, loopM_1, selMp_2]; unfold R_X9_readsA; rfl
  · rw [selM_3, loopM_3, selMp_4]; unfold R_X9_readsS; rfl
  · rw [selM_4, loopM_4, selMp_5]; unfold R_X9_readsP; rfl
theorem selE_s {l : Nat} (hl : isLp l) (n : Nat) (m : MM) : selE l (G_X9_takesO (n + 1)) m = ob2 (selE (l + 1) (G_X9_takesO n) m) (fun r m2 => loopE l n LF r m2) := by
  rcases hl with e | e | e | e <;> subst e
  · rw [selE_0, loopE_0, selEp_1]; unfold R_X9_takesE; rfl
  · rw [selE_1, loopE_1, selEp_2]; unfold R_X9_takesA; rfl
  · rw [selE_3, loopE_3, selEp_4]; unfold R_X9_takesS; rfl
  · rw [selE_4, loopE_4, selEp_5]; unfold R_X9_takesP; rfl
theorem lv_0 (c : Int32) : f_X3_levelOf c = nI 0 ↔ c = 124 := lev_0 c
theorem lv_1 (c : Int32) : f_X3_levelOf c = nI 1 ↔ c = 38 := lev_1 c
theorem lv_2 (c : Int32) : f_X3_levelOf c = nI 2 ↔ c = 60 ∨ c = 61 ∨ c = 62 := lev_2 c
theorem lv_3 (c : Int32) : f_X3_levelOf c = nI 3 ↔ c = 43 ∨ c = 45 := lev_3 c
theorem lv_4 (c : Int32) : f_X3_levelOf c = nI 4 ↔ c = 42 ∨ c = 47 ∨ c = 37 := lev_4 c
theorem loopM_no {l : Nat} (hl : isLp l) (n f : Nat) {m : MM} (h : mi m 80 32 = 0) : loopM l n (f + 1) m = some m := by
  rcases hl with e | e | e | e <;> subst e
  · show B_X9_readsE_4 (G_X9_readsO n).1 (G_X9_readsO n).2.1 (G_X9_readsO n).2.2.1 (G_X9_readsO n).2.2.2.1 (G_X9_readsO n).2.2.2.2.1 (G_X9_readsO n).2.2.2.2.2 _ _ = _
    unfold B_X9_readsE_4
    rw [isNext_no h, ob2_s]; rfl
  · show B_X9_readsA_4 (G_X9_readsO n).1 (G_X9_readsO n).2.1 (G_X9_readsO n).2.2.1 (G_X9_readsO n).2.2.2.1 (G_X9_readsO n).2.2.2.2.1 (G_X9_readsO n).2.2.2.2.2 _ _ = _
    unfold B_X9_readsA_4
    rw [isNext_no h, ob2_s]; rfl
  · show B_X9_readsS_4 (G_X9_readsO n).1 (G_X9_readsO n).2.1 (G_X9_readsO n).2.2.1 (G_X9_readsO n).2.2.2.1 (G_X9_readsO n).2.2.2.2.1 (G_X9_readsO n).2.2.2.2.2 _ _ = _
    unfold B_X9_readsS_4
    rw [isNext_no h, ob2_s, isNext_no h, ob2_s]; rfl
  · show B_X9_readsP_4 (G_X9_readsO n).1 (G_X9_readsO n).2.1 (G_X9_readsO n).2.2.1 (G_X9_readsO n).2.2.2.1 (G_X9_readsO n).2.2.2.2.1 (G_X9_readsO n).2.2.2.2.2 _ _ = _
    unfold B_X9_readsP_4
    rw [isNext_no h, ob2_s, isNext_no h, ob2_s, isNext_no h, ob2_s]; rfl
theorem loopM_s {l : Nat} (hl : isLp l) {T : Nat → Int32} {L pos o : Nat} {m : MM} (s : MS T L m pos o) (hL : L ≤ 120) (hp : pos ≤ L) (n f : Nat) : loopM l n (f + 1) m = if f_X3_levelOf (chr T L pos) = nI l then ob (selM (l + 1) (G_X9_readsO n) (goM pos m)) (loopM l n f) else some m := by
  rcases hl with e | e | e | e <;> subst e
  · show B_X9_readsE_4 (G_X9_readsO n).1 (G_X9_readsO n).2.1 (G_X9_readsO n).2.2.1 (G_X9_readsO n).2.2.2.1 (G_X9_readsO n).2.2.2.2.1 (G_X9_readsO n).2.2.2.2.2 _ _ = _
    unfold B_X9_readsE_4
    rw [isNext_eq s hL hp]
    by_cases c : chr T L pos = 124
    · rw [if_pos c, if_pos ((lv_0 _).mpr c), ob2_s, if_pos rfl]; rfl
    · rw [if_neg c, if_neg (fun q => c ((lv_0 _).mp q)), ob2_s, if_neg (by decide)]
  · show B_X9_readsA_4 (G_X9_readsO n).1 (G_X9_readsO n).2.1 (G_X9_readsO n).2.2.1 (G_X9_readsO n).2.2.2.1 (G_X9_readsO n).2.2.2.2.1 (G_X9_readsO n).2.2.2.2.2 _ _ = _
    unfold B_X9_readsA_4
    rw [isNext_eq s hL hp]
    by_cases c : chr T L pos = 38
    · rw [if_pos c, if_pos ((lv_1 _).mpr c), ob2_s, if_pos rfl]; rfl
    · rw [if_neg c, if_neg (fun q => c ((lv_1 _).mp q)), ob2_s, if_neg (by decide)]
  · show B_X9_readsS_4 (G_X9_readsO n).1 (G_X9_readsO n).2.1 (G_X9_readsO n).2.2.1 (G_X9_readsO n).2.2.2.1 (G_X9_readsO n).2.2.2.2.1 (G_X9_readsO n).2.2.2.2.2 _ _ = _
    unfold B_X9_readsS_4 B_X9_readsS_22
    rw [isNext_eq s hL hp]
    by_cases c : chr T L pos = 43
    · rw [if_pos c, if_pos ((lv_3 _).mpr (Or.inl c)), ob2_s, if_pos rfl]; rfl
    · rw [if_neg c, ob2_s, if_neg (by decide), isNext_eq s hL hp]
      by_cases c2 : chr T L pos = 45
      · rw [if_pos c2, if_pos ((lv_3 _).mpr (Or.inr c2)), ob2_s, if_pos rfl]; rfl
      · rw [if_neg c2, if_neg (fun q => by rcases (lv_3 _).mp q with w | w <;> contradiction), ob2_s, if_neg (by decide)]
  · show B_X9_readsP_4 (G_X9_readsO n).1 (G_X9_readsO n).2.1 (G_X9_readsO n).2.2.1 (G_X9_readsO n).2.2.2.1 (G_X9_readsO n).2.2.2.2.1 (G_X9_readsO n).2.2.2.2.2 _ _ = _
    unfold B_X9_readsP_4 B_X9_readsP_31
    rw [isNext_eq s hL hp]
    by_cases c : chr T L pos = 42
    · rw [if_pos c, if_pos ((lv_4 _).mpr (Or.inl c)), ob2_s, if_pos rfl]; rfl
    · rw [if_neg c, ob2_s, if_neg (by decide), isNext_eq s hL hp]
      by_cases c2 : chr T L pos = 47
      · rw [if_pos c2, if_pos ((lv_4 _).mpr (Or.inr (Or.inl c2))), ob2_s, if_pos rfl]; rfl
      · rw [if_neg c2, ob2_s, if_neg (by decide), isNext_eq s hL hp]
        by_cases c3 : chr T L pos = 37
        · rw [if_pos c3, if_pos ((lv_4 _).mpr (Or.inr (Or.inr c3))), ob2_s, if_pos rfl]; rfl
        · rw [if_neg c3, if_neg (fun q => by rcases (lv_4 _).mp q with w | w | w <;> contradiction), ob2_s, if_neg (by decide)]
theorem jn_or (v r : Int32) : jn 124 v r = if v = 0 then (if r = 0 then 0 else 1) else 1 := by
  unfold jn f_X3_joined
  simp only [show ¬ (124 : Int32) = 37 by decide, show ¬ (124 : Int32) = 38 by decide, show ¬ (124 : Int32) = 42 by decide, show ¬ (124 : Int32) = 43 by decide, show ¬ (124 : Int32) = 45 by decide, show ¬ (124 : Int32) = 47 by decide, show ¬ (124 : Int32) = 60 by decide, show ¬ (124 : Int32) = 61 by decide, show ¬ (124 : Int32) = 62 by decide, if_false, if_true]
  repeat' split
  all_goals rfl
theorem jn_and (v r : Int32) : jn 38 v r = if v = 0 then 0 else if r = 0 then 0 else 1 := by
  unfold jn f_X3_joined
  simp only [show ¬ (38 : Int32) = 37 by decide, if_false, if_true]
  repeat' split
  all_goals rfl
theorem jn_mul (v r : Int32) : jn 42 v r = v * r := rfl
theorem jn_add (v r : Int32) : jn 43 v r = v + r := rfl
theorem jn_sub (v r : Int32) : jn 45 v r = v - r := rfl
theorem jn_div (v r : Int32) : jn 47 v r = if r = 0 then 0 else v / r := by
  unfold jn f_X3_joined
  simp only [show ¬ (47 : Int32) = 37 by decide, show ¬ (47 : Int32) = 38 by decide, show ¬ (47 : Int32) = 42 by decide, show ¬ (47 : Int32) = 43 by decide, show ¬ (47 : Int32) = 45 by decide, if_false, if_true]
  by_cases z : r = 0
  · simp only [if_pos z]; rfl
  · simp only [if_neg z, if_pos z]; rfl
theorem jn_mod (v r : Int32) : jn 37 v r = if r = 0 then 0 else v % r := by
  unfold jn f_X3_joined
  simp only [if_true]
  by_cases z : r = 0
  · simp only [if_pos z]; rfl
  · simp only [if_neg z, if_pos z]; rfl
theorem jn_lt (v r : Int32) : jn 60 v r = if r ≤ v then 0 else 1 := by
  unfold jn f_X3_joined
  simp only [show ¬ (60 : Int32) = 37 by decide, show ¬ (60 : Int32) = 38 by decide, show ¬ (60 : Int32) = 42 by decide, show ¬ (60 : Int32) = 43 by decide, show ¬ (60 : Int32) = 45 by decide, show ¬ (60 : Int32) = 47 by decide, if_false, if_true]
  split <;> rfl
theorem jn_eqs (v r : Int32) : jn 61 v r = if v = r then 1 else 0 := by
  unfold jn f_X3_joined
  simp only [show ¬ (61 : Int32) = 37 by decide, show ¬ (61 : Int32) = 38 by decide, show ¬ (61 : Int32) = 42 by decide, show ¬ (61 : Int32) = 43 by decide, show ¬ (61 : Int32) = 45 by decide, show ¬ (61 : Int32) = 47 by decide, show ¬ (61 : Int32) = 60 by decide, if_false, if_true]
  split <;> rfl
theorem jn_gt (v r : Int32) : jn 62 v r = if v ≤ r then 0 else 1 := by
  unfold jn f_X3_joined
  simp only [show ¬ (62 : Int32) = 37 by decide, show ¬ (62 : Int32) = 38 by decide, show ¬ (62 : Int32) = 42 by decide, show ¬ (62 : Int32) = 43 by decide, show ¬ (62 : Int32) = 45 by decide, show ¬ (62 : Int32) = 47 by decide, show ¬ (62 : Int32) = 60 by decide, show ¬ (62 : Int32) = 61 by decide, if_false, if_true]
  split <;> rfl
theorem loopE_s {l : Nat} (hl : isLp l) {T : Nat → Int32} {L pos : Nat} {nm : Nat → Int32} {m : MM} (s : ES T L m pos nm) (hL : L ≤ 120) (hp : pos ≤ L) (n f : Nat) (v : Int32) : loopE l n (f + 1) v m = if f_X3_levelOf (chr T L pos) = nI l then ob2 (selE (l + 1) (G_X9_takesO n) (goM pos m)) (fun r m' => loopE l n f (jn (chr T L pos) v r) m') else some (v, m) := by
  rcases hl with e | e | e | e <;> subst e
  · show B_X9_takesE_5 (G_X9_takesO n).1 (G_X9_takesO n).2.1 (G_X9_takesO n).2.2.1 (G_X9_takesO n).2.2.2.1 (G_X9_takesO n).2.2.2.2.1 (G_X9_takesO n).2.2.2.2.2 _ _ _ = _
    unfold B_X9_takesE_5 B_X9_takesE_33 B_X9_takesE_28 B_X9_takesE_33
    rw [isSeen_eq s hL hp]
    by_cases c : chr T L pos = 124
    · rw [if_pos c, if_pos ((lv_0 _).mpr c), ob2_s, if_pos rfl, c]
      show ob2 (selE 1 (G_X9_takesO n) (goM pos m)) _ = _
      congr 1
      funext r m'
      rw [jn_or]
      repeat' split
      all_goals rfl
    · rw [if_neg c, if_neg (fun q => c ((lv_0 _).mp q)), ob2_s, if_neg (by decide)]
  · show B_X9_takesA_5 (G_X9_takesO n).1 (G_X9_takesO n).2.1 (G_X9_takesO n).2.2.1 (G_X9_takesO n).2.2.2.1 (G_X9_takesO n).2.2.2.2.1 (G_X9_takesO n).2.2.2.2.2 _ _ _ = _
    unfold B_X9_takesA_5 B_X9_takesA_32 B_X9_takesA_33
    rw [isSeen_eq s hL hp]
    by_cases c : chr T L pos = 38
    · rw [if_pos c, if_pos ((lv_1 _).mpr c), ob2_s, if_pos rfl, c]
      show ob2 (selE 2 (G_X9_takesO n) (goM pos m)) _ = _
      congr 1
      funext r m'
      rw [jn_and]
      repeat' split
      all_goals rfl
    · rw [if_neg c, if_neg (fun q => c ((lv_1 _).mp q)), ob2_s, if_neg (by decide)]
  · show B_X9_takesS_5 (G_X9_takesO n).1 (G_X9_takesO n).2.1 (G_X9_takesO n).2.2.1 (G_X9_takesO n).2.2.2.1 (G_X9_takesO n).2.2.2.2.1 (G_X9_takesO n).2.2.2.2.2 _ _ _ = _
    unfold B_X9_takesS_5
    rw [isSeen_eq s hL hp]
    by_cases c : chr T L pos = 43
    · rw [if_pos c, if_pos ((lv_3 _).mpr (Or.inl c)), ob2_s, if_pos rfl, c]
      rfl
    · rw [if_neg c, ob2_s, if_neg (by decide), isSeen_eq s hL hp]
      by_cases c2 : chr T L pos = 45
      · rw [if_pos c2, if_pos ((lv_3 _).mpr (Or.inr c2)), ob2_s, if_pos rfl, c2]
        rfl
      · rw [if_neg c2, if_neg (fun q => by rcases (lv_3 _).mp q with w | w <;> contradiction), ob2_s, if_neg (by decide)]
  · show B_X9_takesP_5 (G_X9_takesO n).1 (G_X9_takesO n).2.1 (G_X9_takesO n).2.2.1 (G_X9_takesO n).2.2.2.1 (G_X9_takesO n).2.2.2.2.1 (G_X9_takesO n).2.2.2.2.2 _ _ _ = _
    unfold B_X9_takesP_5 B_X9_takesP_49 B_X9_takesP_78
    rw [isSeen_eq s hL hp]
    by_cases c : chr T L pos = 42
    · rw [if_pos c, if_pos ((lv_4 _).mpr (Or.inl c)), ob2_s, if_pos rfl, c]
      rfl
    · rw [if_neg c, ob2_s, if_neg (by decide), isSeen_eq s hL hp]
      by_cases c2 : chr T L pos = 47
      · rw [if_pos c2, if_pos ((lv_4 _).mpr (Or.inr (Or.inl c2))), ob2_s, if_pos rfl, c2]
        show ob2 (selE 5 (G_X9_takesO n) (goM pos m)) _ = _
        congr 1
        funext r m'
        rw [jn_div]
        by_cases z : r = 0
        · rw [if_pos z, if_pos z]; rfl
        · rw [if_neg z, if_neg z, if_pos z]; rfl
      · rw [if_neg c2, ob2_s, if_neg (by decide), isSeen_eq s hL hp]
        by_cases c3 : chr T L pos = 37
        · rw [if_pos c3, if_pos ((lv_4 _).mpr (Or.inr (Or.inr c3))), ob2_s, if_pos rfl, c3]
          show ob2 (selE 5 (G_X9_takesO n) (goM pos m)) _ = _
          congr 1
          funext r m'
          rw [jn_mod]
          by_cases z : r = 0
          · rw [if_pos z, if_pos z]; rfl
          · rw [if_neg z, if_neg z, if_pos z]; rfl
        · rw [if_neg c3, if_neg (fun q => by rcases (lv_4 _).mp q with w | w | w <;> contradiction), ob2_s, if_neg (by decide)]
/-! what a part gives -/
def SX (T : Nat → Int32) (L lvl o pos : Nat) (ok : Bool) (pos' : Nat) (c : List (Int32 × Int32)) : Prop := ∀ (n h : Nat) (x : MX) (sz : Nat), need lvl o ≤ n → XS T L h x pos sz → sz ≤ pos → ∃ x', (G_X3_readsPart n).1 h (nI lvl) (nI o) x = some (ok, x') ∧ FrX h sz x x' ∧ xi x' h 6 = nI pos' ∧ (ok = true → xi x' h 4 = nI (sz + c.length) ∧ CodeAt x' h sz c)
def SM (T : Nat → Int32) (L lvl o pos : Nat) (ok : Bool) (pos' : Nat) : Prop := ∀ (n : Nat) (m : MM), need lvl o ≤ n → MS T L m pos o → ∃ m', selM lvl (G_X9_readsO n) m = some m' ∧ FrM m m' ∧ mi m' 80 30 = nI pos' ∧ mi m' 80 31 = nI o ∧ mi m' 80 32 = (if ok = true then 1 else 0)
def SE (T : Nat → Int32) (L lvl o pos pos' : Nat) (v : (Nat → Int32) → Int32) : Prop := ∀ (n : Nat) (m : MM) (nm : Nat → Int32), need lvl o ≤ n → ES T L m pos nm → f_X3_isDigit (chr T L pos') = false → ∃ m', selE lvl (G_X9_takesO n) m = some (v nm, m') ∧ FrE m m' ∧ mi m' 80 30 = nI pos'
def PA (T : Nat → Int32) (L lvl o pos : Nat) : Prop := ∃ ok pos' c v, SX T L lvl o pos ok pos' c ∧ SM T L lvl o pos ok pos' ∧ pos ≤ pos' ∧ pos' ≤ L ∧ (ok = true → pos + c.length ≤ pos' ∧ pos < pos' ∧ SE T L lvl o pos pos' v ∧ SW c v (dep lvl o))
def LoP (T : Nat → Int32) (L l o pos : Nat) (c : List (Int32 × Int32)) (v : (Nat → Int32) → Int32) : Prop := ∃ ok posF cF vF,
  (∀ (n h : Nat) (x : MX) (sz i f : Nat), need (l + 1) o ≤ n → XS T L h x pos (sz + c.length) → CodeAt x h sz c → sz + c.length ≤ pos → i ≤ pos → L - pos < f → ∃ x', f_X3_readsPart_26 (G_X3_readsPart n).1 (G_X3_readsPart n).2 f h (nI l) (nI o) (nI i) x = some (ok, x') ∧ FrX h (sz + c.length) x x' ∧ xi x' h 6 = nI posF ∧ (ok = true → xi x' h 4 = nI (sz + cF.length) ∧ CodeAt x' h sz cF)) ∧
  (∀ (n : Nat) (m : MM) (f : Nat), need (l + 1) o ≤ n → MS T L m pos o → L - pos < f → ∃ m', loopM l n f m = some m' ∧ FrM m m' ∧ mi m' 80 30 = nI posF ∧ mi m' 80 31 = nI o ∧ mi m' 80 32 = (if ok = true then 1 else 0)) ∧
  pos ≤ posF ∧ posF ≤ L ∧ (¬ f_X3_levelOf (chr T L pos) = nI l → posF = pos) ∧
  (ok = true → pos + cF.length ≤ posF + c.length ∧ (∀ (n : Nat) (m : MM) (nm : Nat → Int32) (f : Nat), need (l + 1) o ≤ n → ES T L m pos nm → f_X3_isDigit (chr T L posF) = false → L - pos < f → ∃ m', loopE l n f (v nm) m = some (vF nm, m') ∧ FrE m m' ∧ mi m' 80 30 = nI posF) ∧ (SW c v (dep l o) → SW cF vF (dep l o)))
theorem dep_s {l o : Nat} (h : l < 5) : dep (l + 1) o + 1 = dep l o := by
  unfold dep
  omega
theorem LoP_ex {T : Nat → Int32} {L l o : Nat} (hL : L ≤ 120) (hl : isLp l) (hP : ∀ pos, pos ≤ L → PA T L (l + 1) o pos) : ∀ (r pos : Nat) (c : List (Int32 × Int32)) (v : (Nat → Int32) → Int32), L - pos ≤ r → pos ≤ L → LoP T L l o pos c v := by
  have hl5 : l < 5 := by rcases hl with e | e | e | e <;> omega
  have hl2 : ¬ nI l = 2 := by rcases hl with e | e | e | e <;> subst e <;> decide
  have stop : ∀ (pos : Nat) (c : List (Int32 × Int32)) (v : (Nat → Int32) → Int32), pos ≤ L → ¬ f_X3_levelOf (chr T L pos) = nI l → LoP T L l o pos c v := by
    intro pos c v hp hc
    refine ⟨true, pos, c, v, fun n h x sz i f hn sx hcd hs hi hf => ?_, fun n m f hn sm hf => ?_, Nat.le_refl _, hp, fun _ => rfl, fun _ => ⟨by omega, fun n m nm f hn se hd hf => ?_, id⟩⟩
    · obtain ⟨f, rfl⟩ : ∃ e, f = e + 1 := ⟨f - 1, by omega⟩
      refine ⟨x, ?_, FrX.rf _ _ _, sx.1, fun _ => ⟨sx.2.1, hcd⟩⟩
      show B_X3_readsPart_26 (G_X3_readsPart n).1 (G_X3_readsPart n).2 _ _ _ _ _ _ = _
      unfold B_X3_readsPart_26
      rw [sx.2.2.1]
      by_cases z : nI L ≤ nI i
      · rw [if_pos z]
      · rw [if_neg z, hereX sx hL hp, ob_s, if_neg hc]
    · obtain ⟨f, rfl⟩ : ∃ e, f = e + 1 := ⟨f - 1, by omega⟩
      refine ⟨m, ?_, FrM.rf m, sm.1, sm.2.1, sm.2.2.1⟩
      rw [loopM_s hl sm hL hp, if_neg hc]
    · obtain ⟨f, rfl⟩ : ∃ e, f = e + 1 := ⟨f - 1, by omega⟩
      refine ⟨m, ?_, FrE.rf m, se.1⟩
      rw [loopE_s hl se hL hp, if_neg hc]
  intro r
  induction r with
  | zero =>
    intro pos c v hr hp
    refine stop pos c v hp (fun e => ?_)
    have := lev_lt hl5 e
    omega
  | succ r ih =>
    intro pos c v hr hp
    by_cases e : f_X3_levelOf (chr T L pos) = nI l
    · have hpL := lev_lt hl5 e
      obtain ⟨sg, sgd⟩ := sg_lev hl5 e
      obtain ⟨ok2, pos2, c2, v2, P1, P2, P3, P4, P5⟩ := hP (pos + 1) (by omega)
      cases ok2 with
      | false =>
        refine ⟨false, pos2, c, v, fun n h x sz i f hn sx hcd hs hi hf => ?_, fun n m f hn sm hf => ?_, by omega, P4, fun q => absurd e q, fun q => by cases q⟩
        · obtain ⟨f, rfl⟩ : ∃ e, f = e + 1 := ⟨f - 1, by omega⟩
          have z : ¬ nI L ≤ nI i := fun q => by have := (nI_lec (by omega) (by omega)).mp q; omega
          obtain ⟨x1, X1, X2, X3, X4⟩ := P1 n h (goX h pos x) (sz + c.length) hn (goX_xs sx) (by omega)
          refine ⟨x1, ?_, (goX_fr (sz := sz + c.length)).tr X2 (Nat.le_refl _), X3, fun q => by cases q⟩
          show B_X3_readsPart_26 (G_X3_readsPart n).1 (G_X3_readsPart n).2 _ _ _ _ _ _ = _
          unfold B_X3_readsPart_26
          rw [sx.2.2.1, if_neg z, hereX sx hL hp, ob_s, if_pos e, ob_s, goX_eq sx, letx_s, nI_1, X1, ob2_s]
          rfl
        · obtain ⟨f, rfl⟩ : ∃ e, f = e + 1 := ⟨f - 1, by omega⟩
          obtain ⟨f, rfl⟩ : ∃ e, f = e + 1 := ⟨f - 1, by omega⟩
          obtain ⟨m1, M1, M2, M3, M4, M5⟩ := P2 n (goM pos m) hn (goM_st sm)
          refine ⟨m1, ?_, goM_fr.tr M2, M3, M4, M5⟩
          rw [loopM_s hl sm hL hp, if_pos e, M1, ob_s, loopM_no hl n f M5]
      | true =>
        obtain ⟨Q1, Q2, Q3, Q4⟩ := P5 rfl
        obtain ⟨okF, posF, cF, vF, F1, F2, F3, F4, F5, F6⟩ := ih pos2 (c ++ (c2 ++ [(chr T L pos, 0)])) (fun nm => jn (chr T L pos) (v nm) (v2 nm)) (by omega) P4
        have len : (c ++ (c2 ++ [(chr T L pos, (0 : Int32))])).length = c.length + c2.length + 1 := by
          rw [List.length_append, List.length_append]
          show c.length + (c2.length + 1) = _
          omega
        rw [len] at F6
        refine ⟨okF, posF, cF, vF, fun n h x sz i f hn sx hcd hs hi hf => ?_, fun n m f hn sm hf => ?_, by omega, F4, fun q => absurd e q, fun q => ?_⟩
        · obtain ⟨f, rfl⟩ : ∃ e, f = e + 1 := ⟨f - 1, by omega⟩
          have z : ¬ nI L ≤ nI i := fun q => by have := (nI_lec (by omega) (by omega)).mp q; omega
          obtain ⟨x1, X1, X2, X3, X4⟩ := P1 n h (goX h pos x) (sz + c.length) hn (goX_xs sx) (by omega)
          obtain ⟨X5, X6⟩ := X4 rfl
          have s1 : XS T L h x1 pos2 (sz + c.length + c2.length) := X2.xs (goX_xs sx) X3 X5
          have ad := adX_eq X5 (show sz + c.length + c2.length < 121 by omega) (chr T L pos) 0
          have s2 := adX_xs s1 (chr T L pos) 0
          have fr1 : FrX h (sz + c.length) x (adX h (sz + c.length + c2.length) (chr T L pos) 0 x1) := ((goX_fr (sz := sz + c.length)).tr X2 (Nat.le_refl _)).tr adX_fr (by omega)
          have cd : CodeAt (adX h (sz + c.length + c2.length) (chr T L pos) 0 x1) h sz (c ++ (c2 ++ [(chr T L pos, 0)])) := by
            rw [CodeAt.app, CodeAt.app]
            exact ⟨fr1.code hcd (Nat.le_refl _), (adX_fr (sz := sz + c.length + c2.length)).code X6 (Nat.le_refl _), adX_code⟩
          obtain ⟨x', r1, r2, r3⟩ := F1 n h (adX h (sz + c.length + c2.length) (chr T L pos) 0 x1) sz (i + 1) f hn (by rw [len, ← Nat.add_assoc, ← Nat.add_assoc]; exact s2) cd (by rw [len]; omega) (by omega) (by omega)
          rw [len] at r2
          refine ⟨x', ?_, fr1.tr r2 (by omega), r3⟩
          rw [← r1]
          show B_X3_readsPart_26 (G_X3_readsPart n).1 (G_X3_readsPart n).2 _ _ _ _ _ _ = _
          unfold B_X3_readsPart_26
          rw [sx.2.2.1, if_neg z, hereX sx hL hp, ob_s, if_pos e, ob_s, goX_eq sx, letx_s, nI_1, X1, ob2_s, if_pos rfl, ad, ob_s, if_neg hl2, nI_1]
        · obtain ⟨f, rfl⟩ : ∃ e, f = e + 1 := ⟨f - 1, by omega⟩
          obtain ⟨m1, M1, M2, M3, M4, M5⟩ := P2 n (goM pos m) hn (goM_st sm)
          obtain ⟨m', N1, N2, N3⟩ := F2 n m1 f hn (M2.st (goM_st sm) M3 M4 M5) (by omega)
          refine ⟨m', ?_, (goM_fr.tr M2).tr N2, N3⟩
          rw [loopM_s hl sm hL hp, if_pos e, M1, ob_s, N1]
        · obtain ⟨R1, R2, R3⟩ := F6 q
          refine ⟨by omega, fun n m nm f hn se hd hf => ?_, fun hw => R3 (SW_bin hw Q4 (Nat.le_refl _) (by rw [dep_s hl5]; exact Nat.le_refl _) sg)⟩
          obtain ⟨f, rfl⟩ : ∃ e, f = e + 1 := ⟨f - 1, by omega⟩
          have hd2 : f_X3_isDigit (chr T L pos2) = false := by
            by_cases w : f_X3_levelOf (chr T L pos2) = nI l
            · exact (sg_lev hl5 w).2
            · rw [← F5 w]; exact hd
          obtain ⟨m1, M1, M2, M3⟩ := Q3 n (goM pos m) nm hn (goM_es se) hd2
          obtain ⟨m', N1, N2, N3⟩ := R2 n m1 nm f hn (M2.st (goM_es se) M3) hd (by omega)
          refine ⟨m', ?_, (goM_fe.tr M2).tr N2, N3⟩
          rw [loopE_s hl se hL hp, if_pos e, M1, ob2_s, N1]
    · exact stop pos c v hp e
