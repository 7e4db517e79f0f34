theorem need_s {l o : Nat} (h : l < 6) : need l o = need (l + 1) o + 1 := by
  unfold need
  omega
theorem PA_loop {T : Nat → Int32} {L l o : Nat} (hL : L ≤ 120) (hl : isLp l) (hP : ∀ pos, pos ≤ L → PA T L (l + 1) o pos) (pos : Nat) (hp : pos ≤ L) : PA T L l o pos := by
  have hl5 : l < 5 := by rcases hl with e | e | e | e <;> omega
  have nd := need_s (l := l) (o := o) (by omega)
  have zl : nI l < 5 := (nI_lt6 (c := 5) (by omega) (by decide)).mpr hl5
  have eLF : LF = 4999 + 1 := rfl
  obtain ⟨ok1, pos1, c1, v1, P1, P2, P3, P4, P5⟩ := hP pos hp
  have rX : ∀ (n h : Nat) (x : MX), (G_X3_readsPart (n + 1)).1 h (nI l) (nI o) x = ob2 ((G_X3_readsPart n).1 h (nI (l + 1)) (nI o) x) (fun r2 x3 => if r2 = true then f_X3_readsPart_26 (G_X3_readsPart n).1 (G_X3_readsPart n).2 LF h (nI l) (nI o) 0 x3 else some (false, x3)) := by
    intro n h x
    show R_X3_readsPart (G_X3_readsPart n).1 (G_X3_readsPart n).2 _ _ _ _ = _
    unfold R_X3_readsPart
    rw [if_pos zl, nI_1]
  cases ok1 with
  | false =>
    refine ⟨false, pos1, [], v1, fun n h x sz hn sx hs => ?_, fun n m hn sm => ?_, P3, P4, fun q => by cases q⟩
    · obtain ⟨n, rfl⟩ : ∃ e, n = e + 1 := ⟨n - 1, by omega⟩
      obtain ⟨x1, X1, X2, X3, X4⟩ := P1 n h x sz (by omega) sx hs
      refine ⟨x1, ?_, X2, X3, fun q => by cases q⟩
      rw [rX, X1, ob2_s]
      rfl
    · obtain ⟨n, rfl⟩ : ∃ e, n = e + 1 := ⟨n - 1, by omega⟩
      obtain ⟨m1, M1, M2, M3, M4, M5⟩ := P2 n m (by omega) sm
      refine ⟨m1, ?_, M2, M3, M4, M5⟩
      rw [selM_s hl, M1, ob_s, eLF, loopM_no hl n 4999 M5]
  | true =>
    obtain ⟨Q1, Q2, Q3, Q4⟩ := P5 rfl
    obtain ⟨okF, posF, cF, vF, F1, F2, F3, F4, F5, F6⟩ := LoP_ex hL hl hP (L - pos1) pos1 c1 v1 (Nat.le_refl _) P4
    refine ⟨okF, posF, cF, vF, fun n h x sz hn sx hs => ?_, fun n m hn sm => ?_, by omega, F4, fun q => ?_⟩
    · obtain ⟨n, rfl⟩ : ∃ e, n = e + 1 := ⟨n - 1, by omega⟩
      obtain ⟨x1, X1, X2, X3, X4⟩ := P1 n h x sz (by omega) sx hs
      obtain ⟨X5, X6⟩ := X4 rfl
      obtain ⟨x', r1, r2, r3⟩ := F1 n h x1 sz 0 LF (by omega) (X2.xs sx X3 X5) X6 (by omega) (by omega) (by unfold LF; omega)
      refine ⟨x', ?_, X2.tr r2 (by omega), r3⟩
      rw [rX, X1, ob2_s, if_pos rfl]
      exact r1
    · obtain ⟨n, rfl⟩ : ∃ e, n = e + 1 := ⟨n - 1, by omega⟩
      obtain ⟨m1, M1, M2, M3, M4, M5⟩ := P2 n m (by omega) sm
      obtain ⟨m', N1, N2, N3⟩ := F2 n m1 LF (by omega) (M2.st sm M3 M4 M5) (by unfold LF; omega)
      refine ⟨m', ?_, M2.tr N2, N3⟩
      rw [selM_s hl, M1, ob_s, N1]
    · obtain ⟨R1, R2, R3⟩ := F6 q
      refine ⟨by omega, by omega, fun n m nm hn se hd => ?_, R3 (Q4.mono (by have := dep_s (o := o) hl5; omega))⟩
      obtain ⟨n, rfl⟩ : ∃ e, n = e + 1 := ⟨n - 1, by omega⟩
      have hd2 : f_X3_isDigit (chr T L pos1) = false := by
        by_cases w : f_X3_levelOf (chr T L pos1) = nI l
        · exact (sg_lev hl5 w).2
        · rw [← F5 w]; exact hd
      obtain ⟨m1, M1, M2, M3⟩ := Q3 n m nm (by omega) se hd2
      obtain ⟨m', N1, N2, N3⟩ := R2 n m1 nm LF (by omega) (M2.st se M3) hd (by unfold LF; omega)
      refine ⟨m', ?_, M2.tr N2, N3⟩
      rw [selE_s hl, M1, ob2_s, N1]
/-! a comparison: once at most -/
def cmM (n : Nat) (m1 : MM) : Option MM := ob2 (f_X9_isNext 60 m1) (fun r3 m4 => if r3 = true then ob (selM 3 (G_X9_readsO n) m4) (fun m7 => some m7) else ob2 (f_X9_isNext 61 m4) (fun r9 m10 => if r9 = true then ob (selM 3 (G_X9_readsO n) m10) (fun m7 => some m7) else ob2 (f_X9_isNext 62 m10) (fun r13 m14 => if r13 = true then ob (selM 3 (G_X9_readsO n) m14) (fun m7 => some m7) else some m14)))
def cmE (n : Nat) (r1 : Int32) (m2 : MM) : Option (Int32 × MM) := ob2 (f_X9_isSeen 60 m2) (fun r4 m5 => if r4 = true then ob2 (selE 3 (G_X9_takesO n) m5) (fun r24 m25 => if r24 ≤ r1 then some (f_X9_one 0, m25) else some (f_X9_one 1, m25)) else ob2 (f_X9_isSeen 61 m5) (fun r8 m9 => if r8 = true then ob2 (selE 3 (G_X9_takesO n) m9) (fun r20 m21 => if r1 = r20 then some (f_X9_one 1, m21) else some (f_X9_one 0, m21)) else ob2 (f_X9_isSeen 62 m9) (fun r12 m13 => if r12 = true then ob2 (selE 3 (G_X9_takesO n) m13) (fun r16 m17 => if r1 ≤ r16 then some (f_X9_one 0, m17) else some (f_X9_one 1, m17)) else some (r1, m13))))
theorem selM_2 (n : Nat) (m : MM) : selM 2 (G_X9_readsO (n + 1)) m = ob (selM 3 (G_X9_readsO n) m) (cmM n) := rfl
theorem selE_2 (n : Nat) (m : MM) : selE 2 (G_X9_takesO (n + 1)) m = ob2 (selE 3 (G_X9_takesO n) m) (fun r m2 => cmE n r m2) := rfl
theorem cmM_no {n : Nat} {m : MM} (h : mi m 80 32 = 0) : cmM n m = some m := by
  unfold cmM
  rw [isNext_no h, ob2_s, if_neg (by decide), isNext_no h, ob2_s, if_neg (by decide), isNext_no h, ob2_s, if_neg (by decide)]
theorem obId {α : Type} (o : Option α) : ob o (fun m => some m) = o := by cases o <;> rfl
theorem cmM_s {T : Nat → Int32} {L pos o : Nat} {m : MM} (s : MS T L m pos o) (hL : L ≤ 120) (hp : pos ≤ L) (n : Nat) : cmM n m = if f_X3_levelOf (chr T L pos) = nI 2 then selM 3 (G_X9_readsO n) (goM pos m) else some m := by
  unfold cmM
  rw [isNext_eq s hL hp]
  by_cases c : chr T L pos = 60
  · rw [if_pos c, if_pos ((lv_2 _).mpr (Or.inl c)), ob2_s, if_pos rfl, obId]
  · rw [if_neg c, ob2_s, if_neg (by decide), isNext_eq s hL hp]
    by_cases c2 : chr T L pos = 61
    · rw [if_pos c2, if_pos ((lv_2 _).mpr (Or.inr (Or.inl c2))), ob2_s, if_pos rfl, obId]
    · rw [if_neg c2, ob2_s, if_neg (by decide), isNext_eq s hL hp]
      by_cases c3 : chr T L pos = 62
      · rw [if_pos c3, if_pos ((lv_2 _).mpr (Or.inr (Or.inr c3))), ob2_s, if_pos rfl, obId]
      · rw [if_neg c3, if_neg (fun q => by rcases (lv_2 _).mp q with w | w | w <;> contradiction), ob2_s, if_neg (by decide)]
theorem cmE_s {T : Nat → Int32} {L pos : Nat} {nm : Nat → Int32} {m : MM} (s : ES T L m pos nm) (hL : L ≤ 120) (hp : pos ≤ L) (n : Nat) (v : Int32) : cmE n v m = if f_X3_levelOf (chr T L pos) = nI 2 then ob2 (selE 3 (G_X9_takesO n) (goM pos m)) (fun r m' => some (jn (chr T L pos) v r, m')) else some (v, m) := by
  unfold cmE
  rw [isSeen_eq s hL hp]
  by_cases c : chr T L pos = 60
  · rw [if_pos c, if_pos ((lv_2 _).mpr (Or.inl c)), ob2_s, if_pos rfl, c]
    congr 1
    funext r m'
    rw [jn_lt]
    split <;> rfl
  · rw [if_neg c, ob2_s, if_neg (by decide), isSeen_eq s hL hp]
    by_cases c2 : chr T L pos = 61
    · rw [if_pos c2, if_pos ((lv_2 _).mpr (Or.inr (Or.inl c2))), ob2_s, if_pos rfl, c2]
      congr 1
      funext r m'
      rw [jn_eqs]
      split <;> rfl
    · rw [if_neg c2, ob2_s, if_neg (by decide), isSeen_eq s hL hp]
      by_cases c3 : chr T L pos = 62
      · rw [if_pos c3, if_pos ((lv_2 _).mpr (Or.inr (Or.inr c3))), ob2_s, if_pos rfl, c3]
        congr 1
        funext r m'
        rw [jn_gt]
        split <;> rfl
      · rw [if_neg c3, if_neg (fun q => by rcases (lv_2 _).mp q with w | w | w <;> contradiction), ob2_s, if_neg (by decide)]
theorem PA_cmp {T : Nat → Int32} {L o : Nat} (hL : L ≤ 120) (hP : ∀ pos, pos ≤ L → PA T L 3 o pos) (pos : Nat) (hp : pos ≤ L) : PA T L 2 o pos := by
  have nd : need 2 o = need 3 o + 1 := need_s (by omega)
  have dd : dep 3 o + 1 = dep 2 o := dep_s (by decide)
  obtain ⟨ok1, pos1, c1, v1, P1, P2, P3, P4, P5⟩ := hP pos hp
  have rX : ∀ (n h : Nat) (x : MX), (G_X3_readsPart (n + 1)).1 h (nI 2) (nI o) x = ob2 ((G_X3_readsPart n).1 h (nI 3) (nI o) x) (fun r2 x3 => if r2 = true then B_X3_readsPart_26 (G_X3_readsPart n).1 (G_X3_readsPart n).2 (f_X3_readsPart_26 (G_X3_readsPart n).1 (G_X3_readsPart n).2 4999) h (nI 2) (nI o) (nI 0) x3 else some (false, x3)) := by
    intro n h x
    show R_X3_readsPart (G_X3_readsPart n).1 (G_X3_readsPart n).2 h (nI 2) (nI o) x = _
    unfold R_X3_readsPart
    rw [if_pos (show nI 2 < 5 by decide), nI_1]
    rfl
  cases ok1 with
  | false =>
    refine ⟨false, pos1, [], v1, fun n h x sz hn sx hs => ?_, fun n m hn sm => ?_, P3, P4, fun q => by cases q⟩
    · obtain ⟨n, rfl⟩ : ∃ e, n = e + 1 := ⟨n - 1, by omega⟩
      obtain ⟨x1, X1, X2, X3, X4⟩ := P1 n h x sz (by omega) sx hs
      refine ⟨x1, ?_, X2, X3, fun q => by cases q⟩
      rw [rX, X1, ob2_s]
      rfl
    · obtain ⟨n, rfl⟩ : ∃ e, n = e + 1 := ⟨n - 1, by omega⟩
      obtain ⟨m1, M1, M2, M3, M4, M5⟩ := P2 n m (by omega) sm
      refine ⟨m1, ?_, M2, M3, M4, M5⟩
      rw [selM_2, M1, ob_s, cmM_no M5]
  | true =>
    obtain ⟨Q1, Q2, Q3, Q4⟩ := P5 rfl
    by_cases e : f_X3_levelOf (chr T L pos1) = nI 2
    · have hpL := lev_lt (l := 2) (by decide) e
      obtain ⟨sg, sgd⟩ := sg_lev (l := 2) (by decide) e
      obtain ⟨ok2, pos2, c2, v2, P1', P2', P3', P4', P5'⟩ := hP (pos1 + 1) (by omega)
      cases ok2 with
      | false =>
        refine ⟨false, pos2, [], v1, fun n h x sz hn sx hs => ?_, fun n m hn sm => ?_, by omega, P4', fun q => by cases q⟩
        · obtain ⟨n, rfl⟩ : ∃ e, n = e + 1 := ⟨n - 1, by omega⟩
          obtain ⟨x1, X1, X2, X3, X4⟩ := P1 n h x sz (by omega) sx hs
          obtain ⟨X5, X6⟩ := X4 rfl
          have s1 := X2.xs sx X3 X5
          have z : ¬ nI L ≤ nI 0 := fun q => by have := (nI_lec (by omega) (by omega)).mp q; omega
          obtain ⟨x2, Y1, Y2, Y3, Y4⟩ := P1' n h (goX h pos1 x1) (sz + c1.length) (by omega) (goX_xs s1) (by omega)
          refine ⟨x2, ?_, (X2.tr (goX_fr (sz := sz + c1.length)) (by omega)).tr Y2 (by omega), Y3, fun q => by cases q⟩
          rw [rX, X1, ob2_s, if_pos rfl]
          unfold B_X3_readsPart_26
          rw [s1.2.2.1, if_neg z, hereX s1 hL P4, ob_s, if_pos e, ob_s, goX_eq s1, letx_s, nI_1, Y1, ob2_s]
          rfl
        · obtain ⟨n, rfl⟩ : ∃ e, n = e + 1 := ⟨n - 1, by omega⟩
          obtain ⟨m1, M1, M2, M3, M4, M5⟩ := P2 n m (by omega) sm
          have s1 := M2.st sm M3 M4 M5
          obtain ⟨m2, N1, N2, N3, N4, N5⟩ := P2' n (goM pos1 m1) (by omega) (goM_st s1)
          refine ⟨m2, ?_, (M2.tr goM_fr).tr N2, N3, N4, N5⟩
          rw [selM_2, M1, ob_s, cmM_s s1 hL P4, if_pos e, N1]
      | true =>
        obtain ⟨Q1', Q2', Q3', Q4'⟩ := P5' rfl
        have len : (c1 ++ (c2 ++ [(chr T L pos1, (0 : Int32))])).length = c1.length + c2.length + 1 := by
          rw [List.length_append, List.length_append]
          show c1.length + (c2.length + 1) = _
          omega
        refine ⟨true, pos2, c1 ++ (c2 ++ [(chr T L pos1, 0)]), fun nm => jn (chr T L pos1) (v1 nm) (v2 nm), fun n h x sz hn sx hs => ?_, fun n m hn sm => ?_, by omega, P4', fun q => ⟨by rw [len]; omega, by omega, fun n m nm hn se hd => ?_, SW_bin Q4 Q4' (by omega) (by omega) sg⟩⟩
        · obtain ⟨n, rfl⟩ : ∃ e, n = e + 1 := ⟨n - 1, by omega⟩
          obtain ⟨x1, X1, X2, X3, X4⟩ := P1 n h x sz (by omega) sx hs
          obtain ⟨X5, X6⟩ := X4 rfl
          have s1 := X2.xs sx X3 X5
          have z : ¬ nI L ≤ nI 0 := fun q => by have := (nI_lec (by omega) (by omega)).mp q; omega
          obtain ⟨x2, Y1, Y2, Y3, Y4⟩ := P1' n h (goX h pos1 x1) (sz + c1.length) (by omega) (goX_xs s1) (by omega)
          obtain ⟨Y5, Y6⟩ := Y4 rfl
          have s2 : XS T L h x2 pos2 (sz + c1.length + c2.length) := Y2.xs (goX_xs s1) Y3 Y5
          have ad := adX_eq Y5 (show sz + c1.length + c2.length < 121 by omega) (chr T L pos1) 0
          have s3 := adX_xs s2 (chr T L pos1) 0
          have fr1 : FrX h (sz + c1.length) x1 (adX h (sz + c1.length + c2.length) (chr T L pos1) 0 x2) := ((goX_fr (sz := sz + c1.length)).tr Y2 (Nat.le_refl _)).tr adX_fr (by omega)
          refine ⟨adX h (sz + c1.length + c2.length) (chr T L pos1) 0 x2, ?_, X2.tr fr1 (by omega), s3.1, fun _ => ⟨?_, ?_⟩⟩
          · rw [rX, X1, ob2_s, if_pos rfl]
            unfold B_X3_readsPart_26
            rw [s1.2.2.1, if_neg z, hereX s1 hL P4, ob_s, if_pos e, ob_s, goX_eq s1, letx_s, nI_1, Y1, ob2_s, if_pos rfl, ad, ob_s, if_pos (show nI 2 = 2 by decide)]
          · rw [s3.2.1, len, ← Nat.add_assoc, ← Nat.add_assoc]
          · rw [CodeAt.app, CodeAt.app]
            exact ⟨fr1.code X6 (Nat.le_refl _), (adX_fr (sz := sz + c1.length + c2.length)).code Y6 (Nat.le_refl _), adX_code⟩
        · obtain ⟨n, rfl⟩ : ∃ e, n = e + 1 := ⟨n - 1, by omega⟩
          obtain ⟨m1, M1, M2, M3, M4, M5⟩ := P2 n m (by omega) sm
          have s1 := M2.st sm M3 M4 M5
          obtain ⟨m2, N1, N2, N3, N4, N5⟩ := P2' n (goM pos1 m1) (by omega) (goM_st s1)
          refine ⟨m2, ?_, (M2.tr goM_fr).tr N2, N3, N4, N5⟩
          rw [selM_2, M1, ob_s, cmM_s s1 hL P4, if_pos e, N1]
        · obtain ⟨n, rfl⟩ : ∃ e, n = e + 1 := ⟨n - 1, by omega⟩
          obtain ⟨m1, M1, M2, M3⟩ := Q3 n m nm (by omega) se sgd
          have s1 := M2.st se M3
          obtain ⟨m2, N1, N2, N3⟩ := Q3' n (goM pos1 m1) nm (by omega) (goM_es s1) hd
          refine ⟨m2, ?_, (M2.tr goM_fe).tr N2, N3⟩
          rw [selE_2, M1, ob2_s, cmE_s s1 hL P4, if_pos e, N1, ob2_s]
    · refine ⟨true, pos1, c1, v1, fun n h x sz hn sx hs => ?_, fun n m hn sm => ?_, P3, P4, fun q => ⟨Q1, Q2, fun n m nm hn se hd => ?_, Q4.mono (by omega)⟩⟩
      · obtain ⟨n, rfl⟩ : ∃ e, n = e + 1 := ⟨n - 1, by omega⟩
        obtain ⟨x1, X1, X2, X3, X4⟩ := P1 n h x sz (by omega) sx hs
        obtain ⟨X5, X6⟩ := X4 rfl
        have s1 := X2.xs sx X3 X5
        refine ⟨x1, ?_, X2, X3, X4⟩
        rw [rX, X1, ob2_s, if_pos rfl]
        unfold B_X3_readsPart_26
        rw [s1.2.2.1]
        by_cases z : nI L ≤ nI 0
        · rw [if_pos z]
        · rw [if_neg z, hereX s1 hL P4, ob_s, if_neg e]
      · obtain ⟨n, rfl⟩ : ∃ e, n = e + 1 := ⟨n - 1, by omega⟩
        obtain ⟨m1, M1, M2, M3, M4, M5⟩ := P2 n m (by omega) sm
        refine ⟨m1, ?_, M2, M3, M4, M5⟩
        rw [selM_2, M1, ob_s, cmM_s (M2.st sm M3 M4 M5) hL P4, if_neg e]
      · obtain ⟨n, rfl⟩ : ∃ e, n = e + 1 := ⟨n - 1, by omega⟩
        obtain ⟨m1, M1, M2, M3⟩ := Q3 n m nm (by omega) se hd
        refine ⟨m1, ?_, M2, M3⟩
        rw [selE_2, M1, ob2_s, cmE_s (M2.st se M3) hL P4, if_neg e]
