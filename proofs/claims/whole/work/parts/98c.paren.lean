theorem PO_par {T : Nat → Int32} {L o pos : Nat} (hL : L ≤ 120) (hp : pos ≤ L) (ho : o < 6) (hc : chr T L pos = 40) (hP : PA T L 0 (o + 1) (pos + 1)) : PO5 T L o pos := by
  have hpL : pos < L := by
    refine chr_lt (T := T) (fun e => ?_)
    rw [e] at hc
    revert hc
    decide
  have h1 : f_X9_isName (chr T L pos) = false := by rw [hc]; decide
  have h2 : f_X3_nameOf (chr T L pos) < 0 := by rw [hc]; decide
  have h3 : f_X3_isDigit (chr T L pos) = false := by rw [hc]; decide
  have h33 : ¬ chr T L pos = 33 := by rw [hc]; decide
  have h45 : ¬ chr T L pos = 45 := by rw [hc]; decide
  have z3 : ¬ f_X3_isDigit (chr T L pos) = true := by rw [h3]; decide
  have z1 : ¬ f_X9_isName (chr T L pos) = true := by rw [h1]; decide
  have zo : nI o < 6 := (nI_lt6 (c := 6) (by omega) (by decide)).mpr ho
  have ne6 : ¬ nI o = 6 := fun q => by have := (nI_eqc (c := 6) (by omega) (by decide)).mp q; omega
  obtain ⟨ok1, pos1, c1, v1, P1, P2, P3, P4, P5⟩ := hP
  have nd : need 0 (o + 1) + 1 ≤ need 6 o := by unfold need; omega
  have nd5 : need 0 (o + 1) + 1 ≤ need 5 o := by unfold need; omega
  have dd : dep 0 (o + 1) ≤ dep 5 o := by unfold dep; omega
  have xop : ∀ (n h : Nat) (x : MX) (sz : Nat), XS T L h x pos sz → (G_X3_readsPart (n + 1)).2 h (nI o) x = ob2 ((G_X3_readsPart n).1 h (nI 0) (nI (o + 1)) (goX h pos x)) (fun r16 x17 => if r16 = true then ob2 (f_X3_closes h x17) (fun r20 x21 => if r20 = true then some (true, x21) else some (false, x21)) else some (false, x17)) := by
    intro n h x sz sx
    rw [opX_s]
    unfold R_X3_readsOperand B_X3_readsOperand_63
    rw [hereX sx hL hp, ob_s, if_neg z3, if_pos h2, if_pos hc, if_pos zo, goX_eq sx, letx_s, nI_1, if_pos hc]
    rfl
  have mop : ∀ (n : Nat) (m : MM), MS T L m pos o → selM 5 (G_X9_readsO (n + 1)) m = ob (selM 0 (G_X9_readsO n) (opM o pos m)) (fun m14 => if mi m14 80 32 = 0 then letx (ms m14 80 31 (mi m14 80 31 - 1)) (fun m13 => some m13) else ob2 (f_X9_isNext 41 m14) (fun r17 m18 => if r17 = true then letx (ms m18 80 31 (mi m18 80 31 - 1)) (fun m13 => some m13) else letx (ms m18 80 32 0) (fun m21 => letx (ms m21 80 31 (mi m21 80 31 - 1)) (fun m13 => some m13)))) := by
    intro n m sm
    have e32 : ¬ mi m 80 32 = 0 := by rw [sm.2.2.1]; decide
    rw [rO_s]
    unfold R_X9_readsO B_X9_readsO_93 B_X9_readsO_166
    rw [if_neg e32, nextM_eq sm hL hp, ob_s, isDig_eq, if_neg z3, if_neg z1, sm.2.1, if_neg ne6, opM_eq sm, if_neg h33, if_neg h45, if_pos hc, if_pos hc]
    rfl
  cases ok1 with
  | false =>
    refine ⟨false, pos1, [], v1, fun n h x sz hn sx hs => ?_, fun n m hn sm => ?_, by omega, P4, fun q => by cases q⟩
    · obtain ⟨n, rfl⟩ : ∃ e, n = e + 1 := ⟨n - 1, by omega⟩
      obtain ⟨x1, X1, X2, X3, X4⟩ := P1 n h (goX h pos x) sz (by omega) (goX_xs sx) (by omega)
      refine ⟨x1, ?_, (goX_fr (sz := sz)).tr X2 (Nat.le_refl _), X3, fun q => by cases q⟩
      rw [xop n h x sz sx, X1, ob2_s]
      rfl
    · obtain ⟨n, rfl⟩ : ∃ e, n = e + 1 := ⟨n - 1, by omega⟩
      obtain ⟨m1, M1, M2, M3, M4, M5⟩ := P2 n (opM o pos m) (by omega) (opM_st sm)
      refine ⟨clM o m1, ?_, (opM_fr.tr M2).tr clM_fr, ?_, ?_, ?_⟩
      · rw [mop n m sm, M1, ob_s, if_pos (show mi m1 80 32 = 0 from M5), clM_eq M4 (by omega)]
      · unfold clM; rw [mi_ms, if_neg (by omega)]; exact M3
      · unfold clM; rw [mi_ms, if_pos ⟨rfl, rfl⟩]
      · unfold clM; rw [mi_ms, if_neg (by omega)]; exact M5
  | true =>
    obtain ⟨Q1, Q2, Q3, Q4⟩ := P5 rfl
    by_cases e : chr T L pos1 = 41
    · have hp1 : pos1 < L := by
        refine chr_lt (T := T) (fun w => ?_)
        rw [w] at e
        revert e
        decide
      refine ⟨true, pos1 + 1, c1, v1, fun n h x sz hn sx hs => ?_, fun n m hn sm => ?_, by omega, hp1, fun _ => ⟨by omega, by omega, fun n m nm hn se hd => ?_, Q4.mono dd⟩⟩
      · obtain ⟨n, rfl⟩ : ∃ e, n = e + 1 := ⟨n - 1, by omega⟩
        obtain ⟨x1, X1, X2, X3, X4⟩ := P1 n h (goX h pos x) sz (by omega) (goX_xs sx) (by omega)
        obtain ⟨X5, X6⟩ := X4 rfl
        have s1 := X2.xs (goX_xs sx) X3 X5
        have s2 := goX_xs s1
        refine ⟨goX h pos1 x1, ?_, ((goX_fr (sz := sz)).tr X2 (Nat.le_refl _)).tr (goX_fr (sz := sz)) (Nat.le_refl _), s2.1, fun _ => ⟨s2.2.1, (goX_fr (sz := sz + c1.length)).code X6 (Nat.le_refl _)⟩⟩
        rw [xop n h x sz sx, X1, ob2_s, if_pos rfl]
        unfold f_X3_closes
        rw [hereX s1 hL P4, ob_s, if_pos e, goX_eq s1, letx_s, ob2_s, if_pos rfl]
      · obtain ⟨n, rfl⟩ : ∃ e, n = e + 1 := ⟨n - 1, by omega⟩
        obtain ⟨m1, M1, M2, M3, M4, M5⟩ := P2 n (opM o pos m) (by omega) (opM_st sm)
        have s1 := M2.st (opM_st sm) M3 M4 M5
        have e32 : ¬ mi m1 80 32 = 0 := by rw [s1.2.2.1]; decide
        have s2 := goM_st s1
        refine ⟨clM o (goM pos1 m1), ?_, ((opM_fr.tr M2).tr goM_fr).tr clM_fr, ?_, ?_, ?_⟩
        · rw [mop n m sm, M1, ob_s, if_neg e32, isNext_eq s1 hL P4, if_pos e, ob2_s, if_pos rfl, clM_eq s2.2.1 (by omega)]
        · unfold clM; rw [mi_ms, if_neg (by omega)]; exact s2.1
        · unfold clM; rw [mi_ms, if_pos ⟨rfl, rfl⟩]
        · unfold clM; rw [mi_ms, if_neg (by omega)]; exact s2.2.2.1
      · obtain ⟨n, rfl⟩ : ∃ e, n = e + 1 := ⟨n - 1, by omega⟩
        obtain ⟨m1, M1, M2, M3⟩ := Q3 n (goM pos m) nm (by omega) (goM_es se) (by rw [e]; decide)
        have s1 := M2.st (goM_es se) M3
        refine ⟨goM pos1 m1, ?_, (goM_fe.tr M2).tr goM_fe, (goM_es s1).1⟩
        have eg : ms m 80 30 (mi m 80 30 + 1) = goM pos m := by unfold goM; rw [se.1, nI_1]
        have eg1 : ms m1 80 30 (mi m1 80 30 + 1) = goM pos1 m1 := by unfold goM; rw [s1.1, nI_1]
        have ec : mi m 94 pos = chr T L pos := by unfold chr; rw [if_pos hpL, se.2.2.1 pos hpL]
        have M1' : (G_X9_takesO n).2.2.2.2.2 (goM pos m) = some (v1 nm, m1) := M1
        rw [tO_s]
        unfold R_X9_takesO
        rw [eg, se.1, if_pos (inb_nI (by omega) (by decide)), ix_nI (by omega), ec, letx_s, isDig_eq, if_neg z3, letx_s, if_neg h33, if_neg h45, if_pos hc, M1', ob2_s, eg1, letx_s]
    · refine ⟨false, pos1, [], v1, fun n h x sz hn sx hs => ?_, fun n m hn sm => ?_, by omega, P4, fun q => by cases q⟩
      · obtain ⟨n, rfl⟩ : ∃ e, n = e + 1 := ⟨n - 1, by omega⟩
        obtain ⟨x1, X1, X2, X3, X4⟩ := P1 n h (goX h pos x) sz (by omega) (goX_xs sx) (by omega)
        obtain ⟨X5, X6⟩ := X4 rfl
        have s1 := X2.xs (goX_xs sx) X3 X5
        refine ⟨x1, ?_, (goX_fr (sz := sz)).tr X2 (Nat.le_refl _), X3, fun q => by cases q⟩
        rw [xop n h x sz sx, X1, ob2_s, if_pos rfl]
        unfold f_X3_closes
        rw [hereX s1 hL P4, ob_s, if_neg e, ob2_s]
        rfl
      · obtain ⟨n, rfl⟩ : ∃ e, n = e + 1 := ⟨n - 1, by omega⟩
        obtain ⟨m1, M1, M2, M3, M4, M5⟩ := P2 n (opM o pos m) (by omega) (opM_st sm)
        have s1 := M2.st (opM_st sm) M3 M4 M5
        have e32 : ¬ mi m1 80 32 = 0 := by rw [s1.2.2.1]; decide
        have g31 : mi (ms m1 80 32 0) 80 31 = nI (o + 1) := by rw [mi_ms, if_neg (by omega)]; exact M4
        have fr : FrM m1 (ms m1 80 32 0) := ⟨fun _ _ => rfl, fun h k e => by rw [mi_ms, if_neg (by omega)]⟩
        refine ⟨clM o (ms m1 80 32 0), ?_, ((opM_fr.tr M2).tr fr).tr clM_fr, ?_, ?_, ?_⟩
        · rw [mop n m sm, M1, ob_s, if_neg e32, isNext_eq s1 hL P4, if_neg e, ob2_s, if_neg (by decide), letx_s, clM_eq g31 (by omega)]
        · unfold clM; rw [mi_ms, if_neg (by omega), mi_ms, if_neg (by omega)]; exact M3
        · unfold clM; rw [mi_ms, if_pos ⟨rfl, rfl⟩]
        · unfold clM; rw [mi_ms, if_neg (by omega), mi_ms, if_pos ⟨rfl, rfl⟩]; rfl
/-! all levels -/
theorem PO_all {T : Nat → Int32} {L o : Nat} (hL : L ≤ 120) (ho : o ≤ 6) (hI : o < 6 → (∀ pos, pos ≤ L → PA T L 0 (o + 1) pos) ∧ ∀ pos, pos ≤ L → PO5 T L (o + 1) pos) (pos : Nat) (hp : pos ≤ L) : PO5 T L o pos := by
  by_cases hd : f_X3_isDigit (chr T L pos) = true
  · exact PO_num hL hp hd
  · have hd' : f_X3_isDigit (chr T L pos) = false := by simpa using hd
    rcases name_case (chr T L pos) with ⟨n1, n2⟩ | ⟨j, j1, j2, j3, j4, j5, j6, j7, j8⟩
    · by_cases o6 : o = 6
      · exact PO_no hL hp ho n1 n2 hd' (Or.inl o6)
      · have ho6 : o < 6 := by omega
        obtain ⟨I1, I2⟩ := hI ho6
        by_cases c1 : chr T L pos = 40
        · have hpL : pos < L := by
            refine chr_lt (T := T) (fun w => ?_)
            rw [w] at c1
            revert c1
            decide
          exact PO_par hL hp ho6 c1 (I1 (pos + 1) hpL)
        · by_cases c2 : chr T L pos = 33 ∨ chr T L pos = 45
          · have hpL : pos < L := by
              refine chr_lt (T := T) (fun w => ?_)
              rw [w] at c2
              revert c2
              decide
            exact PO_un hL hp ho6 c2 (I2 (pos + 1) hpL)
          · exact PO_no hL hp ho n1 n2 hd' (Or.inr ⟨fun q => c2 (Or.inl q), fun q => c2 (Or.inr q), c1⟩)
    · exact PO_name hL hp j1 j2 j3 hd' ⟨j5, j6, j7⟩ j8
theorem PA_up {T : Nat → Int32} {L o : Nat} (hL : L ≤ 120) (h5 : ∀ pos, pos ≤ L → PO5 T L o pos) : ∀ pos, pos ≤ L → PA T L 0 o pos := by
  have p5 : ∀ pos, pos ≤ L → PA T L 5 o pos := fun pos hp => PA_5 (h5 pos hp)
  have p4 : ∀ pos, pos ≤ L → PA T L 4 o pos := PA_loop hL (Or.inr (Or.inr (Or.inr rfl))) p5
  have p3 : ∀ pos, pos ≤ L → PA T L 3 o pos := PA_loop hL (Or.inr (Or.inr (Or.inl rfl))) p4
  have p2 : ∀ pos, pos ≤ L → PA T L 2 o pos := PA_cmp hL p3
  have p1 : ∀ pos, pos ≤ L → PA T L 1 o pos := PA_loop hL (Or.inr (Or.inl rfl)) p2
  exact PA_loop hL (Or.inl rfl) p1
theorem PA_any {T : Nat → Int32} {L : Nat} (hL : L ≤ 120) : ∀ (d o : Nat), o + d = 6 → (∀ pos, pos ≤ L → PA T L 0 o pos) ∧ ∀ pos, pos ≤ L → PO5 T L o pos := by
  intro d
  induction d with
  | zero =>
    intro o ho
    have h5 : ∀ pos, pos ≤ L → PO5 T L o pos := PO_all hL (by omega) (fun q => by omega)
    exact ⟨PA_up hL h5, h5⟩
  | succ d ih =>
    intro o ho
    have h5 : ∀ pos, pos ≤ L → PO5 T L o pos := PO_all hL (by omega) (fun _ => ih (o + 1) (by omega))
    exact ⟨PA_up hL h5, h5⟩
theorem PA_E {T : Nat → Int32} {L : Nat} (hL : L ≤ 120) (pos : Nat) (hp : pos ≤ L) : PA T L 0 0 pos := (PA_any hL 6 0 rfl).1 pos hp
