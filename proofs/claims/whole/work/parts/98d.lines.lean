theorem rE_f (m : MM) : f_X9_readsE m = selM 0 (G_X9_readsO RF) m := rfl
theorem tE_f (m : MM) : f_X9_takesE m = selE 0 (G_X9_takesO RF) m := rfl
theorem need00 : need 0 0 ≤ RF := by decide
theorem dep00 : dep 0 0 = 36 := rfl
/-- a line: it fails, or stands alone, or stands behind a condition -/
theorem line_ex {T : Nat → Int32} {L : Nat} (hL : L ≤ 120) (pos : Nat) (hp : pos ≤ L) : ∃ pos', pos ≤ pos' ∧ pos' ≤ L ∧
    (((∀ (h : Nat) (x : MX) (sz : Nat), XS T L h x pos sz → sz ≤ pos → ∃ x', f_X3_readsLine h x = some (false, x') ∧ FrX h sz x x' ∧ xi x' h 6 = nI pos') ∧ (∀ (m : MM), MS T L m pos 0 → ∃ m', f_X9_readsLine m = some m' ∧ FrM m m' ∧ mi m' 80 30 = nI pos' ∧ mi m' 80 32 = 0)) ∨
     (∃ (c : List (Int32 × Int32)) (v : (Nat → Int32) → Int32), pos + c.length ≤ pos' ∧ pos < pos' ∧ SE T L 0 0 pos pos' v ∧ SW c v 36 ∧ ¬ chr T L pos' = 63 ∧ (∀ (h : Nat) (x : MX) (sz : Nat), XS T L h x pos sz → sz ≤ pos → ∃ x', f_X3_readsLine h x = some (true, x') ∧ FrX h sz x x' ∧ XS T L h x' pos' (sz + (c.length + 1)) ∧ CodeAt x' h sz (c ++ [(59, 0)])) ∧ (∀ (m : MM), MS T L m pos 0 → ∃ m', f_X9_readsLine m = some m' ∧ FrM m m' ∧ MS T L m' pos' 0)) ∨
     (∃ (c : List (Int32 × Int32)) (v : (Nat → Int32) → Int32) (c2 : List (Int32 × Int32)) (w : (Nat → Int32) → Int32) (pos1 : Nat), pos + c.length ≤ pos1 ∧ pos < pos1 ∧ pos1 + 1 + c2.length ≤ pos' ∧ pos1 + 1 < pos' ∧ SE T L 0 0 pos pos1 v ∧ SW c v 36 ∧ SE T L 0 0 (pos1 + 1) pos' w ∧ SW c2 w 36 ∧ chr T L pos1 = 63 ∧ (∀ (h : Nat) (x : MX) (sz : Nat), XS T L h x pos sz → sz ≤ pos → ∃ x', f_X3_readsLine h x = some (true, x') ∧ FrX h sz x x' ∧ XS T L h x' pos' (sz + (c.length + (c2.length + 2))) ∧ CodeAt x' h sz (c ++ ([(63, nI (sz + (c.length + (c2.length + 2))))] ++ (c2 ++ [(59, 0)])))) ∧ (∀ (m : MM), MS T L m pos 0 → ∃ m', f_X9_readsLine m = some m' ∧ FrM m m' ∧ MS T L m' pos' 0))) := by
  obtain ⟨ok1, pos1, c1, v1, P1, P2, P3, P4, P5⟩ := PA_E hL pos hp
  have rX : ∀ (h : Nat) (x : MX), f_X3_readsPart h 0 0 x = (G_X3_readsPart RF).1 h (nI 0) (nI 0) x := fun h x => rfl
  cases ok1 with
  | false =>
    refine ⟨pos1, P3, P4, Or.inl ⟨fun h x sz sx hs => ?_, fun m sm => ?_⟩⟩
    · obtain ⟨x1, X1, X2, X3, X4⟩ := P1 RF h x sz need00 sx hs
      refine ⟨x1, ?_, X2, X3⟩
      unfold f_X3_readsLine
      rw [rX, X1, ob2_s]
      rfl
    · obtain ⟨m1, M1, M2, M3, M4, M5⟩ := P2 RF m need00 sm
      refine ⟨m1, ?_, M2, M3, M5⟩
      unfold f_X9_readsLine
      rw [rE_f, M1, ob_s, isNext_no (show mi m1 80 32 = 0 from M5), ob2_s]
      rfl
  | true =>
    obtain ⟨Q1, Q2, Q3, Q4⟩ := P5 rfl
    by_cases e : chr T L pos1 = 63
    · have hp1 : pos1 < L := by
        refine chr_lt (T := T) (fun w => ?_)
        rw [w] at e
        revert e
        decide
      obtain ⟨ok2, pos2, c2, v2, P1', P2', P3', P4', P5'⟩ := PA_E hL (pos1 + 1) hp1
      -- the class up to behind the sign
      have xq : ∀ (h : Nat) (x : MX) (sz : Nat), XS T L h x pos sz → sz ≤ pos → ∃ x1, f_X3_readsLine h x = ob2 (f_X3_readsPart h 0 0 x1) (fun r18 x19 => if r18 = true then B_X3_readsLine_63 h (nI (sz + c1.length)) 1 x19 else some (false, x19)) ∧ FrX h sz x x1 ∧ XS T L h x1 (pos1 + 1) (sz + c1.length + 1) ∧ CodeAt x1 h sz c1 ∧ CodeAt x1 h (sz + c1.length) [(63, 0)] := by
        intro h x sz sx hs
        obtain ⟨x1, X1, X2, X3, X4⟩ := P1 RF h x sz need00 sx hs
        obtain ⟨X5, X6⟩ := X4 rfl
        have s1 := X2.xs sx X3 X5
        have s2 := goX_xs s1
        have ad := adX_eq s2.2.1 (show sz + c1.length < 121 by omega) 63 0
        refine ⟨adX h (sz + c1.length) 63 0 (goX h pos1 x1), ?_, (X2.tr (goX_fr (sz := sz)) (Nat.le_refl _)).tr adX_fr (by omega), adX_xs s2 63 0, (adX_fr (sz := sz + c1.length)).code ((goX_fr (sz := sz + c1.length)).code X6 (Nat.le_refl _)) (Nat.le_refl _), adX_code⟩
        unfold f_X3_readsLine
        rw [rX, X1, ob2_s, if_pos rfl, hereX s1 hL P4, ob_s, if_pos e, X5]
        unfold B_X3_readsLine_30
        rw [if_neg (show ¬ (1 : Int32) = 0 by decide), goX_eq s1, letx_s, ad, ob_s]
      have mq : ∀ (m : MM), MS T L m pos 0 → ∃ m1, f_X9_readsLine m = selM 0 (G_X9_readsO RF) m1 ∧ FrM m m1 ∧ MS T L m1 (pos1 + 1) 0 := by
        intro m sm
        obtain ⟨m1, M1, M2, M3, M4, M5⟩ := P2 RF m need00 sm
        have s1 := M2.st sm M3 M4 M5
        refine ⟨goM pos1 m1, ?_, M2.tr goM_fr, goM_st s1⟩
        unfold f_X9_readsLine
        rw [rE_f, M1, ob_s, isNext_eq s1 hL P4, if_pos e, ob2_s, if_pos rfl, obId, rE_f]
      cases ok2 with
      | false =>
        refine ⟨pos2, by omega, P4', Or.inl ⟨fun h x sz sx hs => ?_, fun m sm => ?_⟩⟩
        · obtain ⟨x1, q1, q2, q3, q4, q5⟩ := xq h x sz sx hs
          obtain ⟨x2, X1, X2, X3, X4⟩ := P1' RF h x1 (sz + c1.length + 1) need00 q3 (by omega)
          refine ⟨x2, ?_, q2.tr X2 (by omega), X3⟩
          rw [q1, rX, X1, ob2_s]
          rfl
        · obtain ⟨m1, q1, q2, q3⟩ := mq m sm
          obtain ⟨m2, M1, M2, M3, M4, M5⟩ := P2' RF m1 need00 q3
          exact ⟨m2, by rw [q1, M1], q2.tr M2, M3, M5⟩
      | true =>
        obtain ⟨Q1', Q2', Q3', Q4'⟩ := P5' rfl
        refine ⟨pos2, by omega, P4', Or.inr (Or.inr ⟨c1, v1, c2, v2, pos1, Q1, Q2, Q1', Q2', Q3, Q4, Q3', Q4', e, fun h x sz sx hs => ?_, fun m sm => ?_⟩)⟩
        · obtain ⟨x1, q1, q2, q3, q4, q5⟩ := xq h x sz sx hs
          obtain ⟨x2, X1, X2, X3, X4⟩ := P1' RF h x1 (sz + c1.length + 1) need00 q3 (by omega)
          obtain ⟨X5, X6⟩ := X4 rfl
          have s2 := X2.xs q3 X3 X5
          have ad := adX_eq X5 (show sz + c1.length + 1 + c2.length < 121 by omega) 59 0
          have s3 := adX_xs s2 59 0
          have z121 : ¬ (121 : Int32) ≤ nI (sz + c1.length) := fun q => by have := (nI_lec (n := 121) (by decide) (by omega)).mp q; omega
          have esz : sz + c1.length + 1 + c2.length + 1 = sz + (c1.length + (c2.length + 2)) := by omega
          have fr : FrX h (sz + c1.length) (adX h (sz + c1.length + 1 + c2.length) 59 0 x2) (xs (adX h (sz + c1.length + 1 + c2.length) 59 0 x2) (h + 2) (sz + c1.length) (nI (sz + (c1.length + (c2.length + 2))))) := ⟨rfl, rfl, fun a b e1 e2 => by rw [xi_xs, if_neg (by omega)]⟩
          have fr0 : FrX h sz x (adX h (sz + c1.length + 1 + c2.length) 59 0 x2) := (q2.tr X2 (by omega)).tr adX_fr (by omega)
          have cc1 : CodeAt (adX h (sz + c1.length + 1 + c2.length) 59 0 x2) h sz c1 := (adX_fr (sz := sz + c1.length + 1 + c2.length)).code (X2.code q4 (by omega)) (by omega)
          have cc2 : CodeAt (adX h (sz + c1.length + 1 + c2.length) 59 0 x2) h (sz + c1.length) [(63, 0)] := (adX_fr (sz := sz + c1.length + 1 + c2.length)).code (X2.code q5 (by show sz + c1.length + 1 ≤ _; omega)) (by show sz + c1.length + 1 ≤ _; omega)
          have cc3 : CodeAt (adX h (sz + c1.length + 1 + c2.length) 59 0 x2) h (sz + c1.length + 1) c2 := (adX_fr (sz := sz + c1.length + 1 + c2.length)).code X6 (by omega)
          have cc4 : CodeAt (adX h (sz + c1.length + 1 + c2.length) 59 0 x2) h (sz + c1.length + 1 + c2.length) [(59, 0)] := adX_code
          refine ⟨xs (adX h (sz + c1.length + 1 + c2.length) 59 0 x2) (h + 2) (sz + c1.length) (nI (sz + (c1.length + (c2.length + 2)))), ?_, fr0.tr fr (by omega), ?_, ?_⟩
          · rw [q1, rX, X1, ob2_s, if_pos rfl]
            unfold B_X3_readsLine_63
            rw [ad, ob_s, if_neg (show ¬ (1 : Int32) = 0 by decide), if_neg z121, if_pos (inb_nI (by omega) (by decide)), ix_nI (by omega), s3.2.1, letx_s, esz]
          · refine fr.xs s3 ?_ ?_
            · rw [xi_xs, if_neg (by omega)]; exact s3.1
            · rw [xi_xs, if_neg (by omega), s3.2.1, esz]
          · rw [CodeAt.app, CodeAt.app, CodeAt.app]
            refine ⟨fr.code cc1 (Nat.le_refl _), ?_, ?_, ?_⟩
            · rw [CodeAt.one] at cc2 ⊢
              refine ⟨?_, ?_⟩
              · rw [xi_xs, if_neg (by omega)]; exact cc2.1
              · rw [xi_xs, if_pos ⟨rfl, rfl⟩]
            · show CodeAt _ h (sz + c1.length + 1) c2
              refine cc3.cg (fun b b1 b2 => ⟨?_, ?_⟩)
              · rw [xi_xs, if_neg (by omega)]
              · rw [xi_xs, if_neg (by omega)]
            · show CodeAt _ h (sz + c1.length + 1 + c2.length) [(59, 0)]
              refine cc4.cg (fun b b1 b2 => ⟨?_, ?_⟩)
              · rw [xi_xs, if_neg (by omega)]
              · rw [xi_xs, if_neg (by omega)]
        · obtain ⟨m1, q1, q2, q3⟩ := mq m sm
          obtain ⟨m2, M1, M2, M3, M4, M5⟩ := P2' RF m1 need00 q3
          exact ⟨m2, by rw [q1, M1], q2.tr M2, M2.st q3 M3 M4 M5⟩
    · refine ⟨pos1, P3, P4, Or.inr (Or.inl ⟨c1, v1, Q1, Q2, Q3, Q4, e, fun h x sz sx hs => ?_, fun m sm => ?_⟩)⟩
      · obtain ⟨x1, X1, X2, X3, X4⟩ := P1 RF h x sz need00 sx hs
        obtain ⟨X5, X6⟩ := X4 rfl
        have s1 := X2.xs sx X3 X5
        have ad := adX_eq X5 (show sz + c1.length < 121 by omega) 59 0
        refine ⟨adX h (sz + c1.length) 59 0 x1, ?_, X2.tr adX_fr (by omega), adX_xs s1 59 0, ?_⟩
        · unfold f_X3_readsLine
          rw [rX, X1, ob2_s, if_pos rfl, hereX s1 hL P4, ob_s, if_neg e, X5]
          unfold B_X3_readsLine_30 B_X3_readsLine_63
          rw [if_pos rfl, ad, ob_s, if_pos rfl]
        · rw [CodeAt.app]
          exact ⟨(adX_fr (sz := sz + c1.length)).code X6 (Nat.le_refl _), adX_code⟩
      · obtain ⟨m1, M1, M2, M3, M4, M5⟩ := P2 RF m need00 sm
        have s1 := M2.st sm M3 M4 M5
        refine ⟨m1, ?_, M2, s1⟩
        unfold f_X9_readsLine
        rw [rE_f, M1, ob_s, isNext_eq s1 hL P4, if_neg e, ob2_s]
        rfl
/-! working a text out -/
def TW (a : Nat) (C : List (Int32 × Int32)) (V : (Nat → Int32) → Int32) : Prop := ∀ (h : Nat) (x : MX) (i d f : Nat) (nm : Nat → Int32), CodeAt x h a C → xi x h 4 = nI (a + C.length) → a + C.length ≤ 121 → i ≤ a → xi x h 5 = nI d → d + 36 ≤ 40 → NMx h x nm → C.length < f → ∃ x', f_X3_workedOut_9 f h (nI a) (nI i) x = some (V nm, x') ∧ FrW h d x x'
def TE (T : Nat → Int32) (L pos : Nat) (V : (Nat → Int32) → Int32) : Prop := ∀ (m : MM) (nm : Nat → Int32) (f : Nat), ES T L m pos nm → L + 1 - pos < f → ∃ m', f_X9_given_5 f m = some (V nm, m') ∧ FrE m m'
theorem TW_nil (a : Nat) : TW a [] (fun _ => 0) := by
  intro h x i d f nm hc h4 hS hi h5 hd hn hf
  obtain ⟨f, rfl⟩ : ∃ e, f = e + 1 := ⟨f - 1, by omega⟩
  have h4' : xi x h 4 = nI a := h4
  have hS' : a ≤ 121 := hS
  have z1 : ¬ nI a < 0 := fun y => by have := (nI_lt6 (c := 0) (by omega) (by decide)).mp y; omega
  refine ⟨x, ?_, FrW.rf _ _ _⟩
  show B_X3_workedOut_9 _ _ _ _ _ = _
  unfold B_X3_workedOut_9
  rw [h4']
  by_cases z : nI a ≤ nI i
  · rw [if_pos z]
  · rw [if_neg z, if_neg z1, if_pos ((nI_lec (by omega) (by omega)).mpr (Nat.le_refl _))]
theorem TW_a {a : Nat} {c C : List (Int32 × Int32)} {v : (Nat → Int32) → Int32} (H : SW c v 36) : TW a (c ++ ([(59, 0)] ++ C)) v := by
  intro h x i d f nm hc h4 hS hi h5 hd hn hf
  have len : (c ++ ([((59 : Int32), (0 : Int32))] ++ C)).length = c.length + (1 + C.length) := by rw [List.length_append, List.length_append]; rfl
  rw [len] at h4 hS hf
  rw [CodeAt.app, CodeAt.app, CodeAt.one] at hc
  obtain ⟨c0, ⟨c1, c2⟩, c3⟩ := hc
  obtain ⟨f, rfl⟩ : ∃ e, f = e + 1 + c.length := ⟨f - 1 - c.length, by omega⟩
  obtain ⟨x1, r1, r2, r3, r4⟩ := H.2 h x a i d (f + 1) (a + (c.length + (1 + C.length))) nm c0 (by omega) hS hi h4 h5 hd hn
  have f1 : xi x1 (h + 1) (a + c.length) = 59 := (r2.2.2 _ _ (by omega) (by omega)).trans c1
  have f4 : xi x1 h 4 = nI (a + (c.length + (1 + C.length))) := (r2.2.2 _ _ (by omega) (by omega)).trans h4
  refine ⟨xs x1 h 5 (nI d), ?_, r2.tr (d' := d) ⟨rfl, rfl, fun p q e1 e2 => by rw [xi_xs, if_neg (by omega)]⟩ (Nat.le_refl _)⟩
  rw [r1, wo1 f4 (by omega) hS (by omega), f1, if_neg (by decide), if_neg (by decide), if_pos rfl, popX r3 (by omega), ob2_s, r4]
theorem TW_b {a : Nat} {c c2 C : List (Int32 × Int32)} {v w V : (Nat → Int32) → Int32} (H : SW c v 36) (H2 : SW c2 w 36) (H3 : TW (a + (c.length + (c2.length + 2))) C V) : TW a (c ++ ([(63, nI (a + (c.length + (c2.length + 2))))] ++ (c2 ++ ([(59, 0)] ++ C)))) (fun nm => if v nm = 0 then V nm else w nm) := by
  intro h x i d f nm hc h4 hS hi h5 hd hn hf
  have len : (c ++ ([((63 : Int32), nI (a + (c.length + (c2.length + 2))))] ++ (c2 ++ ([((59 : Int32), (0 : Int32))] ++ C)))).length = c.length + (1 + (c2.length + (1 + C.length))) := by rw [List.length_append, List.length_append, List.length_append, List.length_append]; rfl
  rw [len] at h4 hS hf
  rw [CodeAt.app, CodeAt.app, CodeAt.one, CodeAt.app, CodeAt.app, CodeAt.one] at hc
  obtain ⟨d0, ⟨d1, d2⟩, d3, ⟨d4, d5⟩, d6⟩ := hc
  have d3' : CodeAt x h (a + c.length + 1) c2 := d3
  have d4' : xi x (h + 1) (a + c.length + 1 + c2.length) = 59 := d4
  have d6' : CodeAt x h (a + (c.length + (c2.length + 2))) C := by
    have e : a + (c.length + (c2.length + 2)) = a + c.length + 1 + c2.length + 1 := by omega
    rw [e]
    exact d6
  obtain ⟨g, hg⟩ : ∃ g, f = g + 1 + c.length := ⟨f - 1 - c.length, by omega⟩
  subst hg
  obtain ⟨x1, r1, r2, r3, r4⟩ := H.2 h x a i d (g + 1) (a + (c.length + (1 + (c2.length + (1 + C.length))))) nm d0 (by omega) hS hi h4 h5 hd hn
  have f1 : xi x1 (h + 1) (a + c.length) = 63 := (r2.2.2 _ _ (by omega) (by omega)).trans d1
  have f2 : xi x1 (h + 2) (a + c.length) = nI (a + (c.length + (c2.length + 2))) := (r2.2.2 _ _ (by omega) (by omega)).trans d2
  have f4 : xi x1 h 4 = nI (a + (c.length + (1 + (c2.length + (1 + C.length))))) := (r2.2.2 _ _ (by omega) (by omega)).trans h4
  have g5 : xi (xs x1 h 5 (nI d)) h 5 = nI d := by rw [xi_xs, if_pos ⟨rfl, rfl⟩]
  have fr : FrW h d x (xs x1 h 5 (nI d)) := r2.tr (d' := d) ⟨rfl, rfl, fun p q e1 e2 => by rw [xi_xs, if_neg (by omega)]⟩ (Nat.le_refl _)
  have g4 : xi (xs x1 h 5 (nI d)) h 4 = nI (a + (c.length + (1 + (c2.length + (1 + C.length))))) := by rw [xi_xs, if_neg (by omega), f4]
  rw [r1, wo1 f4 (by omega) hS (by omega), f1, if_neg (by decide), if_neg (by decide), if_neg (by decide), if_pos rfl, popX r3 (by omega), ob2_s, r4]
  unfold B_X3_workedOut_126 B_X3_workedOut_223
  by_cases z : v nm = 0
  · rw [if_pos z, f2, nI_1]
    obtain ⟨x2, q1, q2⟩ := H3 h (xs x1 h 5 (nI d)) (i + c.length + 1) d g nm (fr.codeC d6') (by rw [g4]; congr 1; omega) (by omega) (by omega) g5 hd (hn.fr fr) (by omega)
    refine ⟨x2, ?_, fr.tr q2 (Nat.le_refl _)⟩
    rw [q1]
    show some (V nm, x2) = some (if v nm = 0 then V nm else w nm, x2)
    rw [if_pos z]
  · rw [if_neg z, nI_1, nI_1]
    obtain ⟨e, he⟩ : ∃ e, g = e + 1 + c2.length := ⟨g - 1 - c2.length, by omega⟩
    subst he
    obtain ⟨x2, q1, q2, q3, q4⟩ := H2.2 h (xs x1 h 5 (nI d)) (a + c.length + 1) (i + c.length + 1) d (e + 1) (a + (c.length + (1 + (c2.length + (1 + C.length))))) nm (fr.codeC d3') (by omega) hS (by omega) g4 g5 hd (hn.fr fr)
    have k1 : xi x2 (h + 1) (a + c.length + 1 + c2.length) = 59 := ((fr.tr q2 (Nat.le_refl _)).2.2 _ _ (by omega) (by omega)).trans d4'
    have k4 : xi x2 h 4 = nI (a + (c.length + (1 + (c2.length + (1 + C.length))))) := (q2.2.2 _ _ (by omega) (by omega)).trans g4
    refine ⟨xs x2 h 5 (nI d), ?_, (fr.tr q2 (Nat.le_refl _)).tr (d' := d) ⟨rfl, rfl, fun p q e1 e2 => by rw [xi_xs, if_neg (by omega)]⟩ (Nat.le_refl _)⟩
    rw [q1, wo1 k4 (by omega) hS (by omega), k1, if_neg (by decide), if_neg (by decide), if_pos rfl, popX q3 (by omega), ob2_s, q4]
    show some (w nm, _) = some (if v nm = 0 then V nm else w nm, _)
    rw [if_neg z]
theorem TE_end {T : Nat → Int32} {L : Nat} (hL : L ≤ 120) (pos : Nat) (hp : L ≤ pos) (hp2 : pos ≤ 1000) : TE T L pos (fun _ => 0) := by
  intro m nm f se hf
  obtain ⟨f, rfl⟩ : ∃ e, f = e + 1 := ⟨f - 1, by omega⟩
  refine ⟨m, ?_, FrE.rf m⟩
  show B_X9_given_5 _ _ = _
  unfold B_X9_given_5
  rw [se.2.1, se.1, if_pos ((nI_lec (by omega) (by omega)).mpr hp)]
theorem TE_a {T : Nat → Int32} {L pos pos' : Nat} {v : (Nat → Int32) → Int32} (hL : L ≤ 120) (hp : pos < pos') (hp' : pos' ≤ L) (H : SE T L 0 0 pos pos' v) (e : ¬ chr T L pos' = 63) (hd : f_X3_isDigit (chr T L pos') = false) : TE T L pos v := by
  intro m nm f se hf
  obtain ⟨f, rfl⟩ : ∃ e, f = e + 1 := ⟨f - 1, by omega⟩
  have z : ¬ nI L ≤ nI pos := fun q => by have := (nI_lec (by omega) (by omega)).mp q; omega
  obtain ⟨m1, M1, M2, M3⟩ := H RF m nm need00 se hd
  have s1 := M2.st se M3
  refine ⟨m1, ?_, M2⟩
  show B_X9_given_5 _ _ = _
  unfold B_X9_given_5
  rw [se.2.1, se.1, if_neg z, tE_f, M1, ob2_s, isSeen_eq s1 hL hp', if_neg e, ob2_s]
  rfl
theorem TE_b {T : Nat → Int32} {L pos pos1 pos' : Nat} {v w V : (Nat → Int32) → Int32} (hL : L ≤ 120) (hp : pos < pos1) (hp1 : pos1 + 1 < pos') (hp' : pos' ≤ L) (H : SE T L 0 0 pos pos1 v) (H2 : SE T L 0 0 (pos1 + 1) pos' w) (e : chr T L pos1 = 63) (hd : f_X3_isDigit (chr T L pos') = false) (H3 : TE T L (pos' + 1) V) : TE T L pos (fun nm => if v nm = 0 then V nm else w nm) := by
  intro m nm f se hf
  obtain ⟨f, rfl⟩ : ∃ e, f = e + 1 := ⟨f - 1, by omega⟩
  have z : ¬ nI L ≤ nI pos := fun q => by have := (nI_lec (by omega) (by omega)).mp q; omega
  obtain ⟨m1, M1, M2, M3⟩ := H RF m nm need00 se (by rw [e]; decide)
  have s1 := M2.st se M3
  have s2 := goM_es s1
  obtain ⟨m2, N1, N2, N3⟩ := H2 RF (goM pos1 m1) nm need00 s2 hd
  have s3 := N2.st s2 N3
  have eg : ms m2 80 30 (mi m2 80 30 + 1) = goM pos' m2 := by unfold goM; rw [s3.1, nI_1]
  have st : f_X9_given_5 (f + 1) m = if v nm = 0 then f_X9_given_5 f (goM pos' m2) else some (w nm, m2) := by
    show B_X9_given_5 _ _ = _
    unfold B_X9_given_5
    rw [se.2.1, se.1, if_neg z, tE_f, M1, ob2_s, isSeen_eq s1 hL (by omega), if_pos e, ob2_s, if_pos rfl, tE_f, N1, ob2_s, eg, letx_s]
  rw [st]
  by_cases y : v nm = 0
  · rw [if_pos y]
    obtain ⟨m3, O1, O2⟩ := H3 (goM pos' m2) nm f (goM_es s3) (by omega)
    refine ⟨m3, ?_, ((M2.tr goM_fe).tr N2).tr (goM_fe.tr O2)⟩
    rw [O1]
    show some (V nm, m3) = some (if v nm = 0 then V nm else w nm, m3)
    rw [if_pos y]
  · rw [if_neg y]
    refine ⟨m2, ?_, (M2.tr goM_fe).tr N2⟩
    show some (w nm, m2) = some (if v nm = 0 then V nm else w nm, m2)
    rw [if_neg y]
