def TXT (T : Nat → Int32) (L pos : Nat) : Prop := ∃ (ok : Bool) (posF : Nat) (C : Nat → List (Int32 × Int32)) (CL : Nat) (V : (Nat → Int32) → Int32), posF ≤ L ∧
  (∀ (h : Nat) (x : MX) (sz line f : Nat), XS T L h x pos sz → sz ≤ pos → line ≤ pos → L - pos + 2 ≤ f → ∃ x', f_X3_faultOfText_14 f h 1 (nI line) x = some ((if ok = true then -1 else nI posF), x') ∧ FrX h sz x x' ∧ (ok = true → xi x' h 4 = nI (sz + CL) ∧ CodeAt x' h sz (C sz))) ∧
  (∀ (m : MM) (f : Nat), MS T L m pos 0 → L - pos < f → ∃ m', ob (f_X9_readsLine m) (f_X9_law_19 f) = (if ok = true then B_X9_law_58 1 m' else B_X9_law_57 m') ∧ FrM m m' ∧ mi m' 80 30 = nI posF) ∧
  (ok = true → 0 < CL ∧ pos + CL ≤ L + 1 ∧ (∀ sz, (C sz).length = CL) ∧ (∀ sz, TW sz (C sz) V) ∧ TE T L pos V)
theorem tailT {T : Nat → Int32} {L pos pos' len : Nat} (hL : L ≤ 120) (hp : pos < pos') (hp' : pos' ≤ L) (c0 : Nat → List (Int32 × Int32)) (hlen : ∀ sz, (c0 sz).length = len) (hlp : 0 < len) (hle : pos + len ≤ pos' + 1) (comb : ((Nat → Int32) → Int32) → (Nat → Int32) → Int32)
    (hX : ∀ (h : Nat) (x : MX) (sz : Nat), XS T L h x pos sz → sz ≤ pos → ∃ x', f_X3_readsLine h x = some (true, x') ∧ FrX h sz x x' ∧ XS T L h x' pos' (sz + len) ∧ CodeAt x' h sz (c0 sz))
    (hM : ∀ (m : MM), MS T L m pos 0 → ∃ m', f_X9_readsLine m = some m' ∧ FrM m m' ∧ MS T L m' pos' 0)
    (hW : ∀ (V : (Nat → Int32) → Int32) (C : List (Int32 × Int32)) (sz : Nat), TW (sz + len) C V → TW sz (c0 sz ++ C) (comb V))
    (hE : ∀ (V : (Nat → Int32) → Int32), f_X3_isDigit (chr T L pos') = false → TE T L (pos' + 1) V → TE T L pos (comb V))
    (ih : pos' < L → TXT T L (pos' + 1)) : TXT T L pos := by
  have xline : ∀ (h : Nat) (x : MX) (sz line f : Nat), XS T L h x pos sz → sz ≤ pos → line ≤ pos → ∃ x1, f_X3_faultOfText_14 (f + 1) h 1 (nI line) x = (if chr T L pos' = 59 then B_X3_faultOfText_52 (f_X3_faultOfText_14 f) h (nI line) 1 x1 else B_X3_faultOfText_52 (f_X3_faultOfText_14 f) h (nI line) 0 x1) ∧ FrX h sz x x1 ∧ XS T L h x1 pos' (sz + len) ∧ CodeAt x1 h sz (c0 sz) := by
    intro h x sz line f sx hs hl
    obtain ⟨x1, X1, X2, X3, X4⟩ := hX h x sz sx hs
    refine ⟨x1, ?_, X2, X3, X4⟩
    have z : ¬ nI L < nI line := fun q => by have := (nI_lt6 (by omega) (by omega)).mp q; omega
    show B_X3_faultOfText_14 _ _ _ _ _ = _
    unfold B_X3_faultOfText_14
    rw [sx.2.2.1, if_neg z, if_neg (show ¬ (1 : Int32) = 0 by decide), X1, ob2_s, if_pos rfl, hereX X3 hL hp', ob_s]
  have mline : ∀ (m : MM) (f : Nat), MS T L m pos 0 → ∃ m1, ob (f_X9_readsLine m) (f_X9_law_19 (f + 1)) = (if chr T L pos' = 59 then ob (f_X9_readsLine (goM pos' m1)) (f_X9_law_19 f) else if pos' = L then B_X9_law_58 1 m1 else B_X9_law_57 m1) ∧ FrM m m1 ∧ MS T L m1 pos' 0 := by
    intro m f sm
    obtain ⟨m1, M1, M2, M3⟩ := hM m sm
    refine ⟨m1, ?_, M2, M3⟩
    have e32 : ¬ mi m1 80 32 = 0 := by rw [M3.2.2.1]; decide
    rw [M1, ob_s]
    show B_X9_law_19 _ _ = _
    unfold B_X9_law_19
    rw [isNext_eq M3 hL hp']
    by_cases e : chr T L pos' = 59
    · rw [if_pos e, if_pos e, ob2_s, if_pos rfl]
    · rw [if_neg e, if_neg e, ob2_s, if_neg (by decide), if_neg e32, M3.1, M3.2.2.2.1]
      by_cases w : pos' = L
      · rw [if_pos ((nI_eqc (by omega) (by omega)).mpr w), if_pos w]
      · rw [if_neg (fun q => w ((nI_eqc (by omega) (by omega)).mp q)), if_neg w]
  by_cases e : chr T L pos' = 59
  · have hpL : pos' < L := by
      refine chr_lt (T := T) (fun w => ?_)
      rw [w] at e
      revert e
      decide
    obtain ⟨ok, posF, C, CL, V, F1, F2, F3, F4⟩ := ih hpL
    refine ⟨ok, posF, fun sz => c0 sz ++ C (sz + len), len + CL, comb V, F1, fun h x sz line f sx hs hl hf => ?_, fun m f sm hf => ?_, fun q => ?_⟩
    · obtain ⟨f, rfl⟩ : ∃ e, f = e + 1 := ⟨f - 1, by omega⟩
      obtain ⟨x1, X1, X2, X3, X4⟩ := xline h x sz line f sx hs hl
      obtain ⟨x', r1, r2, r3⟩ := F2 h (goX h pos' x1) (sz + len) (line + 1) f (goX_xs X3) (by omega) (by omega) (by omega)
      refine ⟨x', ?_, (X2.tr (goX_fr (sz := sz)) (Nat.le_refl _)).tr r2 (by omega), fun q => ?_⟩
      · rw [X1, if_pos e]
        unfold B_X3_faultOfText_52 B_X3_faultOfText_67
        rw [if_neg (show ¬ (1 : Int32) = 0 by decide), goX_eq X3, letx_s, nI_1, r1]
      · obtain ⟨s1, s2⟩ := r3 q
        refine ⟨by rw [s1, Nat.add_assoc], ?_⟩
        rw [CodeAt.app, hlen]
        exact ⟨r2.code ((goX_fr (sz := sz + len)).code X4 (by rw [hlen]; exact Nat.le_refl _)) (by rw [hlen]; exact Nat.le_refl _), s2⟩
    · obtain ⟨f, rfl⟩ : ∃ e, f = e + 1 := ⟨f - 1, by omega⟩
      obtain ⟨m1, M1, M2, M3⟩ := mline m f sm
      obtain ⟨m', r1, r2, r3⟩ := F3 (goM pos' m1) f (goM_st M3) (by omega)
      exact ⟨m', by rw [M1, if_pos e, r1], (M2.tr goM_fr).tr r2, r3⟩
    · obtain ⟨g1, g2, g3, g4, g5⟩ := F4 q
      refine ⟨by omega, by omega, fun sz => ?_, fun sz => hW V (C (sz + len)) sz (g4 (sz + len)), hE V (by rw [e]; decide) g5⟩
      show (c0 sz ++ C (sz + len)).length = _
      rw [List.length_append, hlen, g3]
  · refine ⟨decide (pos' = L), pos', fun sz => c0 sz ++ [], len, comb (fun _ => 0), hp', fun h x sz line f sx hs hl hf => ?_, fun m f sm hf => ?_, fun q => ?_⟩
    · obtain ⟨f, rfl⟩ : ∃ e, f = e + 2 := ⟨f - 2, by omega⟩
      obtain ⟨x1, X1, X2, X3, X4⟩ := xline h x sz line (f + 1) sx hs hl
      refine ⟨x1, ?_, X2, fun _ => ⟨X3.2.1, ?_⟩⟩
      · rw [X1, if_neg e]
        unfold B_X3_faultOfText_52 B_X3_faultOfText_67
        rw [if_pos rfl]
        have b73 : B_X3_faultOfText_73 h x1 = some ((if decide (pos' = L) = true then -1 else nI pos'), x1) := by
          unfold B_X3_faultOfText_73
          rw [X3.2.2.1, X3.1]
          by_cases w : pos' = L
          · rw [if_pos ((nI_lec (by omega) (by omega)).mpr (by omega)), if_pos (decide_eq_true w)]
          · rw [if_neg (fun q => by have := (nI_lec (by omega) (by omega)).mp q; omega), if_neg (by rw [decide_eq_false w]; decide)]
        rw [← b73]
        show B_X3_faultOfText_14 _ _ _ _ _ = _
        unfold B_X3_faultOfText_14
        by_cases w : xi x1 h 8 < nI line + 1
        · rw [if_pos w]
        · rw [if_neg w, if_pos rfl]
      · show CodeAt x1 h sz (c0 sz ++ [])
        rw [List.append_nil]; exact X4
    · obtain ⟨f, rfl⟩ : ∃ e, f = e + 1 := ⟨f - 1, by omega⟩
      obtain ⟨m1, M1, M2, M3⟩ := mline m f sm
      refine ⟨m1, ?_, M2, M3.1⟩
      rw [M1, if_neg e]
      by_cases w : pos' = L
      · rw [if_pos w, if_pos (decide_eq_true w)]
      · rw [if_neg w, if_neg (by rw [decide_eq_false w]; decide)]
    · have w : pos' = L := of_decide_eq_true q
      refine ⟨hlp, by omega, fun sz => by show (c0 sz ++ []).length = len; rw [List.append_nil]; exact hlen sz, fun sz => hW _ [] sz (TW_nil _), hE _ ?_ (TE_end hL (pos' + 1) (by omega) (by omega))⟩
      unfold chr
      rw [if_neg (by omega)]
      decide
theorem text_ex {T : Nat → Int32} {L : Nat} (hL : L ≤ 120) : ∀ (r pos : Nat), L - pos ≤ r → pos ≤ L → TXT T L pos := by
  have step : ∀ pos, pos ≤ L → (∀ p, pos < p → p ≤ L → TXT T L p) → TXT T L pos := by
    intro pos hp ih
    obtain ⟨pos', a1, a2, h⟩ := line_ex (T := T) hL pos hp
    rcases h with ⟨f1, f2⟩ | ⟨c, v, b1, b2, b3, b4, b5, b6, b7⟩ | ⟨c, v, c2, w, pos1, b1, b2, b3, b4, b5, b6, b7, b8, b9, b10, b11⟩
    · refine ⟨false, pos', fun _ => [], 0, fun _ => 0, a2, fun h x sz line f sx hs hl hf => ?_, fun m f sm hf => ?_, fun q => by cases q⟩
      · obtain ⟨f, rfl⟩ : ∃ e, f = e + 1 := ⟨f - 1, by omega⟩
        obtain ⟨x1, X1, X2, X3⟩ := f1 h x sz sx hs
        have z : ¬ nI L < nI line := fun q => by have := (nI_lt6 (by omega) (by omega)).mp q; omega
        refine ⟨x1, ?_, X2, fun q => by cases q⟩
        show B_X3_faultOfText_14 _ _ _ _ _ = _
        unfold B_X3_faultOfText_14
        rw [sx.2.2.1, if_neg z, if_neg (show ¬ (1 : Int32) = 0 by decide), X1, ob2_s, if_neg (by decide), X3]
        rfl
      · obtain ⟨f, rfl⟩ : ∃ e, f = e + 1 := ⟨f - 1, by omega⟩
        obtain ⟨m1, M1, M2, M3, M4⟩ := f2 m sm
        refine ⟨m1, ?_, M2, M3⟩
        rw [M1, ob_s]
        show B_X9_law_19 _ _ = _
        unfold B_X9_law_19
        rw [isNext_no M4, ob2_s, if_neg (by decide), if_pos M4]
        rfl
    · exact tailT hL b2 a2 (fun _ => c ++ [(59, 0)]) (len := c.length + 1) (fun _ => by rw [List.length_append]; rfl) (by omega) (by omega) (fun _ => v) b6 b7 (fun V C sz _ => by rw [List.append_assoc]; exact TW_a b4) (fun V hd _ => TE_a hL b2 a2 b3 b5 hd) (fun q => ih (pos' + 1) (by omega) (by omega))
    · refine tailT hL (by omega) a2 (fun sz => c ++ ([(63, nI (sz + (c.length + (c2.length + 2))))] ++ (c2 ++ [(59, 0)]))) (len := c.length + (c2.length + 2)) (fun _ => ?_) (by omega) (by omega) (fun V nm => if v nm = 0 then V nm else w nm) b10 b11 (fun V C sz hT => ?_) (fun V hd hT => TE_b hL b2 b4 a2 b5 b7 b9 hd hT) (fun q => ih (pos' + 1) (by omega) (by omega))
      · rw [List.length_append, List.length_append, List.length_append]
        show c.length + (1 + (c2.length + 1)) = _
        omega
      · rw [List.append_assoc, List.append_assoc, List.append_assoc]
        exact TW_b b6 b8 hT
  intro r
  induction r with
  | zero =>
    intro pos hr hp
    exact step pos hp (fun p p1 p2 => by omega)
  | succ r ih =>
    intro pos hr hp
    exact step pos hp (fun p p1 p2 => ih p (by omega) p2)
theorem law70 {L : Nat} (hL : L ≤ 120) {v1 v2 : Int32} : ∀ (n j f : Nat) (m : MM), j + n = L → n < f → mi m 80 5 = nI L → ∃ m2, f_X9_law_70 f v1 v2 (nI j) m = B_X9_law_109 v1 v2 (ms (ms m2 80 6 (nI L)) 80 9 1) ∧ (∀ h k, ml m2 h k = ml m h k) ∧ ∀ h k, mi m2 h k = if h = 94 ∧ j ≤ k ∧ k < L then mi m 93 k else mi m h k := by
  intro n
  induction n with
  | zero =>
    intro j f m hj hf h5
    obtain ⟨f, rfl⟩ : ∃ e, f = e + 1 := ⟨f - 1, by omega⟩
    refine ⟨m, ?_, fun _ _ => rfl, fun h k => by rw [if_neg (by omega)]⟩
    show B_X9_law_70 _ _ _ _ _ = _
    unfold B_X9_law_70
    rw [h5, if_pos ((nI_lec (by omega) (by omega)).mpr (by omega)), letx_s, letx_s]
  | succ n ih =>
    intro j f m hj hf h5
    obtain ⟨f, rfl⟩ : ∃ e, f = e + 1 := ⟨f - 1, by omega⟩
    have z : ¬ nI L ≤ nI j := fun q => by have := (nI_lec (by omega) (by omega)).mp q; omega
    obtain ⟨m2, r1, r2, r3⟩ := ih (j + 1) f (ms m 94 j (mi m 93 j)) (by omega) (by omega) (by rw [mi_ms, if_neg (by omega), h5])
    refine ⟨m2, ?_, fun h k => r2 h k, fun h k => ?_⟩
    · show B_X9_law_70 _ _ _ _ _ = _
      unfold B_X9_law_70
      rw [h5, if_neg z, if_pos (inb_nI (by omega) (by decide)), ix_nI (by omega), letx_s, nI_1, r1]
    · rw [r3 h k]
      by_cases a : h = 94
      · by_cases b : k = j
        · rw [if_neg (by omega), mi_ms, if_pos ⟨a, b⟩, if_pos (by omega), b]
        · by_cases d : j + 1 ≤ k ∧ k < L
          · rw [if_pos ⟨a, d⟩, mi_ms, if_neg (by omega), if_pos (by omega)]
          · rw [if_neg (by omega), mi_ms, if_neg (by omega), if_neg (by omega)]
      · rw [if_neg (by omega), mi_ms, if_neg (by omega), if_neg (by omega)]
def nm6 (h l o s n c : Int32) : Nat → Int32 := fun k => match k with
  | 0 => h
  | 1 => l
  | 2 => o
  | 3 => s
  | 4 => n
  | _ => c
theorem lawSem_of {T : Nat → Int32} {L CL : Nat} (hL : L ≤ 120) (hCL : CL ≤ L + 1) {C : List (Int32 × Int32)} (hlen : C.length = CL) {V : (Nat → Int32) → Int32} (hW : TW 0 C V) (hE : TE T L 0 V) {x : MX} {m : MM} (hl : isLaw x.1.1) (h4 : xi x x.1.1 4 = nI CL) (hc : CodeAt x x.1.1 0 C) (h6 : mi m 80 6 = nI L) (hT : ∀ k, k < L → mi m 94 k = T k) : LawSem x m := by
  refine ⟨fun h l o s n c => V (nm6 h l o s n c), fun x' h l o s n c hx => ?_, fun m' h l o s n c hm => ?_⟩
  · obtain ⟨l1, l2, l3⟩ := hx
    generalize x.1.1 = r at *
    have N : ∀ p q, ¬ p = r + 4 → xi (xs (xs (xs (xs (xs (xs x' (r + 4) 0 h) (r + 4) 1 l) (r + 4) 2 o) (r + 4) 3 s) (r + 4) 4 n) (r + 4) 5 c) p q = xi x' p q := by
      intro p q e
      rw [xi_xs, if_neg (by omega), xi_xs, if_neg (by omega), xi_xs, if_neg (by omega), xi_xs, if_neg (by omega), xi_xs, if_neg (by omega), xi_xs, if_neg (by omega)]
    have N2 : NMx r (xs (xs (xs (xs (xs (xs x' (r + 4) 0 h) (r + 4) 1 l) (r + 4) 2 o) (r + 4) 3 s) (r + 4) 4 n) (r + 4) 5 c) (nm6 h l o s n c) := by
      intro k hk
      match k, hk with
      | 0, _ | 1, _ | 2, _ | 3, _ | 4, _ | 5, _ => simp [xi_xs, nm6]
    generalize hy : xs (xs (xs (xs (xs (xs x' (r + 4) 0 h) (r + 4) 1 l) (r + 4) 2 o) (r + 4) 3 s) (r + 4) 4 n) (r + 4) 5 c = y at N N2
    have y1 : y.1 = x'.1 := by rw [← hy]; rfl
    have y2 : y.2.2 = x'.2.2 := by rw [← hy]; rfl
    have z4 : xi (xs y r 5 0) r 4 = nI (0 + C.length) := by rw [xi_xs, if_neg (by omega), N _ _ (by omega), l2, h4, hlen, Nat.zero_add]
    have zc : CodeAt (xs y r 5 0) r 0 C := hc.cg (fun b _ _ => ⟨by rw [xi_xs, if_neg (by omega), N _ _ (by omega), (l3 b).1], by rw [xi_xs, if_neg (by omega), N _ _ (by omega), (l3 b).2]⟩)
    have z5 : xi (xs y r 5 0) r 5 = nI 0 := by rw [xi_xs, if_pos ⟨rfl, rfl⟩]; rfl
    have zn : NMx r (xs y r 5 0) (nm6 h l o s n c) := fun k hk => by rw [xi_xs, if_neg (by omega)]; exact N2 k hk
    obtain ⟨w, w1, w2, w3, w4⟩ := hW r (xs y r 5 0) 0 0 LF (nm6 h l o s n c) zc z4 (by omega) (Nat.le_refl _) z5 (by decide) zn (by unfold LF; omega)
    refine ⟨y, w, ?_, ?_, ⟨y1, y2, fun p q e => N p q (fun z => ?_)⟩, ⟨w2, w3, fun p q e => ?_⟩⟩
    · unfold f_X3_name
      rw [letx_s, letx_s, letx_s, letx_s, letx_s, letx_s, hy]
    · unfold f_X3_workedOut
      rw [letx_s]
      exact w1
    · rw [z] at e
      rcases hl with u | u <;> rw [u] at e <;> cases e
    · have e1 : ¬ (p = r ∧ q = 5) := fun z => by rw [z.1, z.2] at e; rcases hl with u | u <;> rw [u] at e <;> cases e
      have e2 : ¬ (p = r + 3 ∧ 0 ≤ q) := fun z => by rw [z.1] at e; rcases hl with u | u <;> rw [u] at e <;> cases e
      rw [w4 p q e1 e2, xi_xs, if_neg e1]
  · obtain ⟨l1, l2⟩ := hm
    have es : ES T L (ms (nmM m' h l o s n c) 80 30 0) 0 (nm6 h l o s n c) := by
      unfold nmM
      refine ⟨?_, ?_, fun k hk => ?_, ?_⟩
      · rw [mi_ms, if_pos ⟨rfl, rfl⟩]; rfl
      · simp [mi_ms, l1, h6]
      · simp [mi_ms, l2, hT k hk]
      · refine ⟨?_, ?_, ?_, ?_, ?_, ?_⟩ <;> simp [mi_ms, nm6]
    obtain ⟨m1, w1, w2, w3⟩ := hE _ (nm6 h l o s n c) LF es (by unfold LF; omega)
    refine ⟨m1, ?_, fun p q => w2 p q, fun p q e => ?_⟩
    · unfold f_X9_given
      rw [letx_s]
      exact w1
    · have e1 : ¬ (p = 80 ∧ q = 30) := fun z => by rw [z.1, z.2] at e; cases e
      have e2 : ¬ p = 99 := fun z => by rw [z] at e; cases e
      rw [w3 p q e1, mi_ms, if_neg e1]
      unfold nmM
      rw [mi_ms, if_neg (by omega), mi_ms, if_neg (by omega), mi_ms, if_neg (by omega), mi_ms, if_neg (by omega), mi_ms, if_neg (by omega), mi_ms, if_neg (by omega)]
theorem cmd_law {x : MX} {m : MM} (hR : Rel x m) : ∃ r x' m', f_X8_law x = some (r, x') ∧ f_X9_law m = some (r, m') ∧ Rel x' m' := by
  obtain ⟨_, _, _, _, _, _, _, _, _, _, ⟨t1, t2, t3, t0, L, t4, t5, t6, t7⟩, _, _, _⟩ := id hR
  have sx : XS (fun k => mi m 93 k) L x.1.2 (xs (xs x x.1.2 6 0) x.1.2 4 0) 0 0 := by
    refine ⟨?_, ?_, ?_, fun k hk => ?_⟩
    · rw [xi_xs, if_neg (by omega), xi_xs, if_pos ⟨rfl, rfl⟩]; rfl
    · rw [xi_xs, if_pos ⟨rfl, rfl⟩]; rfl
    · rw [xi_xs, if_neg (by omega), xi_xs, if_neg (by omega), t5]
    · rw [xi_xs, if_neg (by omega), xi_xs, if_neg (by omega), (t7 k hk).1]
  have sm : MS (fun k => mi m 93 k) L (ms (ms (ms m 80 30 0) 80 31 0) 80 32 1) 0 0 := by
    refine ⟨?_, ?_, ?_, ?_, fun k hk => ?_⟩
    · simp [mi_ms]; rfl
    · simp [mi_ms]; rfl
    · simp [mi_ms]
    · simp [mi_ms, t6]
    · simp [mi_ms]
  obtain ⟨ok, posF, C, CL, V, F1, F2, F3, F4⟩ := text_ex (T := fun k => mi m 93 k) t4 L 0 (by omega) (by omega)
  obtain ⟨x1, X1, X2, X3⟩ := F2 x.1.2 _ 0 0 LF sx (Nat.le_refl _) (Nat.le_refl _) (by unfold LF; omega)
  obtain ⟨m1, M1, M2, M3⟩ := F3 _ LF sm (by unfold LF; omega)
  have eX : f_X3_faultOfText x.1.2 x = some ((if ok = true then -1 else nI posF), x1) := by
    unfold f_X3_faultOfText
    rw [letx_s, letx_s]
    exact X1
  have eM : f_X9_law m = (if ok = true then B_X9_law_58 1 m1 else B_X9_law_57 m1) := by
    unfold f_X9_law
    rw [letx_s, letx_s, letx_s]
    exact M1
  have x11 : x1.1 = x.1 := X2.1
  have x12 : x1.2.2 = x.2.2 := X2.2.1
  have xfr : ∀ a b, ¬ (a = x.1.2 ∨ a = x.1.2 + 1 ∨ a = x.1.2 + 2) → xi x1 a b = xi x a b := fun a b e => by
    rw [X2.2.2 a b (by omega) (by omega), xi_xs, if_neg (by omega), xi_xs, if_neg (by omega)]
  have mfr : ∀ h k, ¬ (h = 80 ∧ (k = 30 ∨ k = 31 ∨ k = 32)) → mi m1 h k = mi m h k := fun h k e => by
    rw [M2.2 h k e, mi_ms, if_neg (by omega), mi_ms, if_neg (by omega), mi_ms, if_neg (by omega)]
  have mfl : ∀ h k, ml m1 h k = ml m h k := fun h k => M2.1 h k
  have sA : SameM m (ms (ms (ms m 80 30 (mi m1 80 30)) 80 31 (mi m1 80 31)) 80 32 (mi m1 80 32)) := ((SameM.ms rfl).tr (SameM.ms rfl)).tr (SameM.ms rfl)
  have RA := hR.same (SameX.rf x) sA
  have mA : ∀ h k, mi m1 h k = mi (ms (ms (ms m 80 30 (mi m1 80 30)) 80 31 (mi m1 80 31)) 80 32 (mi m1 80 32)) h k := by
    intro h k
    rw [mi_ms, mi_ms, mi_ms]
    by_cases a : h = 80 ∧ k = 32
    · rw [if_pos a, a.1, a.2]
    · rw [if_neg a]
      by_cases b : h = 80 ∧ k = 31
      · rw [if_pos b, b.1, b.2]
      · rw [if_neg b]
        by_cases d : h = 80 ∧ k = 30
        · rw [if_pos d, d.1, d.2]
        · rw [if_neg d]
          exact mfr h k (by omega)
  generalize hA : ms (ms (ms m 80 30 (mi m1 80 30)) 80 31 (mi m1 80 31)) 80 32 (mi m1 80 32) = ma at RA mA
  have mal : ∀ h k, ml ma h k = ml m h k := fun h k => by rw [← hA]; rfl
  obtain ⟨nl, nc, ns, nh, h1, h2, h3, h4, h5, h6, h7, h8, h9, h10⟩ := RA
  have apart : ∀ b, ¬ (x.1.1 + b = x.1.2 ∨ x.1.1 + b = x.1.2 + 1 ∨ x.1.1 + b = x.1.2 + 2) ∨ 2 < b := by
    intro b
    rcases t1 with e | e <;> rcases t2 with f | f <;> rw [e, f] at t3 ⊢ <;> first | exact absurd rfl t3 | omega
  have ap0 : ¬ (x.1.1 = x.1.2 ∨ x.1.1 = x.1.2 + 1 ∨ x.1.1 = x.1.2 + 2) := by have := apart 0; omega
  cases ok with
  | false =>
    refine ⟨-100 - nI posF, xs x1 x.1.2 8 0, ms m1 80 5 0, ?_, ?_, nl, nc, ns, nh, ?_⟩
    · have z : ¬ nI posF < 0 := fun y => by have := (nI_lt6 (c := 0) (by omega) (by decide)).mp y; omega
      unfold f_X8_law
      rw [if_pos (lawB_of t2), eX, ob2_s, x11, if_pos (lawB_of t2), letx_s]
      show (if nI posF < 0 then _ else _) = _
      rw [if_neg z]
      rfl
    · rw [eM]
      show B_X9_law_57 m1 = _
      unfold B_X9_law_57 B_X9_law_58 B_X9_law_109
      rw [if_pos rfl, letx_s, if_pos rfl, M3]
    · apply rest_text h1 h2 h3 h4 h5 h6 h9 h10
      · intro h k hh
        rw [xi_xs, if_neg (by rcases t2 with e | e <;> omega)]
        exact xfr h k (by rcases t2 with e | e <;> omega)
      · intro h k
        show x1.2.2 h k = x.2.2 h k
        rw [x12]
      · intro h k q1 q2 q3
        rw [mi_ms, if_neg (by omega), mA]
      · intro h k
        show ml m1 h k = ml ma h k
        rw [mfl, mal]
      · show isLaw x1.1.1 ∧ isLaw x1.1.2 ∧ x1.1.1 ≠ x1.1.2 ∧ xi (xs x1 x.1.2 8 0) x1.1.1 8 = 0 ∧ ∃ sz : Nat, sz ≤ 120 ∧ xi (xs x1 x.1.2 8 0) x1.1.2 8 = nI sz ∧ mi (ms m1 80 5 0) 80 5 = nI sz ∧ ∀ k, k < sz → xi (xs x1 x.1.2 8 0) (x1.1.2 + 5) k = mi (ms m1 80 5 0) 93 k ∧ 0 ≤ (mi (ms m1 80 5 0) 93 k).toInt ∧ (mi (ms m1 80 5 0) 93 k).toInt ≤ 255
        rw [x11]
        refine ⟨t1, t2, t3, ?_, 0, by decide, ?_, ?_, fun k hk => absurd hk (by omega)⟩
        · rw [xi_xs, if_neg (by omega), xfr _ _ ap0, t0]
        · rw [xi_xs, if_pos ⟨rfl, rfl⟩]; rfl
        · rw [mi_ms, if_pos ⟨rfl, rfl⟩]; rfl
      · refine h8.cg ⟨by show x1.1.1 = x.1.1; rw [x11], ?_, fun k => ⟨?_, ?_⟩⟩ ⟨?_, fun k => ?_⟩ ?_
        · rw [xi_xs, if_neg (by omega), xfr _ _ ap0]
        · rw [xi_xs, if_neg (by have := apart 1; omega), xfr _ _ (by have := apart 1; omega)]
        · rw [xi_xs, if_neg (by have := apart 2; omega), xfr _ _ (by have := apart 2; omega)]
        · rw [mi_ms, if_neg (by omega), mA]
        · rw [mi_ms, if_neg (by omega), mA]
        · rw [mi_ms, if_neg (by omega), mA]
  | true =>
    obtain ⟨g1, g2, g3, g4, g5⟩ := F4 rfl
    obtain ⟨X4, X5⟩ := X3 rfl
    rw [Nat.zero_add] at X4
    have e5 : mi m1 80 5 = nI L := (mfr _ _ (by omega)).trans t6
    obtain ⟨m2, L1, L2, L3⟩ := law70 t4 (v1 := 1) (v2 := mi m1 80 30) L 0 LF m1 (by omega) (by unfold LF; omega) e5
    have L1' : f_X9_law_70 LF 1 (mi m1 80 30) 0 m1 = _ := L1
    refine ⟨1, xr (xs x1 x.1.2 8 0) x.1.2 x.1.1, ms (ms (ms m2 80 6 (nI L)) 80 9 1) 80 5 0, ?_, ?_, nl, nc, ns, nh, ?_⟩
    · unfold f_X8_law
      rw [if_pos (lawB_of t2), eX, ob2_s, x11, if_pos (lawB_of t2), letx_s]
      show (if (-1 : Int32) < 0 then (if isLawB x1.1.1 = true then if isLawB x1.1.2 = true then letx (xr (xs x1 x.1.2 8 0) x1.1.2 x1.1.2) (fun x10 => letx (xr x10 x10.1.1 x1.1.1) (fun x11 => some (1, x11))) else none else none) else _) = _
      rw [if_pos (by decide), x11, if_pos (lawB_of t1), if_pos (lawB_of t2), letx_s, letx_s]
      rfl
    · rw [eM]
      show B_X9_law_58 1 m1 = _
      unfold B_X9_law_58
      rw [if_neg (show ¬ (1 : Int32) = 0 by decide), L1']
      unfold B_X9_law_109
      rw [letx_s, if_neg (show ¬ (1 : Int32) = 0 by decide)]
    · have xir : ∀ h k, xi (xr (xs x1 x.1.2 8 0) x.1.2 x.1.1) h k = xi (xs x1 x.1.2 8 0) h k := fun _ _ => rfl
      have mF : ∀ h k, ¬ h = 94 → ¬ (h = 80 ∧ (k = 5 ∨ k = 6 ∨ k = 9)) → mi (ms (ms (ms m2 80 6 (nI L)) 80 9 1) 80 5 0) h k = mi m1 h k := by
        intro h k e1 e2
        rw [mi_ms, if_neg (by omega), mi_ms, if_neg (by omega), mi_ms, if_neg (by omega), L3, if_neg (by omega)]
      apply rest_text h1 h2 h3 h4 h5 h6 h9 h10
      · intro h k hh
        rw [xir, xi_xs, if_neg (by rcases t2 with e | e <;> omega)]
        exact xfr h k (by rcases t2 with e | e <;> omega)
      · intro h k
        show x1.2.2 h k = x.2.2 h k
        rw [x12]
      · intro h k q1 q2 q3
        rw [mF h k q2 q3, mA]
      · intro h k
        show ml m2 h k = ml ma h k
        rw [L2, mfl, mal]
      · refine ⟨t2, t1, fun e => t3 e.symm, ?_, 0, by decide, ?_, ?_, fun k hk => absurd hk (by omega)⟩
        · show xi (xs x1 x.1.2 8 0) x.1.2 8 = 0
          rw [xi_xs, if_pos ⟨rfl, rfl⟩]
        · show xi (xs x1 x.1.2 8 0) x.1.1 8 = nI 0
          rw [xi_xs, if_neg (by omega), xfr _ _ ap0, t0]; rfl
        · rw [mi_ms, if_pos ⟨rfl, rfl⟩]; rfl
      · have c4 : xi (xs x1 x.1.2 8 0) x.1.2 4 = nI CL := by rw [xi_xs, if_neg (by omega), X4]
        right
        refine ⟨?_, ?_, ?_⟩
        · rw [mi_ms, if_neg (by omega), mi_ms, if_pos ⟨rfl, rfl⟩]
        · show 0 < (xi (xs x1 x.1.2 8 0) x.1.2 4).toInt
          rw [c4, nI_int (by omega)]
          omega
        · refine lawSem_of (T := fun k => mi m 93 k) (L := L) (CL := CL) t4 (by omega) (g3 0) (g4 0) g5 t2 c4 ?_ ?_ (fun k hk => ?_)
          · exact X5.cg (fun b _ _ => ⟨by rw [xir]; show xi (xs x1 x.1.2 8 0) (x.1.2 + 1) b = _; rw [xi_xs, if_neg (by omega)], by rw [xir]; show xi (xs x1 x.1.2 8 0) (x.1.2 + 2) b = _; rw [xi_xs, if_neg (by omega)]⟩)
          · rw [mi_ms, if_neg (by omega), mi_ms, if_neg (by omega), mi_ms, if_pos ⟨rfl, rfl⟩]
          · rw [mi_ms, if_neg (by omega), mi_ms, if_neg (by omega), mi_ms, if_neg (by omega), L3, if_pos ⟨rfl, by omega, hk⟩, mfr _ _ (by omega)]
