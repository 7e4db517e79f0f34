theorem tsc_mid {h k : Nat} (h1 : 32 ≤ h) (h2 : h ≤ 50) : tscX h k = false := by
  have f : ∀ n, 50 < n → (h == n) = false := fun n hn => by rw [beq_eq_false_iff_ne]; omega
  unfold tscX
  rw [f 59 (by decide), f 60 (by decide), f 65 (by decide), f 66 (by decide), f 56 (by decide), f 62 (by decide)]
  rfl
theorem scr_mid {h k : Nat} (h1 : 32 ≤ h) (h2 : h ≤ 50) : scrX h k = true := by
  unfold scrX
  rw [decide_eq_true h1, decide_eq_true h2]
  rfl
theorem sameUp {x0 x : MX} (sx : SameX x0 x) {h k : Nat} {v : Int32} (h1 : 32 ≤ h) (h2 : h ≤ 50) : SameX x0 (xs x h k v) := sx.tr (SameX.xs (scr_mid h1 h2))
theorem NR32.same {x y : MX} (h : NR32 x y) : SameX x y := ⟨h.1, h.2.1, fun a b e => h.2.2 a b (fun q => by rw [q] at e; cases e)⟩
theorem NR41.same {x y : MX} (h : NR41 x y) : SameX x y := ⟨h.1, h.2.1, fun a b e => h.2.2 a b (fun q => by rw [q] at e; cases e)⟩
def cP (m0 : MM) (T : Nat → Nat → Int32 → Int32 → Int32 → Int32) (v i : Nat) : Nat := (nowT m0 T i (pcN v)).toInt.toNat
theorem cP_eq {x0 : MX} {m0 : MM} {T : Nat → Nat → Int32 → Int32 → Int32 → Int32} (K : TK x0 m0 T) (v i : Nat) : nowT m0 T i (pcN v) = nI (cP m0 T v i) ∧ cP m0 T v i ≤ 999 := by
  obtain ⟨h1, h2⟩ := nowT_in K i (pcN v)
  exact ⟨nI_of_toInt (by omega), by unfold cP; omega⟩
theorem pairsM {x0 : MX} {m0 : MM} {T : Nat → Nat → Int32 → Int32 → Int32 → Int32} (K : TK x0 m0 T) {nl nc ns : Nat} (h1 : RCnt nl nc ns x0 m0) {n : Nat} (hn : n ≤ nl) : ∀ (d k v sum f : Nat) (m : MM), k + d = n → pcN v = k → v < 2 ^ nl → sum ≤ k * 999 → d < f → SameM m0 m → ∃ m', G_X9_pairs f (nI k) (nI n) (nI v) (nI sum) m = some m' ∧ SameM m0 m' ∧ RS k n (sum + vl (cP m0 T) nl d v) (gq (cP m0 T) nl d v) m m' := by
  have hl := h1.2.2.1
  have h64 := le_64 hl
  have hc : PC (cP m0 T) nl := fun v i _ _ _ => (cP_eq K v i).2
  intro d
  induction d with
  | zero =>
    intro k v sum f m hk hp hv hs hf sm
    obtain ⟨f, rfl⟩ : ∃ e, f = e + 1 := ⟨f - 1, by omega⟩
    have e : k = n := by omega
    subst e
    exact leafpairs (s := G_X9_pairs f) sm (n := k) (by omega) (sum := sum) (by omega) (nI v) _
  | succ d ih =>
    intro k v sum f m hk hp hv hs hf sm
    obtain ⟨f0, rfl⟩ : ∃ e, f = e + 1 := ⟨f - 1, by omega⟩
    have hk6 : k < 6 := by omega
    have ne : ¬ nI k = nI n := fun q => by have := (nI_eqc (by omega) (by omega)).mp q; omega
    obtain ⟨f1, f2, f3⟩ := vl_FM hl hc hv (d := d) (by omega)
    have r := nodeG (m0 := m0) (c := cP m0 T) (N := nl) (k := k) (n := n) (d := d) (v := v) (sum := sum) hl (by omega) (g := fun i => cP m0 T v i + vl (cP m0 T) nl d (v ||| 2 ^ i)) (F := fun f j m => f_X9_pairs_61 (G_X9_pairs f0) f (nI k) (nI n) (nI v) (nI sum) j m) ?_ ?_ ?_ ?_ f1 nl 0 LF m (by omega) (by unfold LF; omega) sm (fun _ _ => rfl) (Or.inl ⟨fun s hs => absurd hs (by omega), rfl, fun _ _ => rfl⟩)
    · obtain ⟨m', r1, r2, r3⟩ := r
      refine ⟨m', ?_, r2, ?_⟩
      · show R_X9_pairs (G_X9_pairs f0) _ _ _ _ _ = _
        unfold R_X9_pairs
        rw [if_neg ne]
        exact r1
      · have e : gq (cP m0 T) nl (d + 1) v = ptI (cP m0 T) nl d v (gq1 (cP m0 T) nl d v) := by
          funext t
          cases t <;> rfl
        rw [e, f3]
        exact r3
    · intro f m sm
      show B_X9_pairs_61 _ _ _ _ _ _ _ _ = _
      unfold B_X9_pairs_61
      rw [(cntM h1 sm).1, if_pos ((nI_lec (by omega) (by omega)).mpr (Nat.le_refl _))]
    · intro f i m sm hi hb
      have z : ¬ nI nl ≤ nI i := fun q => by have := (nI_lec (by omega) (by omega)).mp q; omega
      show B_X9_pairs_61 _ _ _ _ _ _ _ _ = _
      unfold B_X9_pairs_61 B_X9_pairs_115
      rw [(cntM h1 sm).1, if_neg z, has_eq (by omega) (by omega), if_pos hb, nI_1]
    · intro f i m sm hi hb
      have z : ¬ nI nl ≤ nI i := fun q => by have := (nI_lec (by omega) (by omega)).mp q; omega
      have s5 : SameM m0 (ms m 100 k (nI i)) := sm.tr (SameM.ms rfl)
      obtain ⟨m1, E1, E2⟩ := nowMN K s5 (a := i) (b := k) (by omega) hk6
      obtain ⟨c1, c2⟩ := cP_eq K v i
      rw [hp] at c1
      rw [c1] at E1
      have hp2 := pc_or v (by omega) i (by omega) hb
      obtain ⟨m2, F1, F2, F3⟩ := ih (k + 1) (v ||| 2 ^ i) (sum + cP m0 T v i) f0 m1 (by omega) (by omega) (or_N hv hi) (by omega) (by omega) (s5.tr E2.toM)
      refine ⟨m2, ?_, F2, ?_⟩
      · show B_X9_pairs_61 _ _ _ _ _ _ _ _ = _
        unfold B_X9_pairs_61 B_X9_pairs_115
        rw [(cntM h1 sm).1, if_neg z, has_eq (by omega) (by omega), if_neg (by rw [hb]; decide), if_pos (inb_nI hk6 (by decide)), ix_nI (by omega), letx_s, E1, ob2_s, nI_1, nI_1, bit_or v (by omega) i (by omega), nA_add, F1, ob_s]
      · rw [Nat.add_assoc] at F3
        refine RS_down F3 (fun t ht => ?_) ?_ ?_ (fun t => ?_)
        · rw [E2.2 _ _ rfl, mi_ms, if_neg (by omega)]
        · rw [E2.2 _ _ rfl, mi_ms, if_pos ⟨rfl, rfl⟩]
        · rw [E2.2 _ _ rfl, mi_ms, if_neg (by omega)]
        · rw [E2.2 _ _ rfl, mi_ms, if_neg (by omega)]
    · intro s hs2 hb
      have := vl_bd hl hc hv (d := d) (by omega) hs2 hb
      show sum + (cP m0 T v s + vl (cP m0 T) nl d (v ||| 2 ^ s)) < 1000000
      omega
def PX (m0 : MM) (T : Nat → Nat → Int32 → Int32 → Int32 → Int32) (nl cc l : Nat) (x : MX) : Prop := ∀ c l', (c < cc ∧ l' < nl) ∨ (c = cc ∧ l' < l) → xi x (34 + c) l' = nowT m0 T l' c
theorem fillIn {x0 : MX} {m0 : MM} {T : Nat → Nat → Int32 → Int32 → Int32 → Int32} (K : TK x0 m0 T) {nl nc ns : Nat} (h1 : RCnt nl nc ns x0 m0) {KX : Int32 → Int32 → Int32 → MX → Option (Int32 × MX)} {N cu : Int32} {cc : Nat} (hcc : cc < 6) : ∀ (r l f : Nat) (x : MX), l + r = nl → r < f → SameX x0 x → PX m0 T nl cc l x → ∃ x', f_X8_paired_45 KX f N cu (nI cc) (nI l) x = KX N cu (nI (cc + 1)) x' ∧ SameX x0 x' ∧ PX m0 T nl (cc + 1) 0 x' := by
  have hl := h1.2.2.1
  intro r
  induction r with
  | zero =>
    intro l f x hj hf sx hp
    obtain ⟨f, rfl⟩ : ∃ e, f = e + 1 := ⟨f - 1, by omega⟩
    refine ⟨x, ?_, sx, fun c l' h => hp c l' (by omega)⟩
    show B_X8_paired_45 _ _ _ _ _ _ _ = _
    unfold B_X8_paired_45
    rw [(cntX h1 sx).1, if_pos ((nI_lec (by omega) (by omega)).mpr (by omega)), nI_1]
  | succ r ih =>
    intro l f x hj hf sx hp
    obtain ⟨f, rfl⟩ : ∃ e, f = e + 1 := ⟨f - 1, by omega⟩
    have z : ¬ nI nl ≤ nI l := fun q => by have := (nI_lec (by omega) (by omega)).mp q; omega
    obtain ⟨x1, E1, E2⟩ := nowXT K sx (a := l) (b := cc) (by omega) hcc
    obtain ⟨x', r1, r2⟩ := ih (l + 1) f (xs x1 (34 + cc) l (nowT m0 T l cc)) (by omega) (by omega) (sameUp (sx.tr E2.toX) (by omega) (by omega)) (fun c l' h => by
      rw [xi_xs]
      by_cases e : c = cc ∧ l' = l
      · rw [if_pos ⟨by omega, e.2⟩, e.1, e.2]
      · by_cases e2 : c = cc
        · rw [if_neg (by omega), E2.2.2 _ _ (tsc_mid (by omega) (by omega))]
          exact hp c l' (by omega)
        · rw [if_neg (by omega), E2.2.2 _ _ (tsc_mid (by omega) (by omega))]
          exact hp c l' (by omega))
    refine ⟨x', ?_, r2⟩
    show B_X8_paired_45 _ _ _ _ _ _ _ = _
    unfold B_X8_paired_45
    rw [(cntX h1 sx).1, if_neg z, if_pos (inb_nI hcc (by decide)), E1, ob2_s, if_pos (inb_nI (by omega) (by decide)), ix_nI (by omega), ix_nI (by omega), letx_s, nI_1, r1]
theorem fillOut {x0 : MX} {m0 : MM} {T : Nat → Nat → Int32 → Int32 → Int32 → Int32} (K : TK x0 m0 T) {nl nc ns : Nat} (h1 : RCnt nl nc ns x0 m0) {cu : Int32} {n : Nat} (hn : n ≤ 6) : ∀ (r cc f : Nat) (x : MX), cc + r = n → r < f → SameX x0 x → PX m0 T nl cc 0 x → ∃ x', f_X8_paired_37 f (nI n) cu (nI cc) x = B_X8_paired_37 (fun _ _ _ _ => none) (nI n) cu (nI n) x' ∧ SameX x0 x' ∧ PX m0 T nl n 0 x' := by
  intro r
  induction r with
  | zero =>
    intro cc f x hj hf sx hp
    obtain ⟨f, rfl⟩ : ∃ e, f = e + 1 := ⟨f - 1, by omega⟩
    have e : cc = n := by omega
    subst e
    refine ⟨x, ?_, sx, hp⟩
    show B_X8_paired_37 _ _ _ _ _ = _
    unfold B_X8_paired_37
    rw [if_pos ((nI_lec (by omega) (by omega)).mpr (Nat.le_refl _)), if_pos ((nI_lec (by omega) (by omega)).mpr (Nat.le_refl _))]
  | succ r ih =>
    intro cc f x hj hf sx hp
    obtain ⟨f, rfl⟩ : ∃ e, f = e + 1 := ⟨f - 1, by omega⟩
    have z : ¬ nI n ≤ nI cc := fun q => by have := (nI_lec (by omega) (by omega)).mp q; omega
    obtain ⟨x1, E1, E2, E3⟩ := fillIn K h1 (KX := f_X8_paired_37 f) (N := nI n) (cu := cu) (cc := cc) (by omega) nl 0 LF x (by omega) (by have := h1.2.2.1; unfold LF; omega) sx hp
    obtain ⟨x', r1, r2⟩ := ih (cc + 1) f x1 (by omega) (by omega) E2 E3
    refine ⟨x', ?_, r2⟩
    show B_X8_paired_37 _ _ _ _ _ = _
    rw [← r1, ← E1]
    unfold B_X8_paired_37
    rw [if_neg z]
    rfl
theorem cmd_paired {x : MX} {m : MM} (a b : Int32) (hR : Rel x m) : ∃ r x' m', f_X8_paired a b x = some (r, x') ∧ f_X9_paired a b m = some (r, m') ∧ Rel x' m' := by
  obtain ⟨nl, nc, ns, nh, h1, h2, h3⟩ := id hR
  obtain ⟨T, K⟩ := tk_ex hR
  have e0 : (0 : Int32).toInt = 0 := by decide
  have e1 : (1 : Int32).toInt = 1 := by decide
  have em : (-1 : Int32).toInt = -1 := by decide
  have hl := h1.2.2.1
  have hc6 := h1.2.2.2.1
  have k0 : f_X9_isIn a 0 (nI nc) = decide (0 ≤ a.toInt ∧ a.toInt ≤ (nc : Int)) := by rw [isIn_eq, e0, nI_int (by omega)]
  unfold f_X8_paired f_X9_paired
  rw [h1.1.1, h1.1.2.1, h1.2.1.1, h1.2.1.2.1, k0]
  by_cases c : 0 ≤ a.toInt ∧ a.toInt ≤ (nc : Int)
  · have c1 : ¬ a < 0 := by rw [i_lt, e0]; omega
    have c2 : ¬ nI nc < a := by rw [i_lt, nI_int (by omega)]; omega
    obtain ⟨n, hn, rfl⟩ := nI_ex (a := a) (n := nc + 1) c.1 (by omega)
    have sb : (nI n - 1).toInt = (n : Int) - 1 := by rw [i_sub (by rw [nI_int (by omega), e1]; omega) (by rw [nI_int (by omega), e1]; omega), nI_int (by omega), e1]
    have k1 : f_X9_isIn b (-1) (nI n - 1) = decide (-1 ≤ b.toInt ∧ b.toInt ≤ (n : Int) - 1) := by rw [isIn_eq, em, sb]
    rw [if_neg c1, if_neg c2, decide_eq_true c, if_pos rfl, k1]
    by_cases d : -1 ≤ b.toInt ∧ b.toInt ≤ (n : Int) - 1
    · have d1 : ¬ b < -1 := by rw [i_lt, em]; omega
      have d2 : b < nI n := by rw [i_lt, nI_int (by omega)]; omega
      rw [if_neg d1, if_pos d2, decide_eq_true d, if_pos rfl]
      by_cases g : n ≤ nl
      · rw [if_pos ((nI_lec (by omega) (by omega)).mpr g), if_pos ((nI_lec (by omega) (by omega)).mpr g)]
        have h64 := le_64 hl
        have hpos : 0 < 2 ^ nl := Nat.pow_pos (by decide)
        have hc : PC (cP m T) nl := fun v i _ _ _ => (cP_eq K v i).2
        -- the class
        obtain ⟨x1, X1, X2, X3⟩ := fillOut K h1 (cu := b) (n := n) (by omega) n 0 LF x (by omega) (by unfold LF; omega) (SameX.rf x) (fun c l' h => by omega)
        have X1' : f_X8_paired_37 LF (nI n) b 0 x = B_X8_paired_37 (fun _ _ _ _ => none) (nI n) b (nI n) x1 := X1
        have H : HT32 (xs (xs x1 32 2 (nI nl)) 32 3 (nI n)) (cP m T) nl n := by
          intro y v i hy hv hp hi hb
          have hp6 := pc_le v (by omega)
          unfold f_X4_takesBehind_32
          have z : ¬ (6 : Int32) ≤ nI (pcN v) := fun q => by have := (nI_lec (n := 6) (by decide) (by omega)).mp q; omega
          rw [bc_eq v (by omega), if_neg z, if_pos (inb_nI (by omega) (by decide)), if_pos (inb_nI (by omega) (by decide)), ix_nI (by omega), ix_nI (by omega), hy.2.2 _ _ (by omega), xi_xs, if_neg (by omega), xi_xs, if_neg (by omega), X3 (pcN v) i (by omega), (cP_eq K v i).1]
        obtain ⟨x2, Y1, Y2, Y3⟩ := plan32 (x := x1) hl g hc H
        have S2 : SameX x x2 := (sameUp (sameUp X2 (by omega) (by omega)) (by omega) (by omega)).tr Y2.same
        -- the reference
        have sM : SameM m (ms m 80 36 (-1)) := SameM.ms rfl
        obtain ⟨m', M1, M2, M3⟩ := pairsM K h1 g n 0 0 0 RF (ms m 80 36 (-1)) (by omega) rfl hpos (by omega) (by unfold RF; omega) sM
        have M1' : f_X9_pairs 0 (nI n) 0 0 (ms m 80 36 (-1)) = some m' := M1
        have bt : better (mi (ms m 80 36 (-1)) 80 36) (0 + vl (cP m T) nl n 0) := by
          rw [mi_ms, if_pos ⟨rfl, rfl⟩]
          exact Or.inl (by decide)
        obtain ⟨M4, M5, M6⟩ := M3.2.1 bt
        rw [X1', letx_s, M1', ob_s]
        unfold B_X8_paired_37
        rw [if_pos ((nI_lec (by omega) (by omega)).mpr (Nat.le_refl _)), (cntX h1 X2).1, Y1, ob_s]
        by_cases w : 0 ≤ b
        · rw [if_pos w, if_pos w]
          rw [i_le, e0] at w
          obtain ⟨k, hk, rfl⟩ := nI_ex (a := b) (n := n) w (by omega)
          have ch := chosen32 (x := x2) (x0 := xs (xs x1 32 2 (nI nl)) 32 3 (nI n)) hl g hc (by rw [xi_xs, if_neg (by omega), xi_xs, if_pos ⟨rfl, rfl⟩]) (by rw [xi_xs, if_pos ⟨rfl, rfl⟩]) H Y2 Y3 hk n 0 LF 0 (-1) (by omega) (by unfold LF; omega) (by omega) hpos rfl
          have ch' : f_X5_chosen_32 (nI k) x2 = some (nI (gq (cP m T) nl n 0 k)) := ch
          rw [ch', ob_s, if_pos (inb_nI (by omega) (by decide)), ix_nI (by omega), M6 k (by omega) hk]
          exact ⟨_, x2, m', rfl, rfl, hR.same S2 M2⟩
        · rw [if_neg w, if_neg w]
          unfold f_X5_leastSum_32
          have y0 := Y3 0 hpos
          rw [ob_s, y0, M4, Nat.zero_add]
          exact ⟨_, x2, m', rfl, rfl, hR.same S2 M2⟩
      · rw [if_neg (fun q => g ((nI_lec (by omega) (by omega)).mp q)), if_neg (fun q => g ((nI_lec (by omega) (by omega)).mp q))]
        exact ⟨_, x, m, rfl, rfl, hR⟩
    · refine ⟨-1, x, m, ?_, ?_, hR⟩
      · by_cases d1 : b < -1
        · rw [if_pos d1]
        · rw [if_neg d1, if_neg]
          intro d2
          rw [i_lt, em] at d1
          rw [i_lt, nI_int (by omega)] at d2
          omega
      · rw [decide_eq_false d]; rfl
  · refine ⟨-1, x, m, ?_, ?_, hR⟩
    · by_cases c1 : a < 0
      · rw [if_pos c1]
      · rw [if_neg c1, if_pos]
        rw [i_lt, e0] at c1
        rw [i_lt, nI_int (by omega)]
        omega
    · rw [decide_eq_false c]; rfl
