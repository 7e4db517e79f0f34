theorem nI_m1 {j : Nat} (h : j < 2147483647) : nI (j + 1) + (-1) = nI j := by
  have e := nI_s1 h
  rw [Int32.sub_eq_add_neg] at e
  exact e
theorem soonX {x0 x : MX} {m0 : MM} (hR : Rel x0 m0) (hx : SameX x0 x) {s t : Nat} (hs : s < 8) (ht : t < 8) : f_X8_isSooner (nI s) (nI t) x = some (decide (LO m0 s * LK m0 t < LO m0 t * LK m0 s)) := by
  obtain ⟨_, a2, a3⟩ := LK_eq hR hs
  obtain ⟨_, b2, b3⟩ := LK_eq hR ht
  obtain ⟨_, c2, c3⟩ := LO_eq hR hs
  obtain ⟨_, d2, d3⟩ := LO_eq hR ht
  have e1 : xi x 18 s = nI (LK m0 s) := (hx.2.2 _ _ rfl).trans a3
  have e2 : xi x 18 t = nI (LK m0 t) := (hx.2.2 _ _ rfl).trans b3
  have e3 : xi x 19 s = nI (LO m0 s) := (hx.2.2 _ _ rfl).trans c3
  have e4 : xi x 19 t = nI (LO m0 t) := (hx.2.2 _ _ rfl).trans d3
  have m1 : LO m0 t * LK m0 s ≤ 99 * 99 := Nat.mul_le_mul d2 a2
  have m2 : LO m0 s * LK m0 t ≤ 99 * 99 := Nat.mul_le_mul c2 b2
  unfold f_X8_isSooner
  rw [if_pos (inb_nI hs (by decide)), if_pos (inb_nI ht (by decide)), ix_nI (by omega), ix_nI (by omega), e1, e2, e3, e4, nI_mul, nI_mul]
  by_cases c : LO m0 t * LK m0 s ≤ LO m0 s * LK m0 t
  · rw [if_pos ((nI_lec (by omega) (by omega)).mpr c), decide_eq_false (by omega)]
  · rw [if_neg (fun q => c ((nI_lec (by omega) (by omega)).mp q)), decide_eq_true (by omega)]
theorem srtEnd {K2 : Int32 → MX → Option MX} {x0 : MX} {m0 : MM} {j : Nat} (hj : j < 8) {a : Nat → Nat} (hS : Srt m0 j a) {p : Nat} (hp : p ≤ j) {x : MX} (sx : SameX x0 x) (h1 : ∀ i, i < p → xi x 55 i = nI (a i)) (h2 : ∀ i, p < i → i ≤ j → xi x 55 i = nI (a (i - 1))) (h3 : ∀ i, p ≤ i → i < j → ltS m0 j (a i)) (h4 : ∀ i, i < p → ltS m0 (a i) j) : ∃ x' b, B_X8_sortSpots_52 K2 (nI j) (nI p) x = K2 (nI (j + 1)) x' ∧ SameX x0 x' ∧ (∀ i, i < j + 1 → xi x' 55 i = nI (b i)) ∧ Srt m0 (j + 1) b := by
  refine ⟨xs x 55 p (nI j), insA a p j, ?_, sx.tr (SameX.xs rfl), fun i hi => ?_, Srt_ins hS hp h4 h3⟩
  · unfold B_X8_sortSpots_52
    rw [if_pos (inb_nI (by omega) (by decide)), ix_nI (by omega), letx_s, nI_1]
  · rw [xi_xs]
    unfold insA
    by_cases c : i < p
    · rw [if_neg (by omega), if_pos c]
      exact h1 i c
    · by_cases d : i = p
      · rw [if_pos ⟨rfl, d⟩, if_neg c, if_pos d]
      · rw [if_neg (by omega), if_neg c, if_neg d]
        exact h2 i (by omega) (by omega)
theorem srtIn {K2 : Int32 → MX → Option MX} {x0 : MX} {m0 : MM} (hR : Rel x0 m0) {nl nc ns : Nat} (hN : RNum nl nc ns x0 m0) (hns : ns ≤ 8) {j : Nat} (hj : j < ns) {a : Nat → Nat} (hS : Srt m0 j a) : ∀ (p fuel : Nat) (x : MX), p ≤ j → p < fuel → SameX x0 x → (∀ i, i < p → xi x 55 i = nI (a i)) → (∀ i, p < i → i ≤ j → xi x 55 i = nI (a (i - 1))) → (∀ i, p ≤ i → i < j → ltS m0 j (a i)) → ∃ x' b, f_X8_sortSpots_12 K2 fuel (nI j) (nI p) x = K2 (nI (j + 1)) x' ∧ SameX x0 x' ∧ (∀ i, i < j + 1 → xi x' 55 i = nI (b i)) ∧ Srt m0 (j + 1) b := by
  intro p
  induction p with
  | zero =>
    intro f x hp hf sx h1 h2 h3
    obtain ⟨f, rfl⟩ : ∃ e, f = e + 1 := ⟨f - 1, by omega⟩
    show ∃ x' b, B_X8_sortSpots_12 _ _ _ _ _ = _ ∧ _
    unfold B_X8_sortSpots_12
    rw [if_pos (show nI 0 ≤ 0 by decide)]
    exact srtEnd (by omega) hS hp sx h1 h2 h3 (fun i hi => absurd hi (by omega))
  | succ p ih =>
    intro f x hp hf sx h1 h2 h3
    obtain ⟨f, rfl⟩ : ∃ e, f = e + 1 := ⟨f - 1, by omega⟩
    have z : ¬ nI (p + 1) ≤ 0 := fun q => by have := (nI_lec (c := 0) (by omega) (by decide)).mp q; omega
    have hap := hS.1 p (by omega)
    show ∃ x' b, B_X8_sortSpots_12 _ _ _ _ _ = _ ∧ _
    unfold B_X8_sortSpots_12
    rw [if_neg z, nI_s1 (by omega), if_pos (inb_nI (by omega) (by decide)), ix_nI (by omega), h1 p (by omega), soonX hR sx (by omega) (by omega), ob_s]
    by_cases c : LO m0 j * LK m0 (a p) < LO m0 (a p) * LK m0 j
    · rw [if_pos (decide_eq_true c), if_pos (inb_nI (by omega) (by decide)), ix_nI (by omega), letx_s, nI_m1 (by omega)]
      refine ih f _ (by omega) (by omega) (sx.tr (SameX.xs rfl)) (fun i hi => ?_) (fun i g1 g2 => ?_) (fun i g1 g2 => ?_)
      · rw [xi_xs, if_neg (by omega)]
        exact h1 i (by omega)
      · rw [xi_xs]
        by_cases d : i = p + 1
        · rw [if_pos ⟨rfl, d⟩, d, Nat.add_sub_cancel]
        · rw [if_neg (by omega)]
          exact h2 i (by omega) g2
      · by_cases d : i = p
        · rw [d]; exact Or.inl c
        · exact h3 i (by omega) g2
    · rw [if_neg (by rw [decide_eq_false c]; decide)]
      have hlt : ltS m0 (a p) j := by
        by_cases e : LO m0 (a p) * LK m0 j < LO m0 j * LK m0 (a p)
        · exact Or.inl e
        · exact Or.inr ⟨by omega, hap⟩
      refine srtEnd (by omega) hS hp sx h1 h2 h3 (fun i hi => ?_)
      by_cases d : i = p
      · rw [d]; exact hlt
      · have hai := hS.1 i (by omega)
        exact ltS_tr (LK_pos hN (by omega)) (LK_pos hN (by omega)) (LK_pos hN hj) (hS.2.1 i p (by omega) (by omega)) hlt
theorem srtOut {x0 : MX} {m0 : MM} (hR : Rel x0 m0) {nl nc ns : Nat} (h1 : RCnt nl nc ns x0 m0) (hN : RNum nl nc ns x0 m0) : ∀ (n j fuel : Nat) (x : MX) (a : Nat → Nat), j + n = ns → n < fuel → SameX x0 x → (∀ i, i < j → xi x 55 i = nI (a i)) → Srt m0 j a → ∃ x' b, f_X8_sortSpots_2 fuel (nI j) x = some x' ∧ SameX x0 x' ∧ (∀ i, i < ns → xi x' 55 i = nI (b i)) ∧ Srt m0 ns b := by
  have hns := h1.2.2.2.2
  intro n
  induction n with
  | zero =>
    intro j f x a hj hf sx h2 h3
    obtain ⟨f, rfl⟩ : ∃ e, f = e + 1 := ⟨f - 1, by omega⟩
    have e : j = ns := by omega
    subst e
    refine ⟨x, a, ?_, sx, h2, h3⟩
    show B_X8_sortSpots_2 _ _ _ = _
    unfold B_X8_sortSpots_2
    rw [(cntX h1 sx).2.2, if_pos ((nI_lec (by omega) (by omega)).mpr (Nat.le_refl _))]
  | succ n ih =>
    intro j f x a hj hf sx h2 h3
    obtain ⟨f, rfl⟩ : ∃ e, f = e + 1 := ⟨f - 1, by omega⟩
    have z : ¬ nI ns ≤ nI j := fun q => by have := (nI_lec (by omega) (by omega)).mp q; omega
    obtain ⟨x1, b, E1, E2, E3, E4⟩ := srtIn (K2 := f_X8_sortSpots_2 f) hR hN hns (j := j) (by omega) h3 j LF x (Nat.le_refl _) (by unfold LF; omega) sx h2 (fun i g1 g2 => absurd g1 (by omega)) (fun i g1 g2 => absurd g1 (by omega))
    obtain ⟨x2, b2, F1, F2⟩ := ih (j + 1) f x1 b (by omega) (by omega) E2 E3 E4
    refine ⟨x2, b2, ?_, F2⟩
    show B_X8_sortSpots_2 _ _ _ = _
    unfold B_X8_sortSpots_2
    rw [(cntX h1 sx).2.2, if_neg z, E1, F1]
def seenF (a : Nat → Nat) : Nat → Nat
  | 0 => 0
  | i + 1 => seenF a i ||| 2 ^ a i
def clkF (m : MM) (a : Nat → Nat) : Nat → Nat
  | 0 => 0
  | i + 1 => clkF m a i + LO m (a i)
def smF (m : MM) (a : Nat → Nat) : Nat → Nat
  | 0 => 0
  | i + 1 => smF m a i + LK m (a i) * clkF m a (i + 1)
def rsF (m : MM) (v : Nat) (n : Nat) : Nat := sumN (fun s => if v.testBit s = true then 0 else LK m s * 999) n
theorem seen_lt {a : Nat → Nat} : ∀ i, (∀ k, k < i → a k < 8) → seenF a i < 256 := by
  intro i
  induction i with
  | zero => intro _; exact (by decide : (0 : Nat) < 256)
  | succ i ih =>
    intro h
    exact or_lt (ih (fun k hk => h k (by omega))) (h i (by omega))
theorem seen_tb {a : Nat → Nat} (s : Nat) : ∀ i, (seenF a i).testBit s = false ↔ ∀ k, k < i → ¬ a k = s := by
  intro i
  induction i with
  | zero => exact ⟨fun _ k hk => absurd hk (by omega), fun _ => Nat.zero_testBit s⟩
  | succ i ih =>
    show (seenF a i ||| 2 ^ a i).testBit s = false ↔ _
    rw [tb_or, Bool.or_eq_false_iff, ih, decide_eq_false_iff_not]
    constructor
    · intro ⟨h1, h2⟩ k hk
      by_cases e : k = i
      · rw [e]; exact h2
      · exact h1 k (by omega)
    · intro h
      exact ⟨fun k hk => h k (by omega), h i (by omega)⟩
theorem clk_le {x0 : MX} {m0 : MM} (hR : Rel x0 m0) {a : Nat → Nat} : ∀ i, (∀ k, k < i → a k < 8) → clkF m0 a i ≤ i * 99 := by
  intro i
  induction i with
  | zero => intro _; exact Nat.zero_le _
  | succ i ih =>
    intro h
    have h1 := ih (fun k hk => h k (by omega))
    have h2 := (LO_eq hR (h i (by omega))).2.1
    show clkF m0 a i + LO m0 (a i) ≤ (i + 1) * 99
    omega
theorem sm_le {x0 : MX} {m0 : MM} (hR : Rel x0 m0) {a : Nat → Nat} : ∀ i, i ≤ 8 → (∀ k, k < i → a k < 8) → smF m0 a i ≤ i * 78408 := by
  intro i
  induction i with
  | zero => intro _ _; exact Nat.zero_le _
  | succ i ih =>
    intro h8 h
    have h1 := ih (by omega) (fun k hk => h k (by omega))
    have h2 := (LK_eq hR (h i (by omega))).2.1
    have h3 := clk_le hR (i + 1) h
    have h4 : LK m0 (a i) * clkF m0 a (i + 1) ≤ 99 * 792 := Nat.mul_le_mul h2 (by omega)
    show smF m0 a i + LK m0 (a i) * clkF m0 a (i + 1) ≤ (i + 1) * 78408
    omega
theorem rs_le {x0 : MX} {m0 : MM} (hR : Rel x0 m0) (v n : Nat) (hn : n ≤ 8) : rsF m0 v n ≤ n * 98901 := by
  refine sumN_le n (fun k hk => ?_)
  have h2 := (LK_eq hR (s := k) (by omega)).2.1
  show (if v.testBit k = true then 0 else LK m0 k * 999) ≤ 98901
  split <;> omega
theorem all_le {x0 : MX} {m0 : MM} (hR : Rel x0 m0) (n : Nat) (hn : n ≤ 8) : sumN (LK m0) n ≤ n * 99 :=
  sumN_le n (fun k hk => (LK_eq hR (s := k) (by omega)).2.1)
theorem mean2 {x0 x : MX} {m0 : MM} (hR : Rel x0 m0) {nl nc ns : Nat} (h1 : RCnt nl nc ns x0 m0) (hN : RNum nl nc ns x0 m0) (hp : 0 < ns) (sx : SameX x0 x) {v S : Nat} (hv : v < 256) (hS : S ≤ 700000) (part : Int32) : ∀ (n j fuel : Nat), j + n = ns → n < fuel → f_X8_meanOfLooking_77 x fuel part (nI v) (nI (sumN (LK m0) j)) (nI (S + rsF m0 v j)) (nI j) = some (lowV (S + rsF m0 v ns) (sumN (LK m0) ns) part) := by
  have hns := h1.2.2.2.2
  have pos : 0 < sumN (LK m0) ns := by
    obtain ⟨k, rfl⟩ : ∃ k, ns = k + 1 := ⟨ns - 1, by omega⟩
    have := LK_pos hN (s := k) (by omega)
    show 0 < sumN (LK m0) k + LK m0 k
    omega
  intro n
  induction n with
  | zero =>
    intro j f hj hf
    obtain ⟨f, rfl⟩ : ∃ e, f = e + 1 := ⟨f - 1, by omega⟩
    have e : j = ns := by omega
    subst e
    have b1 := rs_le hR v j (by omega)
    have b2 := all_le hR j (by omega)
    show B_X8_meanOfLooking_77 _ _ _ _ _ _ _ = _
    unfold B_X8_meanOfLooking_77
    rw [(cntX h1 sx).2.2, if_pos ((nI_lec (by omega) (by omega)).mpr (Nat.le_refl _)), lI_nI (by omega), lI_nI (by omega), lowXx (by omega) (by omega) pos, ob_s]
  | succ n ih =>
    intro j f hj hf
    obtain ⟨f, rfl⟩ : ∃ e, f = e + 1 := ⟨f - 1, by omega⟩
    have z : ¬ nI ns ≤ nI j := fun q => by have := (nI_lec (by omega) (by omega)).mp q; omega
    have e : xi x 18 j = nI (LK m0 j) := (sx.2.2 _ _ rfl).trans (LK_eq hR (by omega)).2.2
    have r := ih (j + 1) f (by omega) (by omega)
    show B_X8_meanOfLooking_77 _ _ _ _ _ _ _ = _
    unfold B_X8_meanOfLooking_77 B_X8_meanOfLooking_130
    rw [(cntX h1 sx).2.2, if_neg z, if_pos (inb_nI (by omega) (by decide)), ix_nI (by omega), e, nI_1, nA_add, ← r]
    have e2 : sumN (LK m0) (j + 1) = sumN (LK m0) j + LK m0 j := rfl
    have e3 : rsF m0 v (j + 1) = rsF m0 v j + (if v.testBit j = true then 0 else LK m0 j * 999) := rfl
    rw [e2, e3]
    by_cases c : v.testBit j = false
    · rw [if_pos ((bit_0 hv (by omega)).mpr c), letx_s, if_neg (by rw [c]; decide)]
      have e4 : nI (S + rsF m0 v j) + nI (LK m0 j) * 999 = nI (S + (rsF m0 v j + LK m0 j * 999)) := by
        rw [← Nat.add_assoc, ← nA_add (S + rsF m0 v j) (LK m0 j * 999), ← nI_mul]
        rfl
      rw [e4]
    · rw [if_neg (fun q => c ((bit_0 hv (by omega)).mp q)), if_pos (by simpa using c)]
      rfl
theorem mean1 {x0 x : MX} {m0 : MM} (hR : Rel x0 m0) {nl nc ns : Nat} (h1 : RCnt nl nc ns x0 m0) (hN : RNum nl nc ns x0 m0) (hp : 0 < ns) (sx : SameX x0 x) {a : Nat → Nat} {c : Nat} (hc : c ≤ 8) (ha : ∀ i, i < c → a i < 8) (hx : ∀ i, i < c → xi x 55 i = nI (a i)) (part : Int32) : ∀ (n i fuel : Nat), i + n = c → n < fuel → f_X8_meanOfLooking_14 x fuel (nI c) part (nI (clkF m0 a i)) (nI (seenF a i)) 0 (nI (smF m0 a i)) (nI i) = some (lowV (smF m0 a c + rsF m0 (seenF a c) ns) (sumN (LK m0) ns) part) := by
  intro n
  induction n with
  | zero =>
    intro i f hi hf
    obtain ⟨f, rfl⟩ : ∃ e, f = e + 1 := ⟨f - 1, by omega⟩
    have e : i = c := by omega
    subst e
    have b1 := sm_le hR i hc ha
    have r := mean2 hR h1 hN hp sx (v := seenF a i) (S := smF m0 a i) (seen_lt i ha) (by omega) part ns 0 LF (by omega) (by have := h1.2.2.2.2; unfold LF; omega)
    show B_X8_meanOfLooking_14 _ _ _ _ _ _ _ _ _ = _
    unfold B_X8_meanOfLooking_14
    rw [if_pos ((nI_lec (by omega) (by omega)).mpr (Nat.le_refl _)), ← r]
    rfl
  | succ n ih =>
    intro i f hi hf
    obtain ⟨f, rfl⟩ : ∃ e, f = e + 1 := ⟨f - 1, by omega⟩
    have z : ¬ nI c ≤ nI i := fun q => by have := (nI_lec (by omega) (by omega)).mp q; omega
    have hai := ha i (by omega)
    have e1 : xi x 18 (a i) = nI (LK m0 (a i)) := (sx.2.2 _ _ rfl).trans (LK_eq hR hai).2.2
    have e2 : xi x 19 (a i) = nI (LO m0 (a i)) := (sx.2.2 _ _ rfl).trans (LO_eq hR hai).2.2
    have r := ih (i + 1) f (by omega) (by omega)
    show B_X8_meanOfLooking_14 _ _ _ _ _ _ _ _ _ = _
    unfold B_X8_meanOfLooking_14
    rw [if_neg z, if_pos (inb_nI (by omega) (by decide)), ix_nI (by omega), hx i (by omega), if_pos (inb_nI hai (by decide)), ix_nI (by omega), letx_s, letx_s, letx_s, e1, e2, nI_1, nA_add, nI_mul, nA_add, bit_or _ (seen_lt i (fun k hk => ha k (by omega))) _ hai, ← r]
    rfl
theorem meanX {x0 x : MX} {m0 : MM} (hR : Rel x0 m0) {nl nc ns : Nat} (h1 : RCnt nl nc ns x0 m0) (hN : RNum nl nc ns x0 m0) (hp : 0 < ns) (sx : SameX x0 x) {a : Nat → Nat} {c : Nat} (hc : c ≤ 8) (ha : ∀ i, i < c → a i < 8) (hx : ∀ i, i < c → xi x 55 i = nI (a i)) (part : Int32) : f_X8_meanOfLooking (nI c) part x = some (lowV (smF m0 a c + rsF m0 (seenF a c) ns) (sumN (LK m0) ns) part) :=
  mean1 hR h1 hN hp sx hc ha hx part c 0 LF (by omega) (by unfold LF; omega)
theorem nextM {x0 : MX} {m0 : MM} (hR : Rel x0 m0) {nl nc ns : Nat} (h1 : RCnt nl nc ns x0 m0) (hN : RNum nl nc ns x0 m0) {v t : Nat} (hv : v < 256) (ht : t < ns) (ht2 : v.testBit t = false) (hl : ∀ s, s < ns → v.testBit s = false → s = t ∨ ltS m0 t s) : ∀ (n j fuel : Nat) (b : Int32), j + n = ns → n < fuel → ((b = -1 ∧ ∀ s, s < j → v.testBit s = true) ∨ ∃ q, q < j ∧ b = nI q ∧ v.testBit q = false ∧ ∀ s, s < j → v.testBit s = false → s = q ∨ ltS m0 q s) → f_X9_nextSpot_4 m0 fuel (nI v) b (nI j) = some (nI t) := by
  have hns := h1.2.2.2.2
  intro n
  induction n with
  | zero =>
    intro j f b hj hf hb
    obtain ⟨f, rfl⟩ : ∃ e, f = e + 1 := ⟨f - 1, by omega⟩
    have e : j = ns := by omega
    subst e
    show B_X9_nextSpot_4 _ _ _ _ _ = _
    unfold B_X9_nextSpot_4
    rw [h1.2.1.2.2, if_pos ((nI_lec (by omega) (by omega)).mpr (Nat.le_refl _))]
    rcases hb with ⟨_, h⟩ | ⟨q, q1, q2, q3, q4⟩
    · rw [h t ht] at ht2; cases ht2
    · rcases hl q q1 q3 with e | e
      · rw [q2, e]
      · rcases q4 t ht ht2 with g | g
        · rw [q2, g]
        · exact (ltS_as e g).elim
  | succ n ih =>
    intro j f b hj hf hb
    obtain ⟨f, rfl⟩ : ∃ e, f = e + 1 := ⟨f - 1, by omega⟩
    have z : ¬ nI ns ≤ nI j := fun q => by have := (nI_lec (by omega) (by omega)).mp q; omega
    show B_X9_nextSpot_4 _ _ _ _ _ = _
    unfold B_X9_nextSpot_4 B_X9_nextSpot_54 B_X9_nextSpot_56
    rw [h1.2.1.2.2, if_neg z, has_eq hv (by omega), nI_1]
    by_cases c : v.testBit j = true
    · rw [if_pos c]
      refine ih (j + 1) f b (by omega) (by omega) ?_
      rcases hb with ⟨b1, h⟩ | ⟨q, q1, q2, q3, q4⟩
      · refine Or.inl ⟨b1, fun s hs => ?_⟩
        by_cases e : s = j
        · rw [e]; exact c
        · exact h s (by omega)
      · refine Or.inr ⟨q, by omega, q2, q3, fun s hs g => ?_⟩
        by_cases e : s = j
        · rw [e, c] at g; cases g
        · exact q4 s (by omega) g
    · rw [if_neg c]
      have c' : v.testBit j = false := by simpa using c
      rcases hb with ⟨b1, h⟩ | ⟨q, q1, q2, q3, q4⟩
      · subst b1
        rw [if_pos (by decide)]
        refine ih (j + 1) f (nI j) (by omega) (by omega) (Or.inr ⟨j, by omega, rfl, c', fun s hs g => ?_⟩)
        by_cases e : s = j
        · exact Or.inl e
        · rw [h s (by omega)] at g; cases g
      · subst q2
        have zq : ¬ nI q < 0 := fun y => by have := (nI_lt6 (c := 0) (by omega) (by decide)).mp y; omega
        obtain ⟨a1, a2, _⟩ := LK_eq hR (s := q) (by omega)
        obtain ⟨b1, b2, _⟩ := LK_eq hR (s := j) (by omega)
        obtain ⟨c1, c2, _⟩ := LO_eq hR (s := q) (by omega)
        obtain ⟨d1, d2, _⟩ := LO_eq hR (s := j) (by omega)
        have m1 : LO m0 q * LK m0 j ≤ 99 * 99 := Nat.mul_le_mul c2 b2
        have m2 : LO m0 j * LK m0 q ≤ 99 * 99 := Nat.mul_le_mul d2 a2
        rw [if_neg zq, if_pos (inb_nI (by omega) (by decide)), if_pos (inb_nI (by omega) (by decide)), ix_nI (by omega), ix_nI (by omega), a1, b1, c1, d1, nI_mul, nI_mul]
        by_cases d : LO m0 q * LK m0 j ≤ LO m0 j * LK m0 q
        · rw [if_pos ((nI_lec (by omega) (by omega)).mpr d)]
          refine ih (j + 1) f (nI q) (by omega) (by omega) (Or.inr ⟨q, by omega, rfl, q3, fun s hs g => ?_⟩)
          by_cases e : s = j
          · right
            rw [e]
            by_cases w : LO m0 q * LK m0 j = LO m0 j * LK m0 q
            · exact Or.inr ⟨w, q1⟩
            · exact Or.inl (by omega)
          · exact q4 s (by omega) g
        · rw [if_neg (fun y => d ((nI_lec (by omega) (by omega)).mp y))]
          have hjq : ltS m0 j q := Or.inl (by omega)
          refine ih (j + 1) f (nI j) (by omega) (by omega) (Or.inr ⟨j, by omega, rfl, c', fun s hs g => ?_⟩)
          by_cases e : s = j
          · exact Or.inl e
          · right
            rcases q4 s (by omega) g with w | w
            · rw [w]; exact hjq
            · exact ltS_tr (LK_pos hN (by omega)) (LK_pos hN (by omega)) (LK_pos hN (by omega)) hjq w
theorem nextA {x0 : MX} {m0 : MM} (hR : Rel x0 m0) {nl nc ns : Nat} (h1 : RCnt nl nc ns x0 m0) (hN : RNum nl nc ns x0 m0) {a : Nat → Nat} (hS : Srt m0 ns a) {i : Nat} (hi : i < ns) : f_X9_nextSpot (nI (seenF a i)) m0 = some (nI (a i)) := by
  have hns := h1.2.2.2.2
  refine nextM hR h1 hN (seen_lt i (fun k hk => by have := hS.1 k (by omega); omega)) (hS.1 i hi) ?_ ?_ ns 0 LF (-1) (by omega) (by unfold LF; omega) (Or.inl ⟨rfl, fun s hs => absurd hs (by omega)⟩)
  · rw [seen_tb]
    intro k hk e
    have := hS.2.1 k i hk hi
    rw [e] at this
    exact ltS_ir this
  · intro s hs g
    obtain ⟨k, hk, e⟩ := hS.2.2.1 s hs
    rw [seen_tb] at g
    by_cases c : k < i
    · exact absurd e (g k c)
    · by_cases d : k = i
      · left; rw [← e, d]
      · right; rw [← e]; exact hS.2.1 i k (by omega) hk
theorem srchM {x0 : MX} {m0 : MM} (hR : Rel x0 m0) {nl nc ns : Nat} (h1 : RCnt nl nc ns x0 m0) (hN : RNum nl nc ns x0 m0) {a : Nat → Nat} (hS : Srt m0 ns a) {k : Int32} (R : Option Int64) (hend : k.toInt < 0 → f_X9_lowest (lI (smF m0 a ns)) (lI (sumN (fun i => LK m0 (a i)) ns)) (k + 2) = R) : ∀ (n i fuel : Nat), i + n = ns → n < fuel → ((k.toInt < 0) ∨ ∃ q, q < ns ∧ i ≤ q ∧ k = nI q ∧ R = some (lI (a q))) → f_X9_search_42 m0 fuel k (nI (seenF a i)) (nI (clkF m0 a i)) (lI (smF m0 a i)) (lI (sumN (fun i => LK m0 (a i)) i)) (nI i) = R := by
  have hns := h1.2.2.2.2
  have ha : ∀ i, i < ns → a i < 8 := fun i hi => by have := hS.1 i hi; omega
  intro n
  induction n with
  | zero =>
    intro i f hi hf hk
    obtain ⟨f, rfl⟩ : ∃ e, f = e + 1 := ⟨f - 1, by omega⟩
    have e : i = ns := by omega
    subst e
    show B_X9_search_42 _ _ _ _ _ _ _ _ = _
    unfold B_X9_search_42
    rw [h1.2.1.2.2, if_pos ((nI_lec (by omega) (by omega)).mpr (Nat.le_refl _))]
    rcases hk with h | ⟨q, q1, q2, _⟩
    · rw [hend h]
      cases R <;> rfl
    · omega
  | succ n ih =>
    intro i f hi hf hk
    obtain ⟨f, rfl⟩ : ∃ e, f = e + 1 := ⟨f - 1, by omega⟩
    have z : ¬ nI ns ≤ nI i := fun q => by have := (nI_lec (by omega) (by omega)).mp q; omega
    have hai := ha i (by omega)
    have b1 := clk_le hR (a := a) (i + 1) (fun k hk => ha k (by omega))
    obtain ⟨e1, e1b, _⟩ := LK_eq hR hai
    obtain ⟨e2, e2b, _⟩ := LO_eq hR hai
    show B_X9_search_42 _ _ _ _ _ _ _ _ = _
    unfold B_X9_search_42
    rw [h1.2.1.2.2, if_neg z, nextA hR h1 hN hS (by omega), ob_s]
    have go : (k.toInt < 0) ∨ (∃ q, q < ns ∧ i + 1 ≤ q ∧ k = nI q ∧ R = some (lI (a q))) → ¬ nI i = k := by
      intro h y
      rcases h with h | ⟨q, q1, q2, q3, _⟩
      · rw [← y, nI_int (by omega)] at h; omega
      · rw [q3] at y
        have := (nI_eqc (by omega) (by omega)).mp y
        omega
    by_cases c : nI i = k
    · rw [if_pos c]
      rcases hk with h | ⟨q, q1, q2, q3, q4⟩
      · rw [← c, nI_int (by omega)] at h; omega
      · rw [q3] at c
        have := (nI_eqc (by omega) (by omega)).mp c
        subst this
        rw [q4, lI_nI (by omega)]
    · rw [if_neg c]
      have hk2 : (k.toInt < 0) ∨ (∃ q, q < ns ∧ i + 1 ≤ q ∧ k = nI q ∧ R = some (lI (a q))) := by
        rcases hk with h | ⟨q, q1, q2, q3, q4⟩
        · exact Or.inl h
        · refine Or.inr ⟨q, q1, ?_, q3, q4⟩
          by_cases w : i = q
          · rw [w] at c; exact absurd q3.symm c
          · omega
      have b2 : clkF m0 a i + LO m0 (a i) ≤ (i + 1) * 99 := b1
      rw [letx_s, if_pos (inb_nI hai (by decide)), ix_nI (by omega), e1, e2, letx_s, letx_s, nA_add, lI_nI (by omega), lI_nI (by omega), lI_mul, lI_add, lI_add, nI_1, bit_or _ (seen_lt i (fun k hk => ha k (by omega))) _ hai]
      exact ih (i + 1) f (by omega) (by omega) hk2
theorem rs_all {m0 : MM} {ns : Nat} {a : Nat → Nat} (hS : Srt m0 ns a) : rsF m0 (seenF a ns) ns = 0 := by
  have h : rsF m0 (seenF a ns) ns = sumN (fun _ => 0) ns := by
    refine sumN_cg ns (fun s hs => ?_)
    show (if (seenF a ns).testBit s = true then 0 else LK m0 s * 999) = 0
    rw [if_pos]
    obtain ⟨i, hi, e⟩ := hS.2.2.1 s hs
    by_cases c : (seenF a ns).testBit s = true
    · exact c
    · have c' : (seenF a ns).testBit s = false := by simpa using c
      rw [seen_tb] at c'
      exact absurd e (c' i hi)
  rw [h]
  have h2 := sumN_le (f := fun _ => 0) (c := 0) ns (fun _ _ => Nat.le_refl _)
  omega
theorem cmd_search {x : MX} {m : MM} (k : Int32) (hR : Rel x m) : ∃ r x', f_X8_search k x = some (r, x') ∧ f_X9_search k m = some r ∧ Rel x' m := by
  obtain ⟨nl, nc, ns, nh, h1, h2, h3⟩ := id hR
  have hns := h1.2.2.2.2
  have em : (-2 : Int32).toInt = -2 := by decide
  have e0 : (0 : Int32).toInt = 0 := by decide
  unfold f_X8_search f_X9_search
  rw [h1.1.2.2, h1.2.1.2.2]
  by_cases c : -2 ≤ k
  · rw [if_pos c, if_pos c]
    by_cases d : ns = 0
    · subst d
      rw [if_pos (show nI 0 = 0 from rfl), if_pos (show nI 0 = 0 from rfl)]
      exact ⟨_, x, rfl, rfl, hR⟩
    · have d2 : ¬ nI ns = 0 := fun q => d ((nI_eqc (c := 0) (by omega) (by decide)).mp q)
      rw [if_neg d2, if_neg d2]
      by_cases e : k < nI ns
      · rw [if_pos e, if_pos e]
        obtain ⟨x', a, X1, X2, X3, X4⟩ := srtOut hR h1 h2 ns 0 LF x (fun _ => 0) (by omega) (by unfold LF; omega) (SameX.rf x) (fun i hi => absurd hi (by omega)) (Srt_0 m _)
        have X1' : f_X8_sortSpots x = some x' := X1
        have ha : ∀ i, i < ns → a i < 8 := fun i hi => by have := X4.1 i hi; omega
        rw [X1', ob_s]
        rw [i_lt, nI_int (by omega)] at e
        by_cases n : k < 0
        · rw [if_pos n, (cntX h1 X2).2.2, meanX hR h1 h2 (by omega) X2 hns ha X3 (k + 2), ob_s]
          rw [rs_all X4, Nat.add_zero]
          refine ⟨_, x', rfl, ?_, hR.same X2 (SameM.rf m)⟩
          have pos : 0 < sumN (LK m) ns := by
            obtain ⟨q, rfl⟩ : ∃ q, ns = q + 1 := ⟨ns - 1, by omega⟩
            have := LK_pos h2 (s := q) (by omega)
            show 0 < sumN (LK m) q + LK m q
            omega
          have b1 := sm_le hR ns hns ha
          have b2 := all_le hR ns hns
          refine srchM hR h1 h2 X4 (k := k) _ (fun _ => ?_) ns 0 LF (by omega) (by unfold LF; omega) (Or.inl (by rw [i_lt, e0] at n; exact n))
          rw [X4.2.2.2 (LK m)]
          exact lowMm (by omega) (by omega) pos (k + 2)
        · rw [if_neg n]
          rw [i_lt, e0] at n
          obtain ⟨q, hq, rfl⟩ := nI_ex (a := k) (n := ns) (by omega) (by omega)
          rw [if_pos (inb_nI (by omega) (by decide)), ix_nI (by omega), X3 q hq]
          have hq8 := ha q hq
          rw [lI_nI (by omega)]
          refine ⟨_, x', rfl, ?_, hR.same X2 (SameM.rf m)⟩
          exact srchM hR h1 h2 X4 (k := nI q) _ (fun w => by rw [nI_int (by omega)] at w; omega) ns 0 LF (by omega) (by unfold LF; omega) (Or.inr ⟨q, hq, by omega, rfl, rfl⟩)
      · rw [if_neg e, if_neg e]
        exact ⟨_, x, rfl, rfl, hR⟩
  · rw [if_neg c, if_neg c]
    exact ⟨_, x, rfl, rfl, hR⟩
