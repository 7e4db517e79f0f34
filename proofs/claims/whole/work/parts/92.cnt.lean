/-! how many of a set are done by a hand -/
def cntP (m : MM) (v h : Nat) (n : Nat) : Nat := sumN (fun c => if v.testBit c = true ∧ gh m c = h then 1 else 0) n
def cnt (m : MM) (v h : Nat) : Nat := cntP m v h 6
theorem sumN_up {f g : Nat → Nat} {i : Nat} : ∀ n, i < n → (∀ k, k < n → ¬ k = i → f k = g k) → sumN f n + g i = sumN g n + f i := by
  intro n
  induction n with
  | zero => intro h _; exact absurd h (by omega)
  | succ n ih =>
    intro h e
    show sumN f n + f n + g i = sumN g n + g n + f i
    by_cases c : i = n
    · subst c
      rw [sumN_cg (g := g) i (fun k hk => e k (by omega) (by omega))]
      omega
    · have a := ih (by omega) (fun k hk hn => e k (by omega) hn)
      have b := e n (by omega) (by omega)
      omega
theorem cnt_or {m : MM} {v i h : Nat} (hi : i < 6) (hb : v.testBit i = false) : cnt m (v ||| 2 ^ i) h = cnt m v h + (if gh m i = h then 1 else 0) := by
  have a := sumN_up (f := fun c => if (v ||| 2 ^ i).testBit c = true ∧ gh m c = h then 1 else 0) (g := fun c => if v.testBit c = true ∧ gh m c = h then 1 else 0) (i := i) 6 hi (fun k _ hn => by
    show (if (v ||| 2 ^ i).testBit k = true ∧ gh m k = h then 1 else 0) = (if v.testBit k = true ∧ gh m k = h then 1 else 0)
    rw [tb_or, decide_eq_false (fun q => hn q.symm), Bool.or_false])
  have b : (if v.testBit i = true ∧ gh m i = h then 1 else 0) = 0 := by rw [if_neg]; intro q; rw [hb] at q; exact absurd q.1 (by decide)
  have c : (if (v ||| 2 ^ i).testBit i = true ∧ gh m i = h then 1 else 0) = (if gh m i = h then 1 else 0) := by
    rw [tb_or, decide_eq_true rfl, Bool.or_true]
    simp
  have a2 : cnt m (v ||| 2 ^ i) h + (if v.testBit i = true ∧ gh m i = h then 1 else 0) = cnt m v h + (if (v ||| 2 ^ i).testBit i = true ∧ gh m i = h then 1 else 0) := a
  rw [b, c] at a2
  omega
theorem pc_sum : ∀ v, v < 64 → pcN v = sumN (fun c => if v.testBit c = true then 1 else 0) 6 := by decide +kernel
theorem sumN_mono {f g : Nat → Nat} : ∀ n, (∀ k, k < n → f k ≤ g k) → sumN f n ≤ sumN g n := by
  intro n
  induction n with
  | zero => intro _; exact Nat.le_refl _
  | succ n ih =>
    intro h
    have a := ih (fun k hk => h k (by omega))
    have b := h n (by omega)
    show sumN f n + f n ≤ sumN g n + g n
    omega
theorem cnt_le {m : MM} {v h : Nat} (hv : v < 64) : cnt m v h ≤ pcN v := by
  rw [pc_sum v hv]
  refine sumN_mono 6 (fun k hk => ?_)
  show (if v.testBit k = true ∧ gh m k = h then 1 else 0) ≤ (if v.testBit k = true then 1 else 0)
  by_cases a : v.testBit k = true
  · rw [if_pos a]; split <;> omega
  · rw [if_neg (fun q => a q.1)]; omega
theorem cntP_le {m : MM} {v h : Nat} : ∀ n, cntP m v h n ≤ n := by
  intro n
  have := sumN_le (f := fun c => if v.testBit c = true ∧ gh m c = h then 1 else 0) (c := 1) n (fun k _ => by show (if v.testBit k = true ∧ gh m k = h then 1 else 0) ≤ 1; split <;> omega)
  unfold cntP
  omega
theorem tb_lt {v N c : Nat} (hv : v < 2 ^ N) (h : v.testBit c = true) : c < N := by
  by_cases e : c < N
  · exact e
  · have h1 : 2 ^ N ≤ 2 ^ c := Nat.pow_le_pow_right (by decide) (by omega)
    rw [Nat.testBit_lt_two_pow (show v < 2 ^ c by omega)] at h
    cases h
def tO (m0 : MM) (T : Nat → Nat → Int32 → Int32 → Int32 → Int32) (c t : Nat) : Int32 := T c c (mi m0 83 c) (mi m0 88 (gh m0 c)) (mi m0 90 (gh m0 c) + nI t)
def cO (m0 : MM) (T : Nat → Nat → Int32 → Int32 → Int32 → Int32) (v i : Nat) : Nat := (tO m0 T i (cnt m0 v (gh m0 i))).toInt.toNat
theorem cO_eq {x0 : MX} {m0 : MM} {T : Nat → Nat → Int32 → Int32 → Int32 → Int32} (K : TK x0 m0 T) (v i : Nat) : tO m0 T i (cnt m0 v (gh m0 i)) = nI (cO m0 T v i) ∧ cO m0 T v i ≤ 999 := by
  obtain ⟨h1, h2⟩ := K.2.2.2 i i (mi m0 83 i) (mi m0 88 (gh m0 i)) (mi m0 90 (gh m0 i) + nI (cnt m0 v (gh m0 i)))
  have e : 0 ≤ (tO m0 T i (cnt m0 v (gh m0 i))).toInt := by unfold tO; omega
  refine ⟨nI_of_toInt e, ?_⟩
  unfold cO tO
  omega
theorem tO_0 {m0 : MM} {T : Nat → Nat → Int32 → Int32 → Int32 → Int32} (c : Nat) : tO m0 T c 0 = nowT m0 T c c := by
  unfold tO nowT
  rw [show mi m0 90 (gh m0 c) + nI 0 = mi m0 90 (gh m0 c) from Int32.add_zero _]
/-- what the class's rows hold for ORDER -/
def RO (m0 : MM) (T : Nat → Nat → Int32 → Int32 → Int32 → Int32) (n : Nat) (x : MX) : Prop := (∀ c, c < n → xi x 50 c = nI (gh m0 c)) ∧ ∀ c t, c < n → t < n → xi x (43 + c) t = tO m0 T c t
theorem behindL {m0 : MM} {T : Nat → Nat → Int32 → Int32 → Int32 → Int32} {x0 : MX} (hR : Rel x0 m0) {n : Nat} (hn : n ≤ 6) {x : MX} (hx : RO m0 T n x) {v i : Nat} (hv : v < 2 ^ n) (hi : i < n) (hp : pcN v < n) : ∀ (r j f : Nat), j + r = 6 → r < f → f_X7_takesBehind_41_5 x f (nI v) (nI i) (nI (cntP m0 v (gh m0 i) j)) (nI j) = some (tO m0 T i (cnt m0 v (gh m0 i))) := by
  have h64 := le_64 hn
  intro r
  induction r with
  | zero =>
    intro j f hj hf
    obtain ⟨f, rfl⟩ : ∃ e, f = e + 1 := ⟨f - 1, by omega⟩
    have e : j = 6 := by omega
    subst e
    have hc := cnt_le (m := m0) (h := gh m0 i) (show v < 64 by omega)
    have hc2 : cntP m0 v (gh m0 i) 6 = cnt m0 v (gh m0 i) := rfl
    have z : ¬ (6 : Int32) ≤ nI (cnt m0 v (gh m0 i)) := fun q => by have := (nI_lec (n := 6) (by decide) (by omega)).mp q; omega
    show B_X7_takesBehind_41_5 _ _ _ _ _ _ = _
    unfold B_X7_takesBehind_41_5
    rw [if_pos (show (6 : Int32) ≤ nI 6 by decide), hc2, if_neg z, if_pos (inb_nI (by omega) (by decide)), if_pos (inb_nI (by omega) (by decide)), ix_nI (by omega), ix_nI (by omega), hx.2 i _ hi (by omega)]
  | succ r ih =>
    intro j f hj hf
    obtain ⟨f, rfl⟩ : ∃ e, f = e + 1 := ⟨f - 1, by omega⟩
    have z : ¬ (6 : Int32) ≤ nI j := fun q => by have := (nI_lec (n := 6) (by decide) (by omega)).mp q; omega
    have hl := cntP_le (m := m0) (v := v) (h := gh m0 i) j
    have es : cntP m0 v (gh m0 i) (j + 1) = cntP m0 v (gh m0 i) j + (if v.testBit j = true ∧ gh m0 j = gh m0 i then 1 else 0) := rfl
    have r0 := ih (j + 1) f (by omega) (by omega)
    rw [es] at r0
    show B_X7_takesBehind_41_5 _ _ _ _ _ _ = _
    unfold B_X7_takesBehind_41_5 B_X7_takesBehind_41_40
    rw [if_neg z, nI_1]
    by_cases c : v.testBit j = false
    · rw [if_pos ((bit_0 (by omega) (by omega)).mpr c)]
      rw [if_neg (fun q => by rw [c] at q; exact absurd q.1 (by decide)), Nat.add_zero] at r0
      exact r0
    · have c' : v.testBit j = true := by simpa using c
      have hj2 := tb_lt hv c'
      have g1 := (gh_lt hR (b := j) (by omega)).1
      have g2 := (gh_lt hR (b := i) (by omega)).1
      rw [if_neg (fun q => c ((bit_0 (by omega) (by omega)).mp q)), if_pos (inb_nI (by omega) (by decide)), if_pos (inb_nI (by omega) (by decide)), ix_nI (by omega), ix_nI (by omega), hx.1 j hj2, hx.1 i hi]
      by_cases d : gh m0 j = gh m0 i
      · rw [if_pos ((nI_eqc (by omega) (by omega)).mpr d), nI_1]
        rw [if_pos ⟨c', d⟩] at r0
        exact r0
      · rw [if_neg (fun q => d ((nI_eqc (by omega) (by omega)).mp q))]
        rw [if_neg (fun q => d q.2), Nat.add_zero] at r0
        exact r0
theorem behind {x0 : MX} {m0 : MM} {T : Nat → Nat → Int32 → Int32 → Int32 → Int32} (K : TK x0 m0 T) {n : Nat} (hn : n ≤ 6) {x : MX} (hx : RO m0 T n x) {v i : Nat} (hv : v < 2 ^ n) (hi : i < n) (hp : pcN v < n) : f_X7_takesBehind_41 (nI v) (nI i) x = some (nI (cO m0 T v i)) := by
  rw [← (cO_eq K v i).1]
  exact behindL K.1 hn hx hv hi hp 6 0 LF (by omega) (by unfold LF; omega)
