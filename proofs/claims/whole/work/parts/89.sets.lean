/-! the class's plan over sets, receiver 32 -/
def NR32 (x0 x : MX) : Prop := x.1 = x0.1 ∧ x.2.2 = x0.2.2 ∧ ∀ h k, h ≠ 40 → xi x h k = xi x0 h k
def HT32 (x0 : MX) (c : Nat → Nat → Nat) (N n : Nat) : Prop := ∀ (x : MX) (v i : Nat), NR32 x0 x → v < 2 ^ N → pcN v < n → i < N → v.testBit i = false → f_X4_takesBehind_32 (nI v) (nI i) x = some (nI (c v i))
theorem sw32 {x : MX} {c : Nat → Nat → Nat} {N : Nat} (hN : N ≤ 6) {v i w : Nat} (hv : v < 2 ^ N) (hi : i < N) (ht : f_X4_takesBehind_32 (nI v) (nI i) x = some (nI (c v i))) (hw : xi x 40 (v ||| 2 ^ i) = nI w) : f_X5_sumWith_32 (nI v) (nI i) x = some (nI (c v i + w)) := by
  have h64 := le_64 hN
  have hl := or_N hv hi
  unfold f_X5_sumWith_32
  rw [if_pos (show (0 : Int32) ≤ nI i from (nI_lec (n := 0) (by decide) (by omega)).mpr (by omega)), ht, ob_s, bit_or v (by omega) i (by omega), if_pos (inb_nI (by omega) (by decide)), ix_nI (by omega), hw, nA_add]
theorem fbX32 {x : MX} {N : Nat} (hN : N ≤ 6) (hx : xi x 32 2 = nI N) {v : Nat} (hv : v < 2 ^ N) {g : Nat → Nat} (hg : ∀ i, i < N → v.testBit i = false → f_X5_sumWith_32 (nI v) (nI i) x = some (nI (g i)) ∧ g i < 1000000) : ∀ (n j fuel : Nat) (p : Int32 × Nat), j + n = N → n < fuel → p.2 ≤ 1000000 → f_X5_firstBest_32_8 x fuel (nI v) p.1 (nI p.2) (nI j) = some (fb g v n j p).1 := by
  have h64 := le_64 hN
  intro n
  induction n with
  | zero =>
    intro j f p hj hf hp
    obtain ⟨f, rfl⟩ : ∃ e, f = e + 1 := ⟨f - 1, by omega⟩
    show B_X5_firstBest_32_8 _ _ _ _ _ _ = _
    unfold B_X5_firstBest_32_8
    rw [hx, if_pos ((nI_lec (by omega) (by omega)).mpr (by omega))]
    rfl
  | succ n ih =>
    intro j f p hj hf hp
    obtain ⟨f, rfl⟩ : ∃ e, f = e + 1 := ⟨f - 1, by omega⟩
    have z : ¬ nI N ≤ nI j := fun q => by have := (nI_lec (by omega) (by omega)).mp q; omega
    show B_X5_firstBest_32_8 _ _ _ _ _ _ = some (fb g v n (j + 1) (if v.testBit j = true then p else if p.2 ≤ g j then p else (nI j, g j))).1
    unfold B_X5_firstBest_32_8 B_X5_firstBest_32_50
    rw [hx, if_neg z, nI_1]
    by_cases c : v.testBit j = false
    · obtain ⟨g1, g2⟩ := hg j (by omega) c
      rw [if_pos ((bit_0 (by omega) (by omega)).mpr c), g1, ob_s, if_neg (show ¬ v.testBit j = true by rw [c]; decide)]
      by_cases d : p.2 ≤ g j
      · rw [if_pos ((nI_lec (by omega) (by omega)).mpr d), if_pos d]
        exact ih (j + 1) f p (by omega) (by omega) hp
      · rw [if_neg (fun q => d ((nI_lec (by omega) (by omega)).mp q)), if_neg d]
        exact ih (j + 1) f (nI j, g j) (by omega) (by omega) (by show g j ≤ 1000000; omega)
    · rw [if_neg (fun q => c ((bit_0 (by omega) (by omega)).mp q)), if_pos (by simpa using c)]
      exact ih (j + 1) f p (by omega) (by omega) hp
/-- what least holds -/
def LS32 (x : MX) (c : Nat → Nat → Nat) (N n lo : Nat) : Prop := ∀ t, lo < t → t < 2 ^ N → xi x 40 t = nI (vl c N (n - pcN t) t)
theorem best32 {x0 x : MX} {c : Nat → Nat → Nat} {N n : Nat} (hN : N ≤ 6) (hn : n ≤ N) (hc : PC c N) (hx : xi x0 32 2 = nI N) (H : HT32 x0 c N n) (hr : NR32 x0 x) {v d : Nat} (hv : v < 2 ^ N) (hp : pcN v + (d + 1) = n) (hl : LS32 x c N n v) : f_X5_firstBest_32 (nI v) x = some (nI (gq1 c N d v)) ∧ f_X5_sumWith_32 (nI v) (nI (gq1 c N d v)) x = some (nI (vl c N (d + 1) v)) := by
  have h64 := le_64 hN
  have hs : ∀ i, i < N → v.testBit i = false → f_X5_sumWith_32 (nI v) (nI i) x = some (nI (c v i + vl c N d (v ||| 2 ^ i))) := by
    intro i hi h
    have h1 := gt_or v (by omega) i (by omega) h
    have h2 := pc_or v (by omega) i (by omega) h
    have h3 := hl (v ||| 2 ^ i) h1 (or_N hv hi)
    have e : n - pcN (v ||| 2 ^ i) = d := by omega
    rw [e] at h3
    exact sw32 hN hv hi (H x v i hr hv (by omega) hi h) h3
  obtain ⟨f1, f2, f3⟩ := vl_FM hN hc hv (d := d) (by omega)
  refine ⟨?_, ?_⟩
  · have r := fbX32 hN ((hr.2.2 32 2 (by decide)).trans hx) hv (g := fun i => c v i + vl c N d (v ||| 2 ^ i)) (fun i hi h => ⟨hs i hi h, by have := vl_bd hN hc hv (d := d) (by omega) hi h; show c v i + vl c N d (v ||| 2 ^ i) < 1000000; omega⟩) N 0 LF (-1, 1000000) (by omega) (by unfold LF; omega) (Nat.le_refl _)
    rw [f2] at r
    exact r
  · rw [hs _ f1.1 f1.2.1, f3]
theorem wo32 {x0 : MX} {c : Nat → Nat → Nat} {N n : Nat} (hN : N ≤ 6) (hn : n ≤ N) (hc : PC c N) (hx : xi x0 32 2 = nI N) (hx2 : xi x0 32 3 = nI n) (H : HT32 x0 c N n) : ∀ (v fuel : Nat) (x : MX), v < 2 ^ N → v + 1 < fuel → NR32 x0 x → LS32 x c N n v → ∃ x', f_X5_workOut_32_39 fuel (nI v) x = some x' ∧ NR32 x0 x' ∧ ∀ t, t < 2 ^ N → xi x' 40 t = nI (vl c N (n - pcN t) t) := by
  have h64 := le_64 hN
  have step : ∀ (v : Nat) (x : MX) (K : Int32 → MX → Option MX), v < 2 ^ N → NR32 x0 x → LS32 x c N n v → B_X5_workOut_32_39 K (nI v) x = K (nI v + (-1)) (xs x 40 v (nI (vl c N (n - pcN v) v))) := by
    intro v x K hv hr hl
    have z : ¬ nI v < 0 := fun y => by have := (nI_lt6 (c := 0) (by omega) (by decide)).mp y; omega
    have hp := pc_le v (by omega)
    unfold B_X5_workOut_32_39 B_X5_workOut_32_73
    rw [if_neg z, bc_eq v (by omega), (hr.2.2 32 3 (by decide)).trans hx2]
    by_cases d : pcN v < n
    · obtain ⟨e, he⟩ : ∃ e, pcN v + (e + 1) = n := ⟨n - pcN v - 1, by omega⟩
      obtain ⟨b1, b2⟩ := best32 hN hn hc hx H hr hv he hl
      have e2 : n - pcN v = e + 1 := by omega
      rw [if_pos ((nI_lt6 (by omega) (by omega)).mpr d), b1, ob_s, b2, ob_s, if_pos (inb_nI (by omega) (by decide)), ix_nI (by omega), letx_s, e2]
    · have e2 : n - pcN v = 0 := by omega
      rw [if_neg (fun q => d ((nI_lt6 (by omega) (by omega)).mp q)), if_pos (inb_nI (by omega) (by decide)), ix_nI (by omega), letx_s, e2]
      rfl
  have after : ∀ (v : Nat) (x : MX), NR32 x0 x → LS32 x c N n v → NR32 x0 (xs x 40 v (nI (vl c N (n - pcN v) v))) ∧ ∀ t, v ≤ t → t < 2 ^ N → xi (xs x 40 v (nI (vl c N (n - pcN v) v))) 40 t = nI (vl c N (n - pcN t) t) := by
    intro v x hr hl
    refine ⟨⟨hr.1, hr.2.1, fun h k e => ?_⟩, fun t h1 h2 => ?_⟩
    · rw [xi_xs, if_neg (by omega)]
      exact hr.2.2 h k e
    · rw [xi_xs]
      by_cases e : t = v
      · rw [if_pos ⟨rfl, e⟩, e]
      · rw [if_neg (by omega)]
        exact hl t (by omega) h2
  intro v
  induction v with
  | zero =>
    intro f x hv hf hr hl
    obtain ⟨f, rfl⟩ : ∃ e, f = e + 2 := ⟨f - 2, by omega⟩
    obtain ⟨a1, a2⟩ := after 0 x hr hl
    refine ⟨_, ?_, a1, fun t ht => a2 t (by omega) ht⟩
    show B_X5_workOut_32_39 (f_X5_workOut_32_39 (f + 1)) (nI 0) x = _
    rw [step 0 x _ hv hr hl]
    show B_X5_workOut_32_39 _ _ _ = _
    unfold B_X5_workOut_32_39
    rw [if_pos (show nI 0 + (-1) < 0 by decide)]
  | succ v ih =>
    intro f x hv hf hr hl
    obtain ⟨f, rfl⟩ : ∃ e, f = e + 1 := ⟨f - 1, by omega⟩
    obtain ⟨a1, a2⟩ := after (v + 1) x hr hl
    obtain ⟨x', r1, r2⟩ := ih f _ (by omega) (by omega) a1 (fun t h1 h2 => a2 t (by omega) h2)
    refine ⟨x', ?_, r2⟩
    show B_X5_workOut_32_39 (f_X5_workOut_32_39 f) (nI (v + 1)) x = _
    rw [step (v + 1) x _ hv hr hl, nI_m1 (by omega), r1]
theorem plan32 {x : MX} {c : Nat → Nat → Nat} {N n : Nat} (hN : N ≤ 6) (hn : n ≤ N) (hc : PC c N) (H : HT32 (xs (xs x 32 2 (nI N)) 32 3 (nI n)) c N n) : ∃ x', f_X5_workOut_32 (nI N) (nI n) x = some x' ∧ NR32 (xs (xs x 32 2 (nI N)) 32 3 (nI n)) x' ∧ ∀ t, t < 2 ^ N → xi x' 40 t = nI (vl c N (n - pcN t) t) := by
  have h64 := le_64 hN
  have hp : 0 < 2 ^ N := Nat.pow_pos (by decide)
  have e2 : xi (xs x 32 2 (nI N)) 32 2 = nI N := by rw [xi_xs, if_pos ⟨rfl, rfl⟩]
  have e3 : xi (xs (xs x 32 2 (nI N)) 32 3 (nI n)) 32 2 = nI N := by rw [xi_xs, if_neg (by omega), e2]
  have e4 : xi (xs (xs x 32 2 (nI N)) 32 3 (nI n)) 32 3 = nI n := by rw [xi_xs, if_pos ⟨rfl, rfl⟩]
  obtain ⟨x', r1, r2⟩ := wo32 hN hn hc e3 e4 H (2 ^ N - 1) LF (xs (xs x 32 2 (nI N)) 32 3 (nI n)) (by omega) (by unfold LF; omega) ⟨rfl, rfl, fun _ _ _ => rfl⟩ (fun t h1 h2 => absurd h1 (by omega))
  refine ⟨x', ?_, r2⟩
  unfold f_X5_workOut_32
  rw [letx_s, clampN hN, e2, letx_s, clampn hN hn, e3, letx_s, shl_1 N (by omega), r1]
theorem chosen32 {x0 x : MX} {c : Nat → Nat → Nat} {N n : Nat} (hN : N ≤ 6) (hn : n ≤ N) (hc : PC c N) (hx : xi x0 32 2 = nI N) (hx2 : xi x0 32 3 = nI n) (H : HT32 x0 c N n) (hr : NR32 x0 x) (hl : ∀ t, t < 2 ^ N → xi x 40 t = nI (vl c N (n - pcN t) t)) {k : Nat} (hk : k < n) : ∀ (d i fuel v : Nat) (it : Int32), i + d = n → d < fuel → i ≤ k → v < 2 ^ N → pcN v = i → f_X5_chosen_32_7 x fuel (nI k) (nI v) it (nI i) = some (nI (gq c N d v (k - i))) := by
  have h64 := le_64 hN
  intro d
  induction d with
  | zero =>
    intro i f v it hi hf hik hv hp
    omega
  | succ d ih =>
    intro i f v it hi hf hik hv hp
    obtain ⟨f, rfl⟩ : ∃ e, f = e + 2 := ⟨f - 2, by omega⟩
    obtain ⟨b1, _⟩ := best32 hN hn hc hx H hr hv (d := d) (by omega) (fun t h1 h2 => hl t h2)
    obtain ⟨f1, _, _⟩ := vl_FM hN hc hv (d := d) (by omega)
    have hq := f1.1
    have z1 : ¬ nI k < nI i := fun q => by have := (nI_lt6 (by omega) (by omega)).mp q; omega
    have z2 : ¬ nI n ≤ nI i := fun q => by have := (nI_lec (by omega) (by omega)).mp q; omega
    have z3 : (0 : Int32) ≤ nI (gq1 c N d v) := (nI_lec (n := 0) (by decide) (by omega)).mpr (by omega)
    have eX : f_X5_chosen_32_7 x (f + 2) (nI k) (nI v) it (nI i) = f_X5_chosen_32_7 x (f + 1) (nI k) (nI (v ||| 2 ^ gq1 c N d v)) (nI (gq1 c N d v)) (nI (i + 1)) := by
      show B_X5_chosen_32_7 _ _ _ _ _ _ = _
      unfold B_X5_chosen_32_7
      rw [if_neg z1, (hr.2.2 32 3 (by decide)).trans hx2, if_neg z2, b1, ob_s, if_pos z3, letx_s, bit_or v (by omega) _ (by omega), nI_1]
    rw [eX]
    by_cases e : k = i
    · subst e
      rw [Nat.sub_self]
      show B_X5_chosen_32_7 _ _ _ _ _ _ = some (nI (gq1 c N d v))
      unfold B_X5_chosen_32_7
      rw [if_pos ((nI_lt6 (by omega) (by omega)).mpr (by omega))]
    · have h2 := pc_or v (by omega) (gq1 c N d v) (by omega) f1.2.1
      obtain ⟨t, ht⟩ : ∃ t, k - i = t + 1 := ⟨k - i - 1, by omega⟩
      rw [ih (i + 1) (f + 1) _ _ (by omega) (by omega) (by omega) (or_N hv hq) (by omega), ht]
      have e5 : k - (i + 1) = t := by omega
      rw [e5]
      rfl
/-! the class's plan over sets, receiver 41 -/
def NR41 (x0 x : MX) : Prop := x.1 = x0.1 ∧ x.2.2 = x0.2.2 ∧ ∀ h k, h ≠ 49 → xi x h k = xi x0 h k
def HT41 (x0 : MX) (c : Nat → Nat → Nat) (N n : Nat) : Prop := ∀ (x : MX) (v i : Nat), NR41 x0 x → v < 2 ^ N → pcN v < n → i < N → v.testBit i = false → f_X7_takesBehind_41 (nI v) (nI i) x = some (nI (c v i))
theorem sw41 {x : MX} {c : Nat → Nat → Nat} {N : Nat} (hN : N ≤ 6) {v i w : Nat} (hv : v < 2 ^ N) (hi : i < N) (ht : f_X7_takesBehind_41 (nI v) (nI i) x = some (nI (c v i))) (hw : xi x 49 (v ||| 2 ^ i) = nI w) : f_X5_sumWith_41 (nI v) (nI i) x = some (nI (c v i + w)) := by
  have h64 := le_64 hN
  have hl := or_N hv hi
  unfold f_X5_sumWith_41
  rw [if_pos (show (0 : Int32) ≤ nI i from (nI_lec (n := 0) (by decide) (by omega)).mpr (by omega)), ht, ob_s, bit_or v (by omega) i (by omega), if_pos (inb_nI (by omega) (by decide)), ix_nI (by omega), hw, nA_add]
theorem fbX41 {x : MX} {N : Nat} (hN : N ≤ 6) (hx : xi x 41 2 = nI N) {v : Nat} (hv : v < 2 ^ N) {g : Nat → Nat} (hg : ∀ i, i < N → v.testBit i = false → f_X5_sumWith_41 (nI v) (nI i) x = some (nI (g i)) ∧ g i < 1000000) : ∀ (n j fuel : Nat) (p : Int32 × Nat), j + n = N → n < fuel → p.2 ≤ 1000000 → f_X5_firstBest_41_8 x fuel (nI v) p.1 (nI p.2) (nI j) = some (fb g v n j p).1 := by
  have h64 := le_64 hN
  intro n
  induction n with
  | zero =>
    intro j f p hj hf hp
    obtain ⟨f, rfl⟩ : ∃ e, f = e + 1 := ⟨f - 1, by omega⟩
    show B_X5_firstBest_41_8 _ _ _ _ _ _ = _
    unfold B_X5_firstBest_41_8
    rw [hx, if_pos ((nI_lec (by omega) (by omega)).mpr (by omega))]
    rfl
  | succ n ih =>
    intro j f p hj hf hp
    obtain ⟨f, rfl⟩ : ∃ e, f = e + 1 := ⟨f - 1, by omega⟩
    have z : ¬ nI N ≤ nI j := fun q => by have := (nI_lec (by omega) (by omega)).mp q; omega
    show B_X5_firstBest_41_8 _ _ _ _ _ _ = some (fb g v n (j + 1) (if v.testBit j = true then p else if p.2 ≤ g j then p else (nI j, g j))).1
    unfold B_X5_firstBest_41_8 B_X5_firstBest_41_50
    rw [hx, if_neg z, nI_1]
    by_cases c : v.testBit j = false
    · obtain ⟨g1, g2⟩ := hg j (by omega) c
      rw [if_pos ((bit_0 (by omega) (by omega)).mpr c), g1, ob_s, if_neg (show ¬ v.testBit j = true by rw [c]; decide)]
      by_cases d : p.2 ≤ g j
      · rw [if_pos ((nI_lec (by omega) (by omega)).mpr d), if_pos d]
        exact ih (j + 1) f p (by omega) (by omega) hp
      · rw [if_neg (fun q => d ((nI_lec (by omega) (by omega)).mp q)), if_neg d]
        exact ih (j + 1) f (nI j, g j) (by omega) (by omega) (by show g j ≤ 1000000; omega)
    · rw [if_neg (fun q => c ((bit_0 (by omega) (by omega)).mp q)), if_pos (by simpa using c)]
      exact ih (j + 1) f p (by omega) (by omega) hp
/-- what least holds -/
def LS41 (x : MX) (c : Nat → Nat → Nat) (N n lo : Nat) : Prop := ∀ t, lo < t → t < 2 ^ N → xi x 49 t = nI (vl c N (n - pcN t) t)
theorem best41 {x0 x : MX} {c : Nat → Nat → Nat} {N n : Nat} (hN : N ≤ 6) (hn : n ≤ N) (hc : PC c N) (hx : xi x0 41 2 = nI N) (H : HT41 x0 c N n) (hr : NR41 x0 x) {v d : Nat} (hv : v < 2 ^ N) (hp : pcN v + (d + 1) = n) (hl : LS41 x c N n v) : f_X5_firstBest_41 (nI v) x = some (nI (gq1 c N d v)) ∧ f_X5_sumWith_41 (nI v) (nI (gq1 c N d v)) x = some (nI (vl c N (d + 1) v)) := by
  have h64 := le_64 hN
  have hs : ∀ i, i < N → v.testBit i = false → f_X5_sumWith_41 (nI v) (nI i) x = some (nI (c v i + vl c N d (v ||| 2 ^ i))) := by
    intro i hi h
    have h1 := gt_or v (by omega) i (by omega) h
    have h2 := pc_or v (by omega) i (by omega) h
    have h3 := hl (v ||| 2 ^ i) h1 (or_N hv hi)
    have e : n - pcN (v ||| 2 ^ i) = d := by omega
    rw [e] at h3
    exact sw41 hN hv hi (H x v i hr hv (by omega) hi h) h3
  obtain ⟨f1, f2, f3⟩ := vl_FM hN hc hv (d := d) (by omega)
  refine ⟨?_, ?_⟩
  · have r := fbX41 hN ((hr.2.2 41 2 (by decide)).trans hx) hv (g := fun i => c v i + vl c N d (v ||| 2 ^ i)) (fun i hi h => ⟨hs i hi h, by have := vl_bd hN hc hv (d := d) (by omega) hi h; show c v i + vl c N d (v ||| 2 ^ i) < 1000000; omega⟩) N 0 LF (-1, 1000000) (by omega) (by unfold LF; omega) (Nat.le_refl _)
    rw [f2] at r
    exact r
  · rw [hs _ f1.1 f1.2.1, f3]
theorem wo41 {x0 : MX} {c : Nat → Nat → Nat} {N n : Nat} (hN : N ≤ 6) (hn : n ≤ N) (hc : PC c N) (hx : xi x0 41 2 = nI N) (hx2 : xi x0 41 3 = nI n) (H : HT41 x0 c N n) : ∀ (v fuel : Nat) (x : MX), v < 2 ^ N → v + 1 < fuel → NR41 x0 x → LS41 x c N n v → ∃ x', f_X5_workOut_41_39 fuel (nI v) x = some x' ∧ NR41 x0 x' ∧ ∀ t, t < 2 ^ N → xi x' 49 t = nI (vl c N (n - pcN t) t) := by
  have h64 := le_64 hN
  have step : ∀ (v : Nat) (x : MX) (K : Int32 → MX → Option MX), v < 2 ^ N → NR41 x0 x → LS41 x c N n v → B_X5_workOut_41_39 K (nI v) x = K (nI v + (-1)) (xs x 49 v (nI (vl c N (n - pcN v) v))) := by
    intro v x K hv hr hl
    have z : ¬ nI v < 0 := fun y => by have := (nI_lt6 (c := 0) (by omega) (by decide)).mp y; omega
    have hp := pc_le v (by omega)
    unfold B_X5_workOut_41_39 B_X5_workOut_41_73
    rw [if_neg z, bc_eq v (by omega), (hr.2.2 41 3 (by decide)).trans hx2]
    by_cases d : pcN v < n
    · obtain ⟨e, he⟩ : ∃ e, pcN v + (e + 1) = n := ⟨n - pcN v - 1, by omega⟩
      obtain ⟨b1, b2⟩ := best41 hN hn hc hx H hr hv he hl
      have e2 : n - pcN v = e + 1 := by omega
      rw [if_pos ((nI_lt6 (by omega) (by omega)).mpr d), b1, ob_s, b2, ob_s, if_pos (inb_nI (by omega) (by decide)), ix_nI (by omega), letx_s, e2]
    · have e2 : n - pcN v = 0 := by omega
      rw [if_neg (fun q => d ((nI_lt6 (by omega) (by omega)).mp q)), if_pos (inb_nI (by omega) (by decide)), ix_nI (by omega), letx_s, e2]
      rfl
  have after : ∀ (v : Nat) (x : MX), NR41 x0 x → LS41 x c N n v → NR41 x0 (xs x 49 v (nI (vl c N (n - pcN v) v))) ∧ ∀ t, v ≤ t → t < 2 ^ N → xi (xs x 49 v (nI (vl c N (n - pcN v) v))) 49 t = nI (vl c N (n - pcN t) t) := by
    intro v x hr hl
    refine ⟨⟨hr.1, hr.2.1, fun h k e => ?_⟩, fun t h1 h2 => ?_⟩
    · rw [xi_xs, if_neg (by omega)]
      exact hr.2.2 h k e
    · rw [xi_xs]
      by_cases e : t = v
      · rw [if_pos ⟨rfl, e⟩, e]
      · rw [if_neg (by omega)]
        exact hl t (by omega) h2
  intro v
  induction v with
  | zero =>
    intro f x hv hf hr hl
    obtain ⟨f, rfl⟩ : ∃ e, f = e + 2 := ⟨f - 2, by omega⟩
    obtain ⟨a1, a2⟩ := after 0 x hr hl
    refine ⟨_, ?_, a1, fun t ht => a2 t (by omega) ht⟩
    show B_X5_workOut_41_39 (f_X5_workOut_41_39 (f + 1)) (nI 0) x = _
    rw [step 0 x _ hv hr hl]
    show B_X5_workOut_41_39 _ _ _ = _
    unfold B_X5_workOut_41_39
    rw [if_pos (show nI 0 + (-1) < 0 by decide)]
  | succ v ih =>
    intro f x hv hf hr hl
    obtain ⟨f, rfl⟩ : ∃ e, f = e + 1 := ⟨f - 1, by omega⟩
    obtain ⟨a1, a2⟩ := after (v + 1) x hr hl
    obtain ⟨x', r1, r2⟩ := ih f _ (by omega) (by omega) a1 (fun t h1 h2 => a2 t (by omega) h2)
    refine ⟨x', ?_, r2⟩
    show B_X5_workOut_41_39 (f_X5_workOut_41_39 f) (nI (v + 1)) x = _
    rw [step (v + 1) x _ hv hr hl, nI_m1 (by omega), r1]
theorem plan41 {x : MX} {c : Nat → Nat → Nat} {N n : Nat} (hN : N ≤ 6) (hn : n ≤ N) (hc : PC c N) (H : HT41 (xs (xs x 41 2 (nI N)) 41 3 (nI n)) c N n) : ∃ x', f_X5_workOut_41 (nI N) (nI n) x = some x' ∧ NR41 (xs (xs x 41 2 (nI N)) 41 3 (nI n)) x' ∧ ∀ t, t < 2 ^ N → xi x' 49 t = nI (vl c N (n - pcN t) t) := by
  have h64 := le_64 hN
  have hp : 0 < 2 ^ N := Nat.pow_pos (by decide)
  have e2 : xi (xs x 41 2 (nI N)) 41 2 = nI N := by rw [xi_xs, if_pos ⟨rfl, rfl⟩]
  have e3 : xi (xs (xs x 41 2 (nI N)) 41 3 (nI n)) 41 2 = nI N := by rw [xi_xs, if_neg (by omega), e2]
  have e4 : xi (xs (xs x 41 2 (nI N)) 41 3 (nI n)) 41 3 = nI n := by rw [xi_xs, if_pos ⟨rfl, rfl⟩]
  obtain ⟨x', r1, r2⟩ := wo41 hN hn hc e3 e4 H (2 ^ N - 1) LF (xs (xs x 41 2 (nI N)) 41 3 (nI n)) (by omega) (by unfold LF; omega) ⟨rfl, rfl, fun _ _ _ => rfl⟩ (fun t h1 h2 => absurd h1 (by omega))
  refine ⟨x', ?_, r2⟩
  unfold f_X5_workOut_41
  rw [letx_s, clampN hN, e2, letx_s, clampn hN hn, e3, letx_s, shl_1 N (by omega), r1]
theorem chosen41 {x0 x : MX} {c : Nat → Nat → Nat} {N n : Nat} (hN : N ≤ 6) (hn : n ≤ N) (hc : PC c N) (hx : xi x0 41 2 = nI N) (hx2 : xi x0 41 3 = nI n) (H : HT41 x0 c N n) (hr : NR41 x0 x) (hl : ∀ t, t < 2 ^ N → xi x 49 t = nI (vl c N (n - pcN t) t)) {k : Nat} (hk : k < n) : ∀ (d i fuel v : Nat) (it : Int32), i + d = n → d < fuel → i ≤ k → v < 2 ^ N → pcN v = i → f_X5_chosen_41_7 x fuel (nI k) (nI v) it (nI i) = some (nI (gq c N d v (k - i))) := by
  have h64 := le_64 hN
  intro d
  induction d with
  | zero =>
    intro i f v it hi hf hik hv hp
    omega
  | succ d ih =>
    intro i f v it hi hf hik hv hp
    obtain ⟨f, rfl⟩ : ∃ e, f = e + 2 := ⟨f - 2, by omega⟩
    obtain ⟨b1, _⟩ := best41 hN hn hc hx H hr hv (d := d) (by omega) (fun t h1 h2 => hl t h2)
    obtain ⟨f1, _, _⟩ := vl_FM hN hc hv (d := d) (by omega)
    have hq := f1.1
    have z1 : ¬ nI k < nI i := fun q => by have := (nI_lt6 (by omega) (by omega)).mp q; omega
    have z2 : ¬ nI n ≤ nI i := fun q => by have := (nI_lec (by omega) (by omega)).mp q; omega
    have z3 : (0 : Int32) ≤ nI (gq1 c N d v) := (nI_lec (n := 0) (by decide) (by omega)).mpr (by omega)
    have eX : f_X5_chosen_41_7 x (f + 2) (nI k) (nI v) it (nI i) = f_X5_chosen_41_7 x (f + 1) (nI k) (nI (v ||| 2 ^ gq1 c N d v)) (nI (gq1 c N d v)) (nI (i + 1)) := by
      show B_X5_chosen_41_7 _ _ _ _ _ _ = _
      unfold B_X5_chosen_41_7
      rw [if_neg z1, (hr.2.2 41 3 (by decide)).trans hx2, if_neg z2, b1, ob_s, if_pos z3, letx_s, bit_or v (by omega) _ (by omega), nI_1]
    rw [eX]
    by_cases e : k = i
    · subst e
      rw [Nat.sub_self]
      show B_X5_chosen_41_7 _ _ _ _ _ _ = some (nI (gq1 c N d v))
      unfold B_X5_chosen_41_7
      rw [if_pos ((nI_lt6 (by omega) (by omega)).mpr (by omega))]
    · have h2 := pc_or v (by omega) (gq1 c N d v) (by omega) f1.2.1
      obtain ⟨t, ht⟩ : ∃ t, k - i = t + 1 := ⟨k - i - 1, by omega⟩
      rw [ih (i + 1) (f + 1) _ _ (by omega) (by omega) (by omega) (or_N hv hq) (by omega), ht]
      have e5 : k - (i + 1) = t := by omega
      rw [e5]
      rfl
