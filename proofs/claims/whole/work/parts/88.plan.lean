/-! the least sum over sets, as one pure function -/
def fb (g : Nat → Nat) (v : Nat) : Nat → Nat → Int32 × Nat → Int32 × Nat
  | 0, _, p => p
  | n + 1, j, p => fb g v n (j + 1) (if v.testBit j = true then p else if p.2 ≤ g j then p else (nI j, g j))
def FM (g : Nat → Nat) (v N q : Nat) : Prop := q < N ∧ v.testBit q = false ∧ (∀ s, s < N → v.testBit s = false → g q ≤ g s) ∧ ∀ s, s < q → v.testBit s = false → g q < g s
theorem FM_un {g : Nat → Nat} {v N q r : Nat} (h : FM g v N q) (k : FM g v N r) : q = r := by
  obtain ⟨h1, h2, h3, h4⟩ := h
  obtain ⟨k1, k2, k3, k4⟩ := k
  have a := h3 r k1 k2
  have b := k3 q h1 h2
  by_cases c : q < r
  · have := k4 q c h2; omega
  · by_cases d : r < q
    · have := h4 r d k2; omega
    · omega
theorem fb_inv {g : Nat → Nat} {v N : Nat} (he : ∃ t, t < N ∧ v.testBit t = false) (hb : ∀ s, s < N → v.testBit s = false → g s < 1000000) : ∀ (n j : Nat) (p : Int32 × Nat), j + n = N → ((p = (-1, 1000000) ∧ ∀ s, s < j → v.testBit s = true) ∨ ∃ q, q < j ∧ p = (nI q, g q) ∧ v.testBit q = false ∧ (∀ s, s < j → v.testBit s = false → g q ≤ g s) ∧ ∀ s, s < q → v.testBit s = false → g q < g s) → ∃ q, FM g v N q ∧ fb g v n j p = (nI q, g q) := by
  intro n
  induction n with
  | zero =>
    intro j p hj h
    have e : j = N := by omega
    subst e
    rcases h with ⟨_, h⟩ | ⟨q, h1, h2, h3, h4, h5⟩
    · obtain ⟨t, t1, t2⟩ := he
      rw [h t t1] at t2; cases t2
    · exact ⟨q, ⟨h1, h3, h4, h5⟩, h2⟩
  | succ n ih =>
    intro j p hj h
    show ∃ q, FM g v N q ∧ fb g v n (j + 1) (if v.testBit j = true then p else if p.2 ≤ g j then p else (nI j, g j)) = (nI q, g q)
    refine ih (j + 1) _ (by omega) ?_
    by_cases c : v.testBit j = true
    · rw [if_pos c]
      rcases h with ⟨h1, h⟩ | ⟨q, h1, h2, h3, h4, h5⟩
      · refine Or.inl ⟨h1, fun s hs => ?_⟩
        by_cases e : s = j
        · rw [e]; exact c
        · exact h s (by omega)
      · refine Or.inr ⟨q, by omega, h2, h3, fun s hs g1 => ?_, h5⟩
        by_cases e : s = j
        · rw [e, c] at g1; cases g1
        · exact h4 s (by omega) g1
    · rw [if_neg c]
      have c' : v.testBit j = false := by simpa using c
      rcases h with ⟨h1, h⟩ | ⟨q, h1, h2, h3, h4, h5⟩
      · subst h1
        have hg := hb j (by omega) c'
        rw [if_neg (show ¬ (1000000 : Nat) ≤ g j by omega)]
        refine Or.inr ⟨j, by omega, rfl, c', fun s hs g1 => ?_, fun s hs g1 => ?_⟩
        · by_cases e : s = j
          · rw [e]; exact Nat.le_refl _
          · rw [h s (by omega)] at g1; cases g1
        · rw [h s hs] at g1; cases g1
      · subst h2
        by_cases d : g q ≤ g j
        · rw [if_pos d]
          refine Or.inr ⟨q, by omega, rfl, h3, fun s hs g1 => ?_, h5⟩
          by_cases e : s = j
          · rw [e]; exact d
          · exact h4 s (by omega) g1
        · rw [if_neg d]
          refine Or.inr ⟨j, by omega, rfl, c', fun s hs g1 => ?_, fun s hs g1 => ?_⟩
          · by_cases e : s = j
            · rw [e]; exact Nat.le_refl _
            · have := h4 s (by omega) g1; omega
          · have := h4 s hs g1; omega
theorem fb_min {g : Nat → Nat} {v N : Nat} (he : ∃ t, t < N ∧ v.testBit t = false) (hb : ∀ s, s < N → v.testBit s = false → g s < 1000000) : ∃ q, FM g v N q ∧ fb g v N 0 (-1, 1000000) = (nI q, g q) :=
  fb_inv he hb N 0 _ (by omega) (Or.inl ⟨rfl, fun s hs => absurd hs (by omega)⟩)
theorem ex_un : ∀ N, N < 7 → ∀ v, v < 64 → v < 2 ^ N → pcN v < N → ∃ t, t < N ∧ v.testBit t = false := by decide +kernel
theorem gt_or : ∀ v, v < 64 → ∀ i, i < 6 → v.testBit i = false → v < v ||| 2 ^ i := by decide +kernel
theorem bc_eq : ∀ v, v < 64 → f_J6_bitCount_0f7a4 (nI v) = nI (pcN v) := by decide +kernel
theorem pc_le : ∀ v, v < 64 → pcN v ≤ 6 := by decide +kernel
theorem or_N {v i N : Nat} (hv : v < 2 ^ N) (hi : i < N) : v ||| 2 ^ i < 2 ^ N := Nat.or_lt_two_pow hv (Nat.pow_lt_pow_right (a := 2) (by decide) hi)
theorem le_64 {N : Nat} (h : N ≤ 6) : 2 ^ N ≤ 64 := Nat.pow_le_pow_right (n := 2) (by decide) h
def vl (c : Nat → Nat → Nat) (N : Nat) : Nat → Nat → Nat
  | 0, _ => 0
  | d + 1, v => (fb (fun i => c v i + vl c N d (v ||| 2 ^ i)) v N 0 (-1, 1000000)).2
def gq1 (c : Nat → Nat → Nat) (N d v : Nat) : Nat := ((fb (fun i => c v i + vl c N d (v ||| 2 ^ i)) v N 0 (-1, 1000000)).1).toInt.toNat
def gq (c : Nat → Nat → Nat) (N : Nat) : Nat → Nat → Nat → Nat
  | 0, _, _ => 0
  | d + 1, v, 0 => gq1 c N d v
  | d + 1, v, t + 1 => gq c N d (v ||| 2 ^ gq1 c N d v) t
def PC (c : Nat → Nat → Nat) (N : Nat) : Prop := ∀ v i, v < 2 ^ N → i < N → v.testBit i = false → c v i ≤ 999
theorem vl_le {c : Nat → Nat → Nat} {N : Nat} (hN : N ≤ 6) (hc : PC c N) : ∀ (d v : Nat), v < 2 ^ N → pcN v + d ≤ N → vl c N d v ≤ d * 999 := by
  have h64 := le_64 hN
  intro d
  induction d with
  | zero => intro v _ _; exact Nat.le_refl _
  | succ d ih =>
    intro v hv hp
    have hb : ∀ s, s < N → v.testBit s = false → c v s + vl c N d (v ||| 2 ^ s) ≤ (d + 1) * 999 := by
      intro s hs h
      have h1 := hc v s hv hs h
      have h2 := pc_or v (by omega) s (by omega) h
      have h3 := ih (v ||| 2 ^ s) (or_N hv hs) (by omega)
      omega
    obtain ⟨q, h1, h2⟩ := fb_min (g := fun i => c v i + vl c N d (v ||| 2 ^ i)) (v := v) (N := N) (ex_un N (by omega) v (by omega) hv (by omega)) (fun s hs h => by have := hb s hs h; show c v s + vl c N d (v ||| 2 ^ s) < 1000000; omega)
    show (fb (fun i => c v i + vl c N d (v ||| 2 ^ i)) v N 0 (-1, 1000000)).2 ≤ _
    rw [h2]
    exact hb q h1.1 h1.2.1
theorem vl_bd {c : Nat → Nat → Nat} {N : Nat} (hN : N ≤ 6) (hc : PC c N) {d v : Nat} (hv : v < 2 ^ N) (hp : pcN v + (d + 1) ≤ N) {s : Nat} (hs : s < N) (h : v.testBit s = false) : c v s + vl c N d (v ||| 2 ^ s) ≤ (d + 1) * 999 := by
  have h64 := le_64 hN
  have h1 := hc v s hv hs h
  have h2 := pc_or v (by omega) s (by omega) h
  have h3 := vl_le hN hc d (v ||| 2 ^ s) (or_N hv hs) (by omega)
  omega
theorem vl_FM {c : Nat → Nat → Nat} {N : Nat} (hN : N ≤ 6) (hc : PC c N) {d v : Nat} (hv : v < 2 ^ N) (hp : pcN v + (d + 1) ≤ N) : FM (fun i => c v i + vl c N d (v ||| 2 ^ i)) v N (gq1 c N d v) ∧ fb (fun i => c v i + vl c N d (v ||| 2 ^ i)) v N 0 (-1, 1000000) = (nI (gq1 c N d v), vl c N (d + 1) v) ∧ vl c N (d + 1) v = c v (gq1 c N d v) + vl c N d (v ||| 2 ^ gq1 c N d v) := by
  have h64 := le_64 hN
  obtain ⟨q, h1, h2⟩ := fb_min (g := fun i => c v i + vl c N d (v ||| 2 ^ i)) (v := v) (N := N) (ex_un N (by omega) v (by omega) hv (by omega)) (fun s hs h => by have := vl_bd hN hc hv hp hs h; show c v s + vl c N d (v ||| 2 ^ s) < 1000000; omega)
  have hq := h1.1
  have e1 : gq1 c N d v = q := by
    unfold gq1
    rw [h2]
    show (nI q).toInt.toNat = q
    rw [nI_int (by omega)]
    omega
  have e2 : vl c N (d + 1) v = c v q + vl c N d (v ||| 2 ^ q) := by
    show (fb (fun i => c v i + vl c N d (v ||| 2 ^ i)) v N 0 (-1, 1000000)).2 = _
    rw [h2]
  rw [e1, h2, e2]
  exact ⟨h1, rfl, rfl⟩
theorem shl_1 : ∀ N, N < 7 → ((1 : Int32) <<< (nI N &&& 31)) - 1 = nI (2 ^ N - 1) := by decide +kernel
theorem clampN {N : Nat} (h : N ≤ 6) : imax 0 (imin 6 (nI N)) = nI N := by
  have : ∀ N, N < 7 → imax 0 (imin 6 (nI N)) = nI N := by decide +kernel
  exact this N (by omega)
theorem clampn {N n : Nat} (h : N ≤ 6) (h2 : n ≤ N) : imax 0 (imin (nI N) (nI n)) = nI n := by
  have : ∀ N, N < 7 → ∀ n, n < 7 → n ≤ N → imax 0 (imin (nI N) (nI n)) = nI n := by decide +kernel
  exact this N (by omega) n (by omega) h2
