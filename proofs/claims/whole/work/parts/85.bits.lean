/-! sets as numbers below 256 -/
theorem bit_at : ∀ v, v < 256 → ∀ s, s < 8 → ((nI v >>> (nI s &&& 31)) &&& 1) = (if v.testBit s then 1 else 0) := by decide +kernel
theorem bit_or : ∀ v, v < 256 → ∀ t, t < 8 → nI v ||| ((1 : Int32) <<< (nI t &&& 31)) = nI (v ||| 2 ^ t) := by decide +kernel
theorem or_lt {v t : Nat} (hv : v < 256) (ht : t < 8) : v ||| 2 ^ t < 256 := Nat.or_lt_two_pow (n := 8) hv (Nat.pow_lt_pow_right (a := 2) (by decide) ht)
theorem tb_or (v t s : Nat) : (v ||| 2 ^ t).testBit s = (v.testBit s || decide (t = s)) := by rw [Nat.testBit_or, Nat.testBit_two_pow]
theorem has_eq {v s : Nat} (hv : v < 256) (hs : s < 8) : f_X9_has (nI v) (nI s) = v.testBit s := by
  unfold f_X9_has
  rw [bit_at v hv s hs]
  cases v.testBit s
  · rfl
  · rfl
theorem bit_0 {v s : Nat} (hv : v < 256) (hs : s < 8) : ((nI v >>> (nI s &&& 31)) &&& 1) = 0 ↔ v.testBit s = false := by
  rw [bit_at v hv s hs]
  cases v.testBit s
  · exact ⟨fun _ => rfl, fun _ => rfl⟩
  · exact ⟨fun q => absurd q (by decide), fun q => absurd q (by decide)⟩
def pcN (v : Nat) : Nat := ((List.range 8).filter (fun s => v.testBit s)).length
theorem pc_or : ∀ v, v < 256 → ∀ t, t < 8 → v.testBit t = false → pcN (v ||| 2 ^ t) = pcN v + 1 := by decide +kernel
theorem pc_8 : ∀ v, v < 256 → pcN v = 8 → v = 255 := by decide +kernel
theorem tb_255 : ∀ s, s < 8 → (255 : Nat).testBit s = true := by decide +kernel
/-! what the spots are worth -/
def LK (m : MM) (s : Nat) : Nat := (mi m 91 s).toInt.toNat
def LO (m : MM) (s : Nat) : Nat := (mi m 92 s).toInt.toNat
theorem LK_eq {x0 : MX} {m0 : MM} (hR : Rel x0 m0) {s : Nat} (hs : s < 8) : mi m0 91 s = nI (LK m0 s) ∧ LK m0 s ≤ 99 ∧ xi x0 18 s = nI (LK m0 s) := by
  obtain ⟨a1, a2, a3⟩ := tk_num hR (w := 11) (k := s) (by decide) hs
  have a1' : xi x0 18 s = mi m0 91 s := a1
  have a2' : 0 ≤ (mi m0 91 s).toInt := a2
  have a3' : (mi m0 91 s).toInt ≤ 99 := a3
  have e : mi m0 91 s = nI (LK m0 s) := nI_of_toInt a2'
  exact ⟨e, by unfold LK; omega, a1'.trans e⟩
theorem LO_eq {x0 : MX} {m0 : MM} (hR : Rel x0 m0) {s : Nat} (hs : s < 8) : mi m0 92 s = nI (LO m0 s) ∧ LO m0 s ≤ 99 ∧ xi x0 19 s = nI (LO m0 s) := by
  obtain ⟨a1, a2, a3⟩ := tk_num hR (w := 12) (k := s) (by decide) hs
  have a1' : xi x0 19 s = mi m0 92 s := a1
  have a2' : 0 ≤ (mi m0 92 s).toInt := a2
  have a3' : (mi m0 92 s).toInt ≤ 99 := a3
  have e : mi m0 92 s = nI (LO m0 s) := nI_of_toInt a2'
  exact ⟨e, by unfold LO; omega, a1'.trans e⟩
theorem LK_pos {x0 : MX} {m0 : MM} {nl nc ns : Nat} (h2 : RNum nl nc ns x0 m0) {s : Nat} (hs : s < ns) : 1 ≤ LK m0 s := by
  have h : (1 : Int) ≤ (mi m0 91 s).toInt := h2.2 11 s (by decide) hs
  unfold LK
  omega
/-! which spot is looked at first -/
def ltS (m : MM) (s t : Nat) : Prop := LO m s * LK m t < LO m t * LK m s ∨ (LO m s * LK m t = LO m t * LK m s ∧ s < t)
theorem crossl {a b c d e f : Nat} (hd : 0 < d) (h1 : a * d ≤ c * b) (h2 : c * f ≤ e * d) : a * f ≤ e * b := by
  have h3 : a * d * f ≤ c * b * f := Nat.mul_le_mul_right f h1
  have h4 : c * f * b ≤ e * d * b := Nat.mul_le_mul_right b h2
  have h5 : d * (a * f) ≤ d * (e * b) := by
    have e1 : d * (a * f) = a * d * f := by rw [← Nat.mul_assoc, Nat.mul_comm d a]
    have e2 : d * (e * b) = e * d * b := by rw [← Nat.mul_assoc, Nat.mul_comm d e]
    have e3 : c * b * f = c * f * b := by rw [Nat.mul_assoc, Nat.mul_comm b f, ← Nat.mul_assoc]
    omega
  exact Nat.le_of_mul_le_mul_left h5 hd
theorem ltS_tr {m : MM} {s t u : Nat} (hs : 0 < LK m s) (ht : 0 < LK m t) (hu : 0 < LK m u) (h1 : ltS m s t) (h2 : ltS m t u) : ltS m s u := by
  have g1 : LO m s * LK m t ≤ LO m t * LK m s := by rcases h1 with h | h <;> omega
  have g2 : LO m t * LK m u ≤ LO m u * LK m t := by rcases h2 with h | h <;> omega
  have g3 : LO m s * LK m u ≤ LO m u * LK m s := crossl ht g1 g2
  by_cases e : LO m s * LK m u = LO m u * LK m s
  · have g4 : LO m u * LK m s ≤ LO m s * LK m u := by omega
    -- both are level
    have g5 : LO m u * LK m t ≤ LO m t * LK m u := crossl hs g4 g1
    have g6 : LO m t * LK m s ≤ LO m s * LK m t := crossl hu g2 g4
    right
    refine ⟨e, ?_⟩
    rcases h1 with h | h
    · omega
    · rcases h2 with k | k
      · omega
      · omega
  · left
    omega
theorem ltS_as {m : MM} {s t : Nat} (h1 : ltS m s t) (h2 : ltS m t s) : False := by
  rcases h1 with h | h <;> rcases h2 with k | k <;> omega
theorem ltS_ir {m : MM} {s : Nat} (h1 : ltS m s s) : False := ltS_as h1 h1
def sumN (f : Nat → Nat) : Nat → Nat
  | 0 => 0
  | n + 1 => sumN f n + f n
theorem sumN_cg {f g : Nat → Nat} : ∀ n, (∀ k, k < n → f k = g k) → sumN f n = sumN g n := by
  intro n
  induction n with
  | zero => intro _; rfl
  | succ n ih =>
    intro h
    show sumN f n + f n = sumN g n + g n
    rw [ih (fun k hk => h k (by omega)), h n (by omega)]
theorem sumN_le {f : Nat → Nat} {c : Nat} : ∀ n, (∀ k, k < n → f k ≤ c) → sumN f n ≤ n * c := by
  intro n
  induction n with
  | zero => intro _; exact Nat.zero_le _
  | succ n ih =>
    intro h
    have h1 := ih (fun k hk => h k (by omega))
    have h2 := h n (by omega)
    show sumN f n + f n ≤ (n + 1) * c
    rw [Nat.add_mul, Nat.one_mul]
    omega
/-- put one in at place p -/
def insA (a : Nat → Nat) (p j : Nat) : Nat → Nat := fun i => if i < p then a i else if i = p then j else a (i - 1)
theorem sumN_ins (f : Nat → Nat) (a : Nat → Nat) (p j : Nat) : ∀ n, p ≤ n → sumN (fun i => f (insA a p j i)) (n + 1) = sumN (fun i => f (a i)) n + f j := by
  intro n
  induction n with
  | zero =>
    intro h
    have : p = 0 := by omega
    subst this
    show 0 + f (insA a 0 j 0) = 0 + f j
    unfold insA
    rw [if_neg (by omega), if_pos rfl]
  | succ n ih =>
    intro h
    by_cases e : p = n + 1
    · subst e
      show sumN (fun i => f (insA a (n + 1) j i)) (n + 1) + f (insA a (n + 1) j (n + 1)) = _
      rw [sumN_cg (g := fun i => f (a i)) (n + 1) (fun k hk => by show f (insA a (n + 1) j k) = f (a k); unfold insA; rw [if_pos hk])]
      unfold insA
      rw [if_neg (by omega), if_pos rfl]
    · have h3 := ih (by omega)
      show sumN (fun i => f (insA a p j i)) (n + 1) + f (insA a p j (n + 1)) = sumN (fun i => f (a i)) n + f (a n) + f j
      rw [h3]
      have e2 : insA a p j (n + 1) = a n := by
        unfold insA
        rw [if_neg (by omega), if_neg (by omega)]
        rfl
      rw [e2]
      omega
def Srt (m : MM) (j : Nat) (a : Nat → Nat) : Prop := (∀ i, i < j → a i < j) ∧ (∀ i k, i < k → k < j → ltS m (a i) (a k)) ∧ (∀ s, s < j → ∃ i, i < j ∧ a i = s) ∧ ∀ f : Nat → Nat, sumN (fun i => f (a i)) j = sumN f j
theorem Srt_0 (m : MM) (a : Nat → Nat) : Srt m 0 a := ⟨fun _ h => absurd h (by omega), fun _ _ _ h => absurd h (by omega), fun _ h => absurd h (by omega), fun _ => rfl⟩
theorem Srt_ins {m : MM} {j p : Nat} {a : Nat → Nat} (h : Srt m j a) (hp : p ≤ j) (h1 : ∀ i, i < p → ltS m (a i) j) (h2 : ∀ i, p ≤ i → i < j → ltS m j (a i)) : Srt m (j + 1) (insA a p j) := by
  obtain ⟨s1, s2, s3, s4⟩ := h
  refine ⟨fun i hi => ?_, fun i k hik hk => ?_, fun s hs => ?_, fun f => ?_⟩
  · unfold insA
    split
    · have := s1 i (by omega); omega
    · split
      · omega
      · have := s1 (i - 1) (by omega); omega
  · unfold insA
    by_cases c1 : k < p
    · rw [if_pos (by omega), if_pos c1]
      exact s2 i k hik (by omega)
    · by_cases c2 : k = p
      · rw [if_pos (by omega), if_neg c1, if_pos c2]
        exact h1 i (by omega)
      · rw [if_neg c1, if_neg c2]
        by_cases c3 : i < p
        · rw [if_pos c3]
          exact s2 i (k - 1) (by omega) (by omega)
        · rw [if_neg c3]
          by_cases c4 : i = p
          · rw [if_pos c4]
            exact h2 (k - 1) (by omega) (by omega)
          · rw [if_neg c4]
            exact s2 (i - 1) (k - 1) (by omega) (by omega)
  · by_cases c : s = j
    · refine ⟨p, by omega, ?_⟩
      unfold insA
      rw [if_neg (by omega), if_pos rfl, c]
    · obtain ⟨i, hi, e⟩ := s3 s (by omega)
      by_cases c2 : i < p
      · refine ⟨i, by omega, ?_⟩
        unfold insA
        rw [if_pos c2, e]
      · refine ⟨i + 1, by omega, ?_⟩
        unfold insA
        rw [if_neg (by omega), if_neg (by omega), Nat.add_sub_cancel, e]
  · rw [sumN_ins f a p j j hp, s4 f]
    rfl
