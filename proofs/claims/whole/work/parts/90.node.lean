/-! the reference's search: what one node leaves behind -/
def better (ls : Int32) (w : Nat) : Prop := ls.toInt < 0 ∨ (w : Int) < ls.toInt
def RS (k n w : Nat) (pt : Nat → Nat) (m m' : MM) : Prop := (∀ t, t < k → mi m' 100 t = mi m 100 t) ∧ (better (mi m 80 36) w → mi m' 80 36 = nI w ∧ (∀ t, t < k → mi m' 101 t = mi m 100 t) ∧ ∀ t, k ≤ t → t < n → mi m' 101 t = nI (pt (t - k))) ∧ (¬ better (mi m 80 36) w → mi m' 80 36 = mi m 80 36 ∧ ∀ t, t < n → mi m' 101 t = mi m 101 t)
def ptI (c : Nat → Nat → Nat) (N d v i : Nat) : Nat → Nat
  | 0 => i
  | t + 1 => gq c N d (v ||| 2 ^ i) t
theorem RS_down {k n w i d N v : Nat} {c : Nat → Nat → Nat} {m m1 m' : MM} (h : RS (k + 1) n w (gq c N d (v ||| 2 ^ i)) m1 m') (h1 : ∀ t, t < k → mi m1 100 t = mi m 100 t) (h2 : mi m1 100 k = nI i) (h3 : mi m1 80 36 = mi m 80 36) (h4 : ∀ t, mi m1 101 t = mi m 101 t) : RS k n w (ptI c N d v i) m m' := by
  obtain ⟨a1, a2, a3⟩ := h
  refine ⟨fun t ht => (a1 t (by omega)).trans (h1 t ht), fun hb => ?_, fun hb => ?_⟩
  · rw [← h3] at hb
    obtain ⟨b1, b2, b3⟩ := a2 hb
    refine ⟨b1, fun t ht => (b2 t (by omega)).trans (h1 t ht), fun t g1 g2 => ?_⟩
    by_cases e : t = k
    · rw [e, b2 k (by omega), h2, Nat.sub_self]
      rfl
    · rw [b3 t (by omega) g2]
      obtain ⟨u, hu⟩ : ∃ u, t - k = u + 1 := ⟨t - k - 1, by omega⟩
      have e2 : t - (k + 1) = u := by omega
      rw [hu, e2]
      rfl
  · rw [← h3] at hb
    obtain ⟨b1, b2⟩ := a3 hb
    exact ⟨b1.trans h3, fun t ht => (b2 t ht).trans (h4 t)⟩
theorem nodeG {m0 : MM} {c : Nat → Nat → Nat} {N k n d v sum : Nat} (hN : N ≤ 6) (kn : k ≤ n) {g : Nat → Nat} {F : Nat → Int32 → MM → Option MM} (hend : ∀ f m, SameM m0 m → F (f + 1) (nI N) m = some m) (hmet : ∀ f i m, SameM m0 m → i < N → v.testBit i = true → F (f + 1) (nI i) m = F f (nI (i + 1)) m) (hun : ∀ f i m, SameM m0 m → i < N → v.testBit i = false → ∃ m', F (f + 1) (nI i) m = F f (nI (i + 1)) m' ∧ SameM m0 m' ∧ RS k n (sum + g i) (ptI c N d v i) m m') (hb : ∀ s, s < N → v.testBit s = false → sum + g s < 1000000) {mS : MM} {q : Nat} (hq : FM g v N q) : ∀ (r j f : Nat) (m : MM), j + r = N → r < f → SameM m0 m → (∀ t, t < k → mi m 100 t = mi mS 100 t) → (((∀ s, s < j → v.testBit s = false → ¬ better (mi mS 80 36) (sum + g s)) ∧ mi m 80 36 = mi mS 80 36 ∧ ∀ t, t < n → mi m 101 t = mi mS 101 t) ∨ ∃ p, p < j ∧ v.testBit p = false ∧ better (mi mS 80 36) (sum + g p) ∧ (∀ s, s < j → v.testBit s = false → g p ≤ g s) ∧ (∀ s, s < p → v.testBit s = false → g p < g s) ∧ mi m 80 36 = nI (sum + g p) ∧ (∀ t, t < k → mi m 101 t = mi mS 100 t) ∧ ∀ t, k ≤ t → t < n → mi m 101 t = nI (ptI c N d v p (t - k))) → ∃ m', F f (nI j) m = some m' ∧ SameM m0 m' ∧ RS k n (sum + g q) (ptI c N d v q) mS m' := by
  intro r
  induction r with
  | zero =>
    intro j f m hj hf sm h1 h2
    obtain ⟨f, rfl⟩ : ∃ e, f = e + 1 := ⟨f - 1, by omega⟩
    have e : j = N := by omega
    subst e
    refine ⟨m, hend f m sm, sm, h1, ?_, ?_⟩
    · intro hbt
      rcases h2 with ⟨a1, _⟩ | ⟨p, a1, a2, a3, a4, a5, a6, a7, a8⟩
      · exact absurd hbt (a1 q hq.1 hq.2.1)
      · have : p = q := FM_un ⟨a1, a2, a4, a5⟩ hq
        subst this
        exact ⟨a6, a7, a8⟩
    · intro hbt
      rcases h2 with ⟨a1, a2, a3⟩ | ⟨p, a1, a2, a3, a4, a5, a6, a7, a8⟩
      · exact ⟨a2, a3⟩
      · have : p = q := FM_un ⟨a1, a2, a4, a5⟩ hq
        subst this
        exact absurd a3 hbt
  | succ r ih =>
    intro j f m hj hf sm h1 h2
    obtain ⟨f, rfl⟩ : ∃ e, f = e + 1 := ⟨f - 1, by omega⟩
    by_cases cj : v.testBit j = true
    · rw [hmet f j m sm (by omega) cj]
      refine ih (j + 1) f m (by omega) (by omega) sm h1 ?_
      rcases h2 with ⟨a1, a2⟩ | ⟨p, a1, a2, a3, a4, a5⟩
      · refine Or.inl ⟨fun s hs g1 => ?_, a2⟩
        by_cases e : s = j
        · rw [e, cj] at g1; cases g1
        · exact a1 s (by omega) g1
      · refine Or.inr ⟨p, by omega, a2, a3, fun s hs g1 => ?_, a5⟩
        by_cases e : s = j
        · rw [e, cj] at g1; cases g1
        · exact a4 s (by omega) g1
    · have cj' : v.testBit j = false := by simpa using cj
      obtain ⟨m', r1, r2, r3, r4, r5⟩ := hun f j m sm (by omega) cj'
      have hbj := hb j (by omega) cj'
      rw [r1]
      refine ih (j + 1) f m' (by omega) (by omega) r2 (fun t ht => (r3 t ht).trans (h1 t ht)) ?_
      rcases h2 with ⟨a1, a2, a3⟩ | ⟨p, a1, a2, a3, a4, a5, a6, a7, a8⟩
      · by_cases bt : better (mi mS 80 36) (sum + g j)
        · right
          obtain ⟨b1, b2, b3⟩ := r4 (by rw [a2]; exact bt)
          refine ⟨j, by omega, cj', bt, fun s hs g1 => ?_, fun s hs g1 => ?_, b1, fun t ht => (b2 t ht).trans (h1 t ht), b3⟩
          · by_cases e : s = j
            · rw [e]; exact Nat.le_refl _
            · have w := a1 s (by omega) g1
              unfold better at w bt
              omega
          · have w := a1 s hs g1
            unfold better at w bt
            omega
        · left
          obtain ⟨b1, b2⟩ := r5 (by rw [a2]; exact bt)
          refine ⟨fun s hs g1 => ?_, b1.trans a2, fun t ht => (b2 t ht).trans (a3 t ht)⟩
          by_cases e : s = j
          · rw [e]; exact bt
          · exact a1 s (by omega) g1
      · right
        have hbp := hb p (by omega) a2
        have lsp : (mi m 80 36).toInt = ((sum + g p : Nat) : Int) := by rw [a6, nI_int (by omega)]
        by_cases bt : g j < g p
        · obtain ⟨b1, b2, b3⟩ := r4 (by unfold better; rw [lsp]; right; omega)
          refine ⟨j, by omega, cj', ?_, fun s hs g1 => ?_, fun s hs g1 => ?_, b1, fun t ht => (b2 t ht).trans (h1 t ht), b3⟩
          · unfold better at a3 ⊢
            omega
          · by_cases e : s = j
            · rw [e]; exact Nat.le_refl _
            · have := a4 s (by omega) g1; omega
          · have := a4 s hs g1; omega
        · obtain ⟨b1, b2⟩ := r5 (by unfold better; rw [lsp]; omega)
          refine ⟨p, by omega, a2, a3, fun s hs g1 => ?_, a5, b1.trans a6, fun t ht => (b2 t (by omega)).trans (a7 t ht), fun t g1 g2 => (b2 t g2).trans (a8 t g1 g2)⟩
          by_cases e : s = j
          · rw [e]; omega
          · exact a4 s (by omega) g1
/-- the leaf copies the row -/
theorem copypairs {s : Int32 → Int32 → Int32 → Int32 → MM → Option MM} {n : Nat} (hn : n ≤ 6) : ∀ (r j f : Nat) (m : MM), j + r = n → r < f → ∃ m', f_X9_pairs_31 s f (nI n) (nI j) m = some m' ∧ (∀ h k, ml m' h k = ml m h k) ∧ ∀ h k, mi m' h k = if h = 101 ∧ j ≤ k ∧ k < n then mi m 100 k else mi m h k := by
  intro r
  induction r with
  | zero =>
    intro j f m hj hf
    obtain ⟨f, rfl⟩ : ∃ e, f = e + 1 := ⟨f - 1, by omega⟩
    refine ⟨m, ?_, fun _ _ => rfl, fun h k => by rw [if_neg (by omega)]⟩
    show B_X9_pairs_31 s _ _ _ _ = _
    unfold B_X9_pairs_31
    rw [if_pos ((nI_lec (by omega) (by omega)).mpr (by omega))]
  | succ r ih =>
    intro j f m hj hf
    obtain ⟨f, rfl⟩ : ∃ e, f = e + 1 := ⟨f - 1, by omega⟩
    have z : ¬ nI n ≤ nI j := fun q => by have := (nI_lec (by omega) (by omega)).mp q; omega
    obtain ⟨m', r1, r2, r3⟩ := ih (j + 1) f (ms m 101 j (mi m 100 j)) (by omega) (by omega)
    refine ⟨m', ?_, fun h k => r2 h k, fun h k => ?_⟩
    · show B_X9_pairs_31 s _ _ _ _ = _
      unfold B_X9_pairs_31
      rw [if_neg z, if_pos (inb_nI (by omega) (by decide)), ix_nI (by omega), letx_s, nI_1, r1]
    · rw [r3 h k, mi_ms, mi_ms]
      by_cases a : h = 101
      · by_cases b : k = j
        · rw [if_neg (by omega), if_pos ⟨a, b⟩, if_pos (by omega), b]
        · by_cases e : j + 1 ≤ k ∧ k < n
          · rw [if_pos ⟨a, e⟩, if_neg (by omega), if_pos (by omega)]
          · rw [if_neg (by omega), if_neg (by omega), if_neg (by omega)]
      · rw [if_neg (by omega), if_neg (by omega), if_neg (by omega)]
theorem leafpairs {s : Int32 → Int32 → Int32 → Int32 → MM → Option MM} {m0 m : MM} (sm : SameM m0 m) {n : Nat} (hn : n ≤ 6) {sum : Nat} (hs : sum < 1000000) (v : Int32) (pt : Nat → Nat) : ∃ m', R_X9_pairs s (nI n) (nI n) v (nI sum)  m = some m' ∧ SameM m0 m' ∧ RS n n sum pt m m' := by
  have up : ∃ m', B_X9_pairs_22 s (nI n) (nI sum) m = some m' ∧ SameM m0 m' ∧ (∀ t, t < n → mi m' 100 t = mi m 100 t) ∧ mi m' 80 36 = nI sum ∧ ∀ t, t < n → mi m' 101 t = mi m 100 t := by
    obtain ⟨m', r1, r2, r3⟩ := copypairs (s := s) hn n 0 LF (ms m 80 36 (nI sum)) (by omega) (by unfold LF; omega)
    refine ⟨m', ?_, ?_, fun t ht => ?_, ?_, fun t ht => ?_⟩
    · unfold B_X9_pairs_22
      rw [letx_s]
      exact r1
    · refine sm.tr ⟨fun h k e => r2 h k, fun h k e => ?_⟩
      have a : ¬ h = 101 := fun q => by rw [q] at e; cases e
      have b : ¬ (h = 80 ∧ k = 36) := fun q => by rw [q.1, q.2] at e; cases e
      rw [r3 h k, if_neg (by omega), mi_ms, if_neg b]
    · rw [r3, if_neg (by omega), mi_ms, if_neg (by omega)]
    · rw [r3, if_neg (by omega), mi_ms, if_pos ⟨rfl, rfl⟩]
    · rw [r3, if_pos ⟨rfl, by omega, ht⟩, mi_ms, if_neg (by omega)]
  have e0 : (0 : Int32).toInt = 0 := by decide
  unfold R_X9_pairs
  rw [if_pos rfl]
  by_cases a : mi m 80 36 < 0
  · rw [if_pos a]
    rw [i_lt, e0] at a
    obtain ⟨m', u1, u2, u3, u4, u5⟩ := up
    exact ⟨m', u1, u2, u3, fun _ => ⟨u4, u5, fun t g1 g2 => absurd g1 (by omega)⟩, fun q => absurd (Or.inl a) q⟩
  · rw [if_neg a]
    rw [i_lt, e0] at a
    by_cases b : nI sum < mi m 80 36
    · rw [if_pos b]
      rw [i_lt, nI_int (by omega)] at b
      obtain ⟨m', u1, u2, u3, u4, u5⟩ := up
      exact ⟨m', u1, u2, u3, fun _ => ⟨u4, u5, fun t g1 g2 => absurd g1 (by omega)⟩, fun q => absurd (Or.inr b) q⟩
    · rw [if_neg b]
      rw [i_lt, nI_int (by omega)] at b
      refine ⟨m, rfl, sm, fun _ _ => rfl, fun q => ?_, fun _ => ⟨rfl, fun _ _ => rfl⟩⟩
      unfold better at q
      omega
/-- the leaf copies the row -/
theorem copyorders {s : Int32 → Int32 → Int32 → Int32 → Int32 → Int32 → MM → Option MM} {n : Nat} (hn : n ≤ 6) : ∀ (r j f : Nat) (m : MM), j + r = n → r < f → ∃ m', f_X9_orders_31 s f (nI n) (nI j) m = some m' ∧ (∀ h k, ml m' h k = ml m h k) ∧ ∀ h k, mi m' h k = if h = 101 ∧ j ≤ k ∧ k < n then mi m 100 k else mi m h k := by
  intro r
  induction r with
  | zero =>
    intro j f m hj hf
    obtain ⟨f, rfl⟩ : ∃ e, f = e + 1 := ⟨f - 1, by omega⟩
    refine ⟨m, ?_, fun _ _ => rfl, fun h k => by rw [if_neg (by omega)]⟩
    show B_X9_orders_31 s _ _ _ _ = _
    unfold B_X9_orders_31
    rw [if_pos ((nI_lec (by omega) (by omega)).mpr (by omega))]
  | succ r ih =>
    intro j f m hj hf
    obtain ⟨f, rfl⟩ : ∃ e, f = e + 1 := ⟨f - 1, by omega⟩
    have z : ¬ nI n ≤ nI j := fun q => by have := (nI_lec (by omega) (by omega)).mp q; omega
    obtain ⟨m', r1, r2, r3⟩ := ih (j + 1) f (ms m 101 j (mi m 100 j)) (by omega) (by omega)
    refine ⟨m', ?_, fun h k => r2 h k, fun h k => ?_⟩
    · show B_X9_orders_31 s _ _ _ _ = _
      unfold B_X9_orders_31
      rw [if_neg z, if_pos (inb_nI (by omega) (by decide)), ix_nI (by omega), letx_s, nI_1, r1]
    · rw [r3 h k, mi_ms, mi_ms]
      by_cases a : h = 101
      · by_cases b : k = j
        · rw [if_neg (by omega), if_pos ⟨a, b⟩, if_pos (by omega), b]
        · by_cases e : j + 1 ≤ k ∧ k < n
          · rw [if_pos ⟨a, e⟩, if_neg (by omega), if_pos (by omega)]
          · rw [if_neg (by omega), if_neg (by omega), if_neg (by omega)]
      · rw [if_neg (by omega), if_neg (by omega), if_neg (by omega)]
theorem leaforders {s : Int32 → Int32 → Int32 → Int32 → Int32 → Int32 → MM → Option MM} {m0 m : MM} (sm : SameM m0 m) {n : Nat} (hn : n ≤ 6) {sum : Nat} (hs : sum < 1000000) (v a5 a6 : Int32) (pt : Nat → Nat) : ∃ m', R_X9_orders s (nI n) (nI n) v (nI sum) a5 a6 m = some m' ∧ SameM m0 m' ∧ RS n n sum pt m m' := by
  have up : ∃ m', B_X9_orders_22 s (nI n) (nI sum) m = some m' ∧ SameM m0 m' ∧ (∀ t, t < n → mi m' 100 t = mi m 100 t) ∧ mi m' 80 36 = nI sum ∧ ∀ t, t < n → mi m' 101 t = mi m 100 t := by
    obtain ⟨m', r1, r2, r3⟩ := copyorders (s := s) hn n 0 LF (ms m 80 36 (nI sum)) (by omega) (by unfold LF; omega)
    refine ⟨m', ?_, ?_, fun t ht => ?_, ?_, fun t ht => ?_⟩
    · unfold B_X9_orders_22
      rw [letx_s]
      exact r1
    · refine sm.tr ⟨fun h k e => r2 h k, fun h k e => ?_⟩
      have a : ¬ h = 101 := fun q => by rw [q] at e; cases e
      have b : ¬ (h = 80 ∧ k = 36) := fun q => by rw [q.1, q.2] at e; cases e
      rw [r3 h k, if_neg (by omega), mi_ms, if_neg b]
    · rw [r3, if_neg (by omega), mi_ms, if_neg (by omega)]
    · rw [r3, if_neg (by omega), mi_ms, if_pos ⟨rfl, rfl⟩]
    · rw [r3, if_pos ⟨rfl, by omega, ht⟩, mi_ms, if_neg (by omega)]
  have e0 : (0 : Int32).toInt = 0 := by decide
  unfold R_X9_orders
  rw [if_pos rfl]
  by_cases a : mi m 80 36 < 0
  · rw [if_pos a]
    rw [i_lt, e0] at a
    obtain ⟨m', u1, u2, u3, u4, u5⟩ := up
    exact ⟨m', u1, u2, u3, fun _ => ⟨u4, u5, fun t g1 g2 => absurd g1 (by omega)⟩, fun q => absurd (Or.inl a) q⟩
  · rw [if_neg a]
    rw [i_lt, e0] at a
    by_cases b : nI sum < mi m 80 36
    · rw [if_pos b]
      rw [i_lt, nI_int (by omega)] at b
      obtain ⟨m', u1, u2, u3, u4, u5⟩ := up
      exact ⟨m', u1, u2, u3, fun _ => ⟨u4, u5, fun t g1 g2 => absurd g1 (by omega)⟩, fun q => absurd (Or.inr b) q⟩
    · rw [if_neg b]
      rw [i_lt, nI_int (by omega)] at b
      refine ⟨m, rfl, sm, fun _ _ => rfl, fun q => ?_, fun _ => ⟨rfl, fun _ _ => rfl⟩⟩
      unfold better at q
      omega
