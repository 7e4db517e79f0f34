theorem ordersM {x0 : MX} {m0 : MM} {T : Nat → Nat → Int32 → Int32 → Int32 → Int32} (K : TK x0 m0 T) {n : Nat} (hn : n ≤ 6) : ∀ (d k v sum f : Nat) (m : MM), k + d = n → pcN v = k → v < 2 ^ n → sum ≤ k * 999 → d < f → SameM m0 m → ∃ m', G_X9_orders f (nI k) (nI n) (nI v) (nI sum) (mi m0 90 0 + nI (cnt m0 v 0)) (mi m0 90 1 + nI (cnt m0 v 1)) m = some m' ∧ SameM m0 m' ∧ RS k n (sum + vl (cO m0 T) n d v) (gq (cO m0 T) n d v) m m' := by
  have h64 := le_64 hn
  have hc : PC (cO m0 T) n := fun v i _ _ _ => (cO_eq K v i).2
  intro d
  induction d with
  | zero =>
    intro k v sum f m hk hp hv hs hf sm
    obtain ⟨f, rfl⟩ : ∃ e, f = e + 1 := ⟨f - 1, by omega⟩
    have e : k = n := by omega
    subst e
    exact leaforders (s := G_X9_orders f) sm (n := k) (by omega) (sum := sum) (by omega) (nI v) _ _ _
  | succ d ih =>
    intro k v sum f m hk hp hv hs hf sm
    obtain ⟨f0, rfl⟩ : ∃ e, f = e + 1 := ⟨f - 1, by omega⟩
    have hk6 : k < 6 := by omega
    have ne : ¬ nI k = nI n := fun q => by have := (nI_eqc (by omega) (by omega)).mp q; omega
    obtain ⟨f1, f2, f3⟩ := vl_FM hn hc hv (d := d) (by omega)
    have r := nodeG (m0 := m0) (c := cO m0 T) (N := n) (k := k) (n := n) (d := d) (v := v) (sum := sum) hn (by omega) (g := fun i => cO m0 T v i + vl (cO m0 T) n d (v ||| 2 ^ i)) (F := fun f j m => f_X9_orders_61 (G_X9_orders f0) f (nI k) (nI n) (nI v) (nI sum) (mi m0 90 0 + nI (cnt m0 v 0)) (mi m0 90 1 + nI (cnt m0 v 1)) j m) ?_ ?_ ?_ ?_ f1 n 0 LF m (by omega) (by unfold LF; omega) sm (fun _ _ => rfl) (Or.inl ⟨fun s hs => absurd hs (by omega), rfl, fun _ _ => rfl⟩)
    · obtain ⟨m', r1, r2, r3⟩ := r
      refine ⟨m', ?_, r2, ?_⟩
      · show R_X9_orders (G_X9_orders f0) _ _ _ _ _ _ _ = _
        unfold R_X9_orders
        rw [if_neg ne]
        exact r1
      · have e : gq (cO m0 T) n (d + 1) v = ptI (cO m0 T) n d v (gq1 (cO m0 T) n d v) := by
          funext t
          cases t <;> rfl
        rw [e, f3]
        exact r3
    · intro f m sm
      show B_X9_orders_61 _ _ _ _ _ _ _ _ _ _ = _
      unfold B_X9_orders_61
      rw [if_pos ((nI_lec (by omega) (by omega)).mpr (Nat.le_refl _))]
    · intro f i m sm hi hb
      have z : ¬ nI n ≤ nI i := fun q => by have := (nI_lec (by omega) (by omega)).mp q; omega
      show B_X9_orders_61 _ _ _ _ _ _ _ _ _ _ = _
      unfold B_X9_orders_61 B_X9_orders_174
      rw [if_neg z, has_eq (by omega) (by omega), if_pos hb, nI_1]
    · intro f i m sm hi hb
      have z : ¬ nI n ≤ nI i := fun q => by have := (nI_lec (by omega) (by omega)).mp q; omega
      have s5 : SameM m0 (ms m 100 k (nI i)) := sm.tr (SameM.ms rfl)
      obtain ⟨g1, g2⟩ := gh_lt K.1 (b := i) (by omega)
      have sk := tk_sk K.1 g1
      have dn := tk_dn K.1 g1
      have cl := cnt_le (m := m0) (h := gh m0 i) (show v < 64 by omega)
      have dns : (mi m0 90 (gh m0 i) + nI (cnt m0 v (gh m0 i))).toInt = (mi m0 90 (gh m0 i)).toInt + cnt m0 v (gh m0 i) := by rw [i_add (by rw [nI_int (by omega)]; omega) (by rw [nI_int (by omega)]; omega), nI_int (by omega)]
      obtain ⟨m1, E1, E2⟩ := takesMN K s5 (a := i) (b := i) (by omega) (by omega) (h := mi m0 88 (gh m0 i)) (n := mi m0 90 (gh m0 i) + nI (cnt m0 v (gh m0 i))) ⟨sk.1, by omega⟩ ⟨by omega, by omega⟩
      obtain ⟨c1, c2⟩ := cO_eq K v i
      have E1' : f_X9_takes (nI i) (nI i) (mi m0 88 (gh m0 i)) (mi m0 90 (gh m0 i) + nI (cnt m0 v (gh m0 i))) (ms m 100 k (nI i)) = some (nI (cO m0 T v i), m1) := by rw [E1, ← c1]; rfl
      have hp2 := pc_or v (by omega) i (by omega) hb
      obtain ⟨m2, F1, F2, F3⟩ := ih (k + 1) (v ||| 2 ^ i) (sum + cO m0 T v i) f0 m1 (by omega) (by omega) (or_N hv hi) (by omega) (by omega) (s5.tr E2.toM)
      have e85 : mi (ms m 100 k (nI i)) 85 i = nI (gh m0 i) := ((s5.2 _ _ rfl) : _).trans g2
      have e88 : ∀ t, mi (ms m 100 k (nI i)) 88 t = mi m0 88 t := fun t => s5.2 _ _ rfl
      refine ⟨m2, ?_, F2, ?_⟩
      · show B_X9_orders_61 _ _ _ _ _ _ _ _ _ _ = _
        unfold B_X9_orders_61 B_X9_orders_174
        rw [if_neg z, has_eq (by omega) (by omega), if_neg (by rw [hb]; decide), if_pos (inb_nI hk6 (by decide)), ix_nI (by omega), letx_s, if_pos (inb_nI (by omega) (by decide)), ix_nI (by omega), e85, if_pos (inb_nI g1 (by decide)), ix_nI (by omega), e88]
        have co0 := cnt_or (m := m0) (v := v) (i := i) (h := 0) (by omega) hb
        have co1 := cnt_or (m := m0) (v := v) (i := i) (h := 1) (by omega) hb
        rw [co0, co1] at F1
        by_cases hg : gh m0 i = 0
        · rw [hg] at E1' F1 ⊢
          rw [if_pos (show nI 0 = 0 from rfl)]
          unfold B_X9_orders_121 B_X9_orders_156 B_X9_orders_171 B_X9_orders_174
          rw [if_pos rfl, if_neg (show ¬ (0 : Nat) = 1 by decide)] at F1
          have F1' : G_X9_orders f0 (nI (k + 1)) (nI n) (nI (v ||| 2 ^ i)) (nI (sum + cO m0 T v i)) (mi m0 90 0 + nI (cnt m0 v 0 + 1)) (mi m0 90 1 + nI (cnt m0 v 1)) m1 = some m2 := F1
          rw [E1', ob2_s, if_pos (show nI 0 = 0 from rfl), if_neg (show ¬ nI 0 = 1 by decide), nI_1, bit_or v (by omega) i (by omega), nA_add, Int32.add_assoc, nI_1, F1', ob_s, nI_1]
        · have hg1 : gh m0 i = 1 := by omega
          rw [hg1] at E1' F1 ⊢
          rw [if_neg (show ¬ nI 1 = 0 by decide)]
          unfold B_X9_orders_121 B_X9_orders_156 B_X9_orders_171 B_X9_orders_174
          rw [if_neg (show ¬ (1 : Nat) = 0 by decide), if_pos rfl] at F1
          have F1' : G_X9_orders f0 (nI (k + 1)) (nI n) (nI (v ||| 2 ^ i)) (nI (sum + cO m0 T v i)) (mi m0 90 0 + nI (cnt m0 v 0)) (mi m0 90 1 + nI (cnt m0 v 1 + 1)) m1 = some m2 := F1
          rw [E1', ob2_s, if_neg (show ¬ nI 1 = 0 by decide), if_pos (show nI 1 = 1 from rfl), nI_1, bit_or v (by omega) i (by omega), nA_add, Int32.add_assoc, nI_1, F1', ob_s, nI_1]
      · rw [Nat.add_assoc] at F3
        refine RS_down F3 (fun t ht => ?_) ?_ ?_ (fun t => ?_)
        · rw [E2.2 _ _ rfl, mi_ms, if_neg (by omega)]
        · rw [E2.2 _ _ rfl, mi_ms, if_pos ⟨rfl, rfl⟩]
        · rw [E2.2 _ _ rfl, mi_ms, if_neg (by omega)]
        · rw [E2.2 _ _ rfl, mi_ms, if_neg (by omega)]
    · intro s hs2 hb
      have := vl_bd hn hc hv (d := d) (by omega) hs2 hb
      show sum + (cO m0 T v s + vl (cO m0 T) n d (v ||| 2 ^ s)) < 1000000
      omega
def PO (m0 : MM) (T : Nat → Nat → Int32 → Int32 → Int32 → Int32) (n ch cc l : Nat) (x : MX) : Prop := (∀ c, c < ch → xi x 50 c = nI (gh m0 c)) ∧ ∀ c t, (c < cc ∧ t < n) ∨ (c = cc ∧ t < l) → xi x (43 + c) t = tO m0 T c t
theorem ofillIn {x0 : MX} {m0 : MM} {T : Nat → Nat → Int32 → Int32 → Int32 → Int32} (K : TK x0 m0 T) {n : Nat} (hn : n ≤ 6) {KX : Int32 → Int32 → Int32 → MX → Option (Int32 × MX)} {k : Int32} {cc : Nat} (hcc : cc < 6) : ∀ (r l f : Nat) (x : MX), l + r = n → r < f → SameX x0 x → PO m0 T n (cc + 1) cc l x → ∃ x', f_X8_order_48 KX f k (nI n) (nI cc) (nI l) x = KX k (nI n) (nI (cc + 1)) x' ∧ SameX x0 x' ∧ PO m0 T n (cc + 1) (cc + 1) 0 x' := by
  obtain ⟨g1, g2⟩ := gh_lt K.1 (b := cc) hcc
  intro r
  induction r with
  | zero =>
    intro l f x hj hf sx hp
    obtain ⟨f, rfl⟩ : ∃ e, f = e + 1 := ⟨f - 1, by omega⟩
    refine ⟨x, ?_, sx, hp.1, fun c t h => hp.2 c t (by omega)⟩
    show B_X8_order_48 _ _ _ _ _ _ _ = _
    unfold B_X8_order_48
    rw [if_pos ((nI_lec (by omega) (by omega)).mpr (by omega)), nI_1]
  | succ r ih =>
    intro l f x hj hf sx hp
    obtain ⟨f, rfl⟩ : ∃ e, f = e + 1 := ⟨f - 1, by omega⟩
    have z : ¬ nI n ≤ nI l := fun q => by have := (nI_lec (by omega) (by omega)).mp q; omega
    obtain ⟨x1, E1, E2⟩ := handXT K sx (a := cc) (b := cc) hcc hcc g1 (r := nI l) ⟨by rw [nI_int (by omega)]; omega, by rw [nI_int (by omega)]; omega⟩
    have e11 : xi x 11 cc = nI (gh m0 cc) := (tk_xnum K.1 sx (w := 4) (k := cc) (by decide) hcc).trans g2
    obtain ⟨x', r1, r2⟩ := ih (l + 1) f (xs x1 (43 + cc) l (tO m0 T cc l)) (by omega) (by omega) (sameUp (sx.tr E2.toX) (by omega) (by omega)) ⟨fun c h => by
      rw [xi_xs, if_neg (by omega), E2.2.2 _ _ (tsc_mid (by omega) (by omega))]
      exact hp.1 c h, fun c t h => by
      rw [xi_xs]
      by_cases e : c = cc ∧ t = l
      · rw [if_pos ⟨by omega, e.2⟩, e.1, e.2]
      · by_cases e2 : c = cc
        · rw [if_neg (by omega), E2.2.2 _ _ (tsc_mid (by omega) (by omega))]
          exact hp.2 c t (by omega)
        · rw [if_neg (by omega), E2.2.2 _ _ (tsc_mid (by omega) (by omega))]
          exact hp.2 c t (by omega)⟩
    refine ⟨x', ?_, r2⟩
    show B_X8_order_48 _ _ _ _ _ _ _ = _
    unfold B_X8_order_48
    rw [if_neg z, if_pos (inb_nI hcc (by decide)), if_pos (inb_nI (by omega) (by decide)), ix_nI (by omega), e11, E1, ob2_s, if_pos (inb_nI (by omega) (by decide)), ix_nI (by omega), letx_s, nI_1]
    exact r1
theorem ofillOut {x0 : MX} {m0 : MM} {T : Nat → Nat → Int32 → Int32 → Int32 → Int32} (K : TK x0 m0 T) {k : Int32} {n : Nat} (hn : n ≤ 6) : ∀ (r cc f : Nat) (x : MX), cc + r = n → r < f → SameX x0 x → PO m0 T n cc cc 0 x → ∃ x', f_X8_order_23 f k (nI n) (nI cc) x = B_X8_order_23 (fun _ _ _ _ => none) k (nI n) (nI n) x' ∧ SameX x0 x' ∧ PO m0 T n n n 0 x' := by
  intro r
  induction r with
  | zero =>
    intro cc f x hj hf sx hp
    obtain ⟨f, rfl⟩ : ∃ e, f = e + 1 := ⟨f - 1, by omega⟩
    have e : cc = n := by omega
    subst e
    refine ⟨x, ?_, sx, hp⟩
    show B_X8_order_23 _ _ _ _ _ = _
    unfold B_X8_order_23
    rw [if_pos ((nI_lec (by omega) (by omega)).mpr (Nat.le_refl _)), if_pos ((nI_lec (by omega) (by omega)).mpr (Nat.le_refl _))]
  | succ r ih =>
    intro cc f x hj hf sx hp
    obtain ⟨f, rfl⟩ : ∃ e, f = e + 1 := ⟨f - 1, by omega⟩
    have z : ¬ nI n ≤ nI cc := fun q => by have := (nI_lec (by omega) (by omega)).mp q; omega
    obtain ⟨g1, g2⟩ := gh_lt K.1 (b := cc) (by omega)
    have e11 : xi x 11 cc = nI (gh m0 cc) := (tk_xnum K.1 sx (w := 4) (k := cc) (by decide) (show cc < 6 by omega)).trans g2
    obtain ⟨x1, E1, E2, E3⟩ := ofillIn K hn (KX := f_X8_order_23 f) (k := k) (cc := cc) (by omega) n 0 LF (xs x 50 cc (nI (gh m0 cc))) (by omega) (by unfold LF; omega) (sameUp sx (by omega) (by omega)) ⟨fun c h => by
      rw [xi_xs]
      by_cases e : c = cc
      · rw [if_pos ⟨rfl, e⟩, e]
      · rw [if_neg (by omega)]
        exact hp.1 c (by omega), fun c t h => by
      rw [xi_xs, if_neg (by omega)]
      exact hp.2 c t h⟩
    obtain ⟨x', r1, r2⟩ := ih (cc + 1) f x1 (by omega) (by omega) E2 E3
    refine ⟨x', ?_, r2⟩
    show B_X8_order_23 _ _ _ _ _ = _
    rw [← r1, ← E1]
    have eX : B_X8_order_23 (f_X8_order_23 f) k (nI n) (nI cc) x = f_X8_order_48 (f_X8_order_23 f) LF k (nI n) (nI cc) 0 (xs x 50 cc (nI (gh m0 cc))) := by
      unfold B_X8_order_23
      rw [if_neg z, if_pos (inb_nI (by omega) (by decide)), if_pos (inb_nI (by omega) (by decide)), ix_nI (by omega), e11, letx_s]
    rw [eX]
    rfl
/-! the hard one first -/
theorem hardB {x0 : MX} {m0 : MM} {T : Nat → Nat → Int32 → Int32 → Int32 → Int32} (K : TK x0 m0 T) {n : Nat} (hn : n ≤ 6) {x : MX} (hx : RO m0 T n x) (hx2 : xi x 41 2 = nI n) {v : Nat} (hv : v < 2 ^ n) (he : ∃ t, t < n ∧ v.testBit t = false) {KM : Int32 → Int32 → Int32 → Int32 → Int32 → Int32 → MM → Option (Int32 × MM)} {s l r k : Int32} : ∀ (u j f g : Nat) (b : Int32) (m : MM), j + u = n → u < f → u < g → SameM m0 m → ((b = -1 ∧ ∀ s, s < j → v.testBit s = true) ∨ ∃ p, p < j ∧ b = nI p ∧ v.testBit p = false) → ∃ q m', q < n ∧ v.testBit q = false ∧ f_X7_hardestOutside_41_4 x f (nI v) b (nI j) = some (nI q) ∧ f_X9_hardFirst_35 KM g (nI n) (nI v) s l r k b (nI j) m = B_X9_hardFirst_35 KM (fun _ _ _ _ _ _ _ _ _ => none) (nI n) (nI v) s l r k (nI q) (nI n) m' ∧ SameN m m' := by
  have h64 := le_64 hn
  intro u
  induction u with
  | zero =>
    intro j f g b m hj hf hg sm hb
    obtain ⟨f, rfl⟩ : ∃ e, f = e + 1 := ⟨f - 1, by omega⟩
    obtain ⟨g, rfl⟩ : ∃ e, g = e + 1 := ⟨g - 1, by omega⟩
    have e : j = n := by omega
    subst e
    rcases hb with ⟨_, h⟩ | ⟨p, p1, p2, p3⟩
    · obtain ⟨t, t1, t2⟩ := he
      rw [h t t1] at t2; cases t2
    · subst p2
      refine ⟨p, m, p1, p3, ?_, ?_, SameN.rf m⟩
      · show B_X7_hardestOutside_41_4 _ _ _ _ _ = _
        unfold B_X7_hardestOutside_41_4 f_X5_manyItems_41
        rw [hx2, if_pos ((nI_lec (by omega) (by omega)).mpr (Nat.le_refl _))]
      · show B_X9_hardFirst_35 _ _ _ _ _ _ _ _ _ _ _ = _
        unfold B_X9_hardFirst_35
        rw [if_pos ((nI_lec (by omega) (by omega)).mpr (Nat.le_refl _)), if_pos ((nI_lec (by omega) (by omega)).mpr (Nat.le_refl _))]
  | succ u ih =>
    intro j f g b m hj hf hg sm hb
    obtain ⟨f, rfl⟩ : ∃ e, f = e + 1 := ⟨f - 1, by omega⟩
    obtain ⟨g, rfl⟩ : ∃ e, g = e + 1 := ⟨g - 1, by omega⟩
    have z : ¬ nI n ≤ nI j := fun q => by have := (nI_lec (by omega) (by omega)).mp q; omega
    by_cases c : v.testBit j = true
    · have cb : ¬ ((nI v >>> (nI j &&& 31)) &&& 1) = 0 := fun q => by have := (bit_0 (by omega) (by omega)).mp q; rw [c] at this; cases this
      obtain ⟨q, m', q1, q2, q3, q4, q5⟩ := ih (j + 1) f g b m (by omega) (by omega) (by omega) sm (by
        rcases hb with ⟨b1, h⟩ | ⟨p, p1, p2, p3⟩
        · refine Or.inl ⟨b1, fun s hs => ?_⟩
          by_cases e : s = j
          · rw [e]; exact c
          · exact h s (by omega)
        · exact Or.inr ⟨p, by omega, p2, p3⟩)
      refine ⟨q, m', q1, q2, ?_, ?_, q5⟩
      · show B_X7_hardestOutside_41_4 _ _ _ _ _ = _
        unfold B_X7_hardestOutside_41_4 f_X5_manyItems_41 B_X7_hardestOutside_41_45
        rw [hx2, if_neg z, if_neg cb, nI_1]
        exact q3
      · rw [← q4]
        show B_X9_hardFirst_35 _ _ _ _ _ _ _ _ _ _ _ = _
        unfold B_X9_hardFirst_35 B_X9_hardFirst_79
        rw [if_neg z, has_eq (by omega) (by omega), if_pos c, nI_1]
    · have c' : v.testBit j = false := by simpa using c
      have cb : ((nI v >>> (nI j &&& 31)) &&& 1) = 0 := (bit_0 (by omega) (by omega)).mpr c'
      rcases hb with ⟨b1, h⟩ | ⟨p, p1, p2, p3⟩
      · subst b1
        obtain ⟨q, m', q1, q2, q3, q4, q5⟩ := ih (j + 1) f g (nI j) m (by omega) (by omega) (by omega) sm (Or.inr ⟨j, by omega, rfl, c'⟩)
        refine ⟨q, m', q1, q2, ?_, ?_, q5⟩
        · show B_X7_hardestOutside_41_4 _ _ _ _ _ = _
          unfold B_X7_hardestOutside_41_4 f_X5_manyItems_41 B_X7_hardestOutside_41_43 B_X7_hardestOutside_41_45
          rw [hx2, if_neg z, if_pos cb, if_pos (by decide), nI_1]
          exact q3
        · rw [← q4]
          show B_X9_hardFirst_35 _ _ _ _ _ _ _ _ _ _ _ = _
          unfold B_X9_hardFirst_35 B_X9_hardFirst_75 B_X9_hardFirst_79
          rw [if_neg z, has_eq (by omega) (by omega), if_neg c, if_pos (by decide), nI_1]
      · subst p2
        have zp : ¬ nI p < 0 := fun y => by have := (nI_lt6 (c := 0) (by omega) (by decide)).mp y; omega
        obtain ⟨m1, E1, E2⟩ := nowMN K sm (a := j) (b := j) (by omega) (by omega)
        obtain ⟨m2, F1, F2⟩ := nowMN K (sm.tr E2.toM) (a := p) (b := p) (by omega) (by omega)
        have w1 : xi x (43 + j) 0 = nowT m0 T j j := (hx.2 j 0 (by omega) (by omega)).trans (tO_0 j)
        have w2 : xi x (43 + p) 0 = nowT m0 T p p := (hx.2 p 0 (by omega) (by omega)).trans (tO_0 p)
        have eX : ∀ b', (if nowT m0 T j j ≤ nowT m0 T p p then b' = nI p else b' = nI j) → f_X7_hardestOutside_41_4 x (f + 1) (nI v) (nI p) (nI j) = f_X7_hardestOutside_41_4 x f (nI v) b' (nI (j + 1)) ∧ f_X9_hardFirst_35 KM (g + 1) (nI n) (nI v) s l r k (nI p) (nI j) m = f_X9_hardFirst_35 KM g (nI n) (nI v) s l r k b' (nI (j + 1)) m2 := by
          intro b' hb'
          constructor
          · show B_X7_hardestOutside_41_4 _ _ _ _ _ = _
            unfold B_X7_hardestOutside_41_4 f_X5_manyItems_41 B_X7_hardestOutside_41_43 B_X7_hardestOutside_41_45
            rw [hx2, if_neg z, if_pos cb, if_neg zp, if_pos (inb_nI (by omega) (by decide)), if_pos (inb_nI (by omega) (by decide)), ix_nI (by omega), ix_nI (by omega), w1, w2, nI_1]
            by_cases y : nowT m0 T j j ≤ nowT m0 T p p
            · rw [if_pos y] at hb' ⊢; rw [hb']
            · rw [if_neg y] at hb' ⊢; rw [hb']
          · show B_X9_hardFirst_35 _ _ _ _ _ _ _ _ _ _ _ = _
            unfold B_X9_hardFirst_35 B_X9_hardFirst_75 B_X9_hardFirst_79
            rw [if_neg z, has_eq (by omega) (by omega), if_neg c, if_neg zp, E1, ob2_s, F1, ob2_s, nI_1]
            by_cases y : nowT m0 T j j ≤ nowT m0 T p p
            · rw [if_pos y] at hb' ⊢; rw [hb']
            · rw [if_neg y] at hb' ⊢; rw [hb']
        by_cases y : nowT m0 T j j ≤ nowT m0 T p p
        · obtain ⟨a1, a2⟩ := eX (nI p) (by rw [if_pos y])
          obtain ⟨q, m', q1, q2, q3, q4, q5⟩ := ih (j + 1) f g (nI p) m2 (by omega) (by omega) (by omega) ((sm.tr E2.toM).tr F2.toM) (Or.inr ⟨p, by omega, rfl, p3⟩)
          exact ⟨q, m', q1, q2, a1.trans q3, a2.trans q4, (E2.tr F2).tr q5⟩
        · obtain ⟨a1, a2⟩ := eX (nI j) (by rw [if_neg y])
          obtain ⟨q, m', q1, q2, q3, q4, q5⟩ := ih (j + 1) f g (nI j) m2 (by omega) (by omega) (by omega) ((sm.tr E2.toM).tr F2.toM) (Or.inr ⟨j, by omega, rfl, c'⟩)
          exact ⟨q, m', q1, q2, a1.trans q3, a2.trans q4, (E2.tr F2).tr q5⟩
theorem hardL {x0 : MX} {m0 : MM} {T : Nat → Nat → Int32 → Int32 → Int32 → Int32} (K : TK x0 m0 T) {n : Nat} (hn : n ≤ 6) {x : MX} (hx : RO m0 T n x) (hx2 : xi x 41 2 = nI n) : ∀ (u i f g v : Nat) (s : Int32) (m : MM), i + u = n → u < f → u < g → v < 2 ^ n → pcN v = i → SameM m0 m → ∃ R m', f_X7_sumOfHardFirst_41_6 x f s (nI v) (nI i) = some R ∧ f_X9_hardFirst_23 g (nI n) (nI v) s (mi m0 90 0 + nI (cnt m0 v 0)) (mi m0 90 1 + nI (cnt m0 v 1)) (nI i) m = some (R, m') ∧ SameN m m' := by
  have h64 := le_64 hn
  intro u
  induction u with
  | zero =>
    intro i f g v s m hi hf hg hv hp sm
    obtain ⟨f, rfl⟩ : ∃ e, f = e + 1 := ⟨f - 1, by omega⟩
    obtain ⟨g, rfl⟩ : ∃ e, g = e + 1 := ⟨g - 1, by omega⟩
    refine ⟨s, m, ?_, ?_, SameN.rf m⟩
    · show B_X7_sumOfHardFirst_41_6 _ _ _ _ _ = _
      unfold B_X7_sumOfHardFirst_41_6 f_X5_manyItems_41
      rw [hx2, if_pos ((nI_lec (by omega) (by omega)).mpr (by omega))]
    · show B_X9_hardFirst_23 _ _ _ _ _ _ _ _ = _
      unfold B_X9_hardFirst_23
      rw [if_pos ((nI_lec (by omega) (by omega)).mpr (by omega))]
  | succ u ih =>
    intro i f g v s m hi hf hg hv hp sm
    obtain ⟨f, rfl⟩ : ∃ e, f = e + 1 := ⟨f - 1, by omega⟩
    obtain ⟨g, rfl⟩ : ∃ e, g = e + 1 := ⟨g - 1, by omega⟩
    have z : ¬ nI n ≤ nI i := fun q => by have := (nI_lec (by omega) (by omega)).mp q; omega
    obtain ⟨q, m1, q1, q2, q3, q4, q5⟩ := hardB K hn hx hx2 hv (ex_un n (by omega) v (by omega) hv (by omega)) (KM := f_X9_hardFirst_23 g) (s := s) (l := mi m0 90 0 + nI (cnt m0 v 0)) (r := mi m0 90 1 + nI (cnt m0 v 1)) (k := nI i) n 0 LF LF (-1) m (by omega) (by unfold LF; omega) (by unfold LF; omega) sm (Or.inl ⟨rfl, fun s hs => absurd hs (by omega)⟩)
    have q3' : f_X7_hardestOutside_41 (nI v) x = some (nI q) := q3
    have s1 := sm.tr q5.toM
    obtain ⟨g1, g2⟩ := gh_lt K.1 (b := q) (by omega)
    have sk := tk_sk K.1 g1
    have dn := tk_dn K.1 g1
    have cl := cnt_le (m := m0) (h := gh m0 q) (show v < 64 by omega)
    have dns : (mi m0 90 (gh m0 q) + nI (cnt m0 v (gh m0 q))).toInt = (mi m0 90 (gh m0 q)).toInt + cnt m0 v (gh m0 q) := by rw [i_add (by rw [nI_int (by omega)]; omega) (by rw [nI_int (by omega)]; omega), nI_int (by omega)]
    obtain ⟨m2, E1, E2⟩ := takesMN K s1 (a := q) (b := q) (by omega) (by omega) (h := mi m0 88 (gh m0 q)) (n := mi m0 90 (gh m0 q) + nI (cnt m0 v (gh m0 q))) ⟨sk.1, by omega⟩ ⟨by omega, by omega⟩
    obtain ⟨c1, c2⟩ := cO_eq K v q
    have E1' : f_X9_takes (nI q) (nI q) (mi m0 88 (gh m0 q)) (mi m0 90 (gh m0 q) + nI (cnt m0 v (gh m0 q))) m1 = some (nI (cO m0 T v q), m2) := by rw [E1, ← c1]; rfl
    have hp2 := pc_or v (by omega) q (by omega) q2
    obtain ⟨R, m', F1, F2, F3⟩ := ih (i + 1) f g (v ||| 2 ^ q) (s + nI (cO m0 T v q)) m2 (by omega) (by omega) (by omega) (or_N hv q1) (by omega) (s1.tr E2.toM)
    refine ⟨R, m', ?_, ?_, (q5.tr E2).tr F3⟩
    · show B_X7_sumOfHardFirst_41_6 _ _ _ _ _ = _
      unfold B_X7_sumOfHardFirst_41_6 f_X5_manyItems_41
      have z3 : (0 : Int32) ≤ nI q := (nI_lec (n := 0) (by decide) (by omega)).mpr (by omega)
      rw [hx2, if_neg z, q3', ob_s, if_pos z3, behind K hn hx hv q1 (by omega), ob_s, letx_s, bit_or v (by omega) q (by omega), nI_1]
      exact F1
    · show B_X9_hardFirst_23 _ _ _ _ _ _ _ _ = _
      unfold B_X9_hardFirst_23
      rw [if_neg z]
      have q4' : f_X9_hardFirst_35 (f_X9_hardFirst_23 g) LF (nI n) (nI v) s (mi m0 90 0 + nI (cnt m0 v 0)) (mi m0 90 1 + nI (cnt m0 v 1)) (nI i) (-1) 0 m = _ := q4
      rw [q4']
      have e85 : mi m1 85 q = nI (gh m0 q) := (s1.2 _ _ rfl).trans g2
      have e88 : ∀ t, mi m1 88 t = mi m0 88 t := fun t => s1.2 _ _ rfl
      have co0 := cnt_or (m := m0) (v := v) (i := q) (h := 0) (by omega) q2
      have co1 := cnt_or (m := m0) (v := v) (i := q) (h := 1) (by omega) q2
      rw [co0, co1] at F2
      unfold B_X9_hardFirst_35
      rw [if_pos ((nI_lec (by omega) (by omega)).mpr (Nat.le_refl _)), bit_or v (by omega) q (by omega), letx_s, if_pos (inb_nI (by omega) (by decide)), ix_nI (by omega), e85, if_pos (inb_nI g1 (by decide)), ix_nI (by omega), e88]
      by_cases hg : gh m0 q = 0
      · rw [hg] at E1' F2 ⊢
        rw [if_pos (show nI 0 = 0 from rfl)]
        unfold B_X9_hardFirst_126 B_X9_hardFirst_143
        rw [if_pos rfl, if_neg (show ¬ (0 : Nat) = 1 by decide), Nat.add_zero] at F2
        rw [E1', ob2_s, if_pos (show nI 0 = 0 from rfl), Int32.add_assoc, nI_1, show mi m0 90 1 + nI (cnt m0 v 1) + nI 0 = mi m0 90 1 + nI (cnt m0 v 1) from Int32.add_zero _, nI_1]
        exact F2
      · have hg1 : gh m0 q = 1 := by omega
        rw [hg1] at E1' F2 ⊢
        rw [if_neg (show ¬ nI 1 = 0 by decide)]
        unfold B_X9_hardFirst_126 B_X9_hardFirst_143
        rw [if_neg (show ¬ (1 : Nat) = 0 by decide), if_pos rfl, Nat.add_zero] at F2
        rw [E1', ob2_s, if_neg (show ¬ nI 1 = 0 by decide), Int32.add_zero, Int32.add_assoc, nA_add, nI_1]
        exact F2
theorem cmd_order {x : MX} {m : MM} (a : Int32) (hR : Rel x m) : ∃ r x' m', f_X8_order a x = some (r, x') ∧ f_X9_order a m = some (r, m') ∧ Rel x' m' := by
  obtain ⟨nl, nc, ns, nh, h1, h2, h3⟩ := id hR
  obtain ⟨T, K⟩ := tk_ex hR
  have e0 : (0 : Int32).toInt = 0 := by decide
  have em : (-2 : Int32).toInt = -2 := by decide
  have em1 : (-1 : Int32).toInt = -1 := by decide
  have hl := h1.2.2.1
  obtain ⟨n, hn⟩ : ∃ n, n = min nl nc := ⟨_, rfl⟩
  have hn6 : n ≤ 6 := by omega
  have h64 := le_64 hn6
  have hpos : 0 < 2 ^ n := Nat.pow_pos (by decide)
  unfold f_X8_order f_X9_order
  rw [bothX h1, bothM h1, ← hn]
  by_cases c : -2 ≤ a
  · rw [if_pos c, if_pos c]
    by_cases d : a < nI n
    · rw [if_pos d, if_pos d]
      rw [i_le, em] at c
      rw [i_lt, nI_int (by omega)] at d
      have hc : PC (cO m T) n := fun v i _ _ _ => (cO_eq K v i).2
      obtain ⟨x1, X1, X2, X3⟩ := ofillOut K (k := a) hn6 n 0 LF x (by omega) (by unfold LF; omega) (SameX.rf x) ⟨fun c h => absurd h (by omega), fun c t h => by omega⟩
      have X1' : f_X8_order_23 LF a (nI n) 0 x = B_X8_order_23 (fun _ _ _ _ => none) a (nI n) (nI n) x1 := X1
      have hRO : ∀ y, NR41 (xs (xs x1 41 2 (nI n)) 41 3 (nI n)) y → RO m T n y := by
        intro y hy
        refine ⟨fun c hc => ?_, fun c t hc ht => ?_⟩
        · rw [hy.2.2 _ _ (by omega), xi_xs, if_neg (by omega), xi_xs, if_neg (by omega)]
          exact X3.1 c hc
        · rw [hy.2.2 _ _ (by omega), xi_xs, if_neg (by omega), xi_xs, if_neg (by omega)]
          exact X3.2 c t (Or.inl ⟨hc, ht⟩)
      have H : HT41 (xs (xs x1 41 2 (nI n)) 41 3 (nI n)) (cO m T) n n := fun y v i hy hv hp hi hb => behind K hn6 (hRO y hy) hv hi hp
      obtain ⟨x2, Y1, Y2, Y3⟩ := plan41 (x := x1) hn6 (Nat.le_refl _) hc H
      have S2 : SameX x x2 := (sameUp (sameUp X2 (by omega) (by omega)) (by omega) (by omega)).tr Y2.same
      have sM : SameM m (ms m 80 36 (-1)) := SameM.ms rfl
      obtain ⟨m', M1, M2, M3⟩ := ordersM K hn6 n 0 0 0 RF (ms m 80 36 (-1)) (by omega) rfl hpos (by omega) (by unfold RF; omega) sM
      have c0 : ∀ h, cnt m 0 h = 0 := by
        intro h
        have := cnt_le (m := m) (h := h) (show 0 < 64 by decide)
        have e : pcN 0 = 0 := by decide
        omega
      have z90 : ∀ g, mi m 90 g + nI (cnt m 0 g) = mi m 90 g := fun g => by rw [c0]; exact Int32.add_zero _
      rw [z90 0, z90 1] at M1
      have M1' : f_X9_orders 0 (nI n) 0 0 (mi m 90 0) (mi m 90 1) (ms m 80 36 (-1)) = some m' := M1
      have bt : better (mi (ms m 80 36 (-1)) 80 36) (0 + vl (cO m T) n n 0) := by
        rw [mi_ms, if_pos ⟨rfl, rfl⟩]
        exact Or.inl (by decide)
      obtain ⟨M4, M5, M6⟩ := M3.2.1 bt
      have e90 : ∀ g, mi (ms m 80 36 (-1)) 90 g = mi m 90 g := fun g => by rw [mi_ms, if_neg (by omega)]
      have ls : f_X5_leastSum_41 x2 = some (nI (vl (cO m T) n n 0)) := by
        unfold f_X5_leastSum_41
        rw [Y3 0 hpos]
        rfl
      rw [Nat.zero_add] at M4
      rw [X1', letx_s, e90, e90, M1', ob_s]
      unfold B_X8_order_23
      rw [if_pos ((nI_lec (by omega) (by omega)).mpr (Nat.le_refl _)), Y1, ob_s]
      by_cases w : a < 0
      · rw [if_pos w]
        rw [i_lt, e0] at w
        by_cases w1 : a = -1
        · rw [if_pos w1, if_pos w1, ls, ob_s, M4]
          exact ⟨_, x2, m', rfl, rfl, hR.same S2 M2⟩
        · have w2 : a = -2 := by
            rw [i_eq, em1] at w1
            rw [i_eq, em]
            omega
          rw [if_neg w1, if_neg w1, if_pos w2]
          obtain ⟨R, m2, H1, H2, H3⟩ := hardL K hn6 (hRO x2 Y2) ((Y2.2.2 41 2 (by decide)).trans (by rw [xi_xs, if_neg (by omega), xi_xs, if_pos ⟨rfl, rfl⟩])) n 0 LF LF 0 0 m' (by omega) (by unfold LF; omega) (by unfold LF; omega) hpos rfl M2
          have H1' : f_X7_sumOfHardFirst_41 x2 = some R := H1
          have f90 : ∀ g, mi m' 90 g = mi m 90 g := fun g => M2.2 _ _ rfl
          rw [z90 0, z90 1] at H2
          have H2' : f_X9_hardFirst (nI n) m' = some (R, m2) := by
            unfold f_X9_hardFirst
            rw [f90, f90]
            exact H2
          have g36 : mi m2 80 36 = nI (vl (cO m T) n n 0) := (H3.2 _ _ rfl).trans M4
          rw [H1', ob_s, ls, ob_s, H2', ob2_s, g36]
          exact ⟨_, x2, m2, rfl, rfl, hR.same S2 (M2.tr H3.toM)⟩
      · rw [if_neg w]
        rw [i_lt, e0] at w
        obtain ⟨k, hk, rfl⟩ := nI_ex (a := a) (n := n) (by omega) (by omega)
        have ch := chosen41 (x := x2) (x0 := xs (xs x1 41 2 (nI n)) 41 3 (nI n)) hn6 (Nat.le_refl _) hc (by rw [xi_xs, if_neg (by omega), xi_xs, if_pos ⟨rfl, rfl⟩]) (by rw [xi_xs, if_pos ⟨rfl, rfl⟩]) H Y2 Y3 hk n 0 LF 0 (-1) (by omega) (by unfold LF; omega) (by omega) hpos rfl
        have ch' : f_X5_chosen_41 (nI k) x2 = some (nI (gq (cO m T) n n 0 k)) := ch
        have y1 : ¬ nI k = -1 := nI_neg (by omega) (by decide)
        have y2 : ¬ nI k = -2 := nI_neg (by omega) (by decide)
        rw [ch', ob_s, if_neg y1, if_neg y2, if_pos (inb_nI (by omega) (by decide)), ix_nI (by omega), M6 k (by omega) hk]
        exact ⟨_, x2, m', rfl, rfl, hR.same S2 M2⟩
    · rw [if_neg d, if_neg d]
      exact ⟨_, x, m, rfl, rfl, hR⟩
  · rw [if_neg c, if_neg c]
    exact ⟨_, x, m, rfl, rfl, hR⟩
