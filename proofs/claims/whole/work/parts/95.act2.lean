theorem PrA.seq {x0 : MX} {m0 : MM} {c d : Nat} {fx gx hx : MX → Option (Int32 × MX)} {fm gm hm : MM → Option (Int32 × MM)} (h : PrA x0 m0 c gx gm) (k : PrA x0 m0 d hx hm) (f : Int32 → Int32 → Int32) {cx : Int32 → MX → Option (Int32 × MX)} {cm : Int32 → MM → Option (Int32 × MM)} (ex : ∀ x m r, InA x0 m0 x m r → fx x = ob2 (gx x) cx) (em : ∀ x m r, InA x0 m0 x m r → fm m = ob2 (gm m) cm) (hc : ∀ x m r v, InA x0 m0 x m r → cx v x = ob2 (hx x) (fun s z => some (f v s, z)) ∧ cm v m = ob2 (hm m) (fun s z => some (f v s, z))) : PrA x0 m0 (c + d) fx fm := by
  intro x m r hi hr
  obtain ⟨v, x', m', r', g1, g2, g3, g4⟩ := h x m r hi (by omega)
  obtain ⟨w, x2, m2, r2, k1, k2, k3, k4⟩ := k x' m' r' g3 (by omega)
  obtain ⟨c1, c2⟩ := hc x' m' r' v g3
  refine ⟨f v w, x2, m2, r2, ?_, ?_, k3, by omega⟩
  · rw [ex x m r hi, g1, ob2_s, c1, k1, ob2_s]
  · rw [em x m r hi, g2, ob2_s, c2, k2, ob2_s]
theorem mk103 {x0 : MX} {m0 : MM} {n k : Nat} (A : AcA x0 m0 n k) {x : MX} {m : MM} {r : Nat} (hi : InA x0 m0 x m r) : inb (nI n) 50 = true ∧ mi m 103 (ix (nI n)) = nI k := by
  have hn := A.1
  refine ⟨inb_nI hn (by decide), ?_⟩
  rw [ix_nI (by omega), hi.2.2.2.2.1 103 n (by omega) (by omega), A.2.2.2.2]
/-! holds -/
theorem hold0 {x0 : MX} {m0 : MM} {n k0 : Nat} (A : AcA x0 m0 n k0) (f g : Nat) (v : Int32) {d : Nat} (hd : d ≤ 40) : PrA x0 m0 1 (XR (f + 2) 0 0 v (nI d)) (G_X9_rings (g + 1) (nI n) (nI 0) v) := by
  have h : PrA x0 m0 0 (fun y => R_X2_ofHole (G_X2_own f).1 (G_X2_own f).2.1 (G_X2_own f).2.2.1 (G_X2_own f).2.2.2 (nI 1) v (nI (d + 1)) y) (fun y => some (v + nI n, y)) := by
    intro x m r hi hr
    refine ⟨v + nI n, x, m, r, ?_, rfl, hi, by omega⟩
    show R_X2_ofHole _ _ _ _ _ _ _ _ = _
    unfold R_X2_ofHole
    rw [if_pos (show nI 1 = 1 from rfl), hi.2.2.1 51 4 (by omega) (by omega), A.2.2.1]
  refine h.body (b := 1) (fun x => XR_0 hd (by decide) (by decide) x) (fun m => ?_)
  show R_X9_rings _ _ _ _ _ = _
  unfold R_X9_rings
  rw [if_neg (show ¬ nI 0 = 1 by decide), if_neg (show ¬ nI 0 = 6 by decide), if_pos (show nI 0 ≤ 0 by decide)]
  rfl
theorem ow_0 : ∀ k, k < 8 → (ow k 0 = 0 ∨ ow k 0 = 1 ∨ ow k 0 = 6) ∧ ow (ow k 0) 0 = ow k 0 := by decide
theorem ow_1 : ∀ k, k < 8 → (ow k 1 = 0 ∨ ow k 1 = 2 ∨ ow k 1 = 3 ∨ ow k 1 = 7) ∧ ow (ow k 1) 1 = ow k 1 := by decide
theorem ow_2 : ∀ k, k < 8 → (ow k 2 = 0 ∨ ow k 2 = 3 ∨ ow k 2 = 4) ∧ ow (ow k 2) 2 = ow k 2 := by decide
theorem ow_3 : ∀ k, k < 8 → (ow k 3 = 0 ∨ ow k 3 = 5 ∨ ow k 3 = 7) ∧ ow (ow k 3) 3 = ow k 3 := by decide
theorem hold1 {x0 : MX} {m0 : MM} {n k0 : Nat} (A : AcA x0 m0 n k0) (f g : Nat) (v : Int32) {d : Nat} (hd : d ≤ 39) : PrA x0 m0 2 (XR (f + 4) 1 0 v (nI d)) (G_X9_rings (g + 2) (nI n) (nI 1) v) := by
  refine ((hold0 A f g v (d := d + 1) (by omega)).map (fun r => r + 3)).body (b := 20) (fun x => XR_k (ab := 0) (by omega) (by decide) (by decide) (by decide) (by decide) (by decide) (by decide) x) (fun m => ?_)
  show R_X9_rings _ _ _ _ _ = _
  unfold R_X9_rings
  rw [if_pos (show nI 1 = 1 by decide)]
  rfl
theorem hold6 {x0 : MX} {m0 : MM} {n k0 : Nat} (A : AcA x0 m0 n k0) (f g : Nat) (v : Int32) {d : Nat} (hd : d ≤ 39) : PrA x0 m0 2 (XR (f + 4) 6 0 v (nI d)) (G_X9_rings (g + 2) (nI n) (nI 6) v) := by
  refine ((hold0 A f g v (d := d + 1) (by omega)).map (fun r => r * 2)).body (b := 70) (fun x => XR_k (ab := 0) (by omega) (by decide) (by decide) (by decide) (by decide) (by decide) (by decide) x) (fun m => ?_)
  show R_X9_rings _ _ _ _ _ = _
  unfold R_X9_rings
  rw [if_neg (show ¬ nI 6 = 1 by decide), if_pos (show nI 6 = 6 by decide)]
  rfl
theorem holdA {x0 : MX} {m0 : MM} {n k0 : Nat} (A : AcA x0 m0 n k0) (f g : Nat) (v : Int32) {d : Nat} (hd : d ≤ 39) {k : Nat} (hk : k < 8) : PrA x0 m0 2 (XR (f + 4) k 0 v (nI d)) (G_X9_rings (g + 5) (nI n) (nI k) v) := by
  obtain ⟨o1, o2⟩ := ow_0 k hk
  have key : ∀ g, PrA x0 m0 2 (XR (f + 4) (ow k 0) 0 v (nI d)) (G_X9_rings (g + 2) (nI n) (nI (ow k 0)) v) := by
    intro g
    rcases o1 with e | e | e
    · rw [e]; exact (hold0 A (f + 2) (g + 1) v (by omega)).mono (by decide)
    · rw [e]; exact hold1 A f g v hd
    · rw [e]; exact hold6 A f g v hd
  intro x m r hi hr
  obtain ⟨s, _, e⟩ := ringsUp (n := nI n) (v := v) (g + 2) m k hk
  obtain ⟨w, x', m', r', h1, h2, h3⟩ := key (g + s) x m r hi hr
  refine ⟨w, x', m', r', ?_, ?_, h3⟩
  · rw [XR_ow hk (k' := ow k 0) (by rcases o1 with e | e | e <;> rw [e] <;> decide) (by decide) o2.symm]
    exact h1
  · rw [show g + 5 = g + 2 + 3 by omega, e, show g + 2 + s = g + s + 2 by omega]
    exact h2
theorem ownHold {x0 : MX} {m0 : MM} {n k : Nat} (A : AcA x0 m0 n k) (f : Nat) (v : Int32) {d : Nat} (hd : d ≤ 39) : PrA x0 m0 2 ((G_X2_own (f + 5)).1 0 v (nI d)) (fun m => f_X9_rings (nI n) (nI k) v m) :=
  (holdA A f 95 v hd A.2.1).cg (fun x m r hi => XO A hi (f + 4) 0 v (nI d)) (fun x m r hi => rfl)
/-! drops -/
theorem drop00 {x0 : MX} {m0 : MM} {n k0 : Nat} (A : AcA x0 m0 n k0) (f g : Nat) (v : Int32) {d : Nat} (hd : d ≤ 40) : PrA x0 m0 1 (XR (f + 2) 0 2 v (nI d)) (G_X9_doing (g + 1) (nI n) (nI 0) v) := by
  have h : PrA x0 m0 0 (fun y => R_X2_ofHole (G_X2_own f).1 (G_X2_own f).2.1 (G_X2_own f).2.2.1 (G_X2_own f).2.2.2 (nI 11) v (nI (d + 1)) y) (fun y => some (v ^^^ nI n, y)) := by
    intro x m r hi hr
    refine ⟨v ^^^ nI n, x, m, r, ?_, rfl, hi, by omega⟩
    show R_X2_ofHole _ _ _ _ _ _ _ _ = _
    unfold R_X2_ofHole
    rw [if_neg (show ¬ nI 11 = 1 by decide), if_neg (show ¬ nI 11 = 2 by decide), if_neg (show ¬ nI 11 = 10 by decide), if_pos (show nI 11 = 11 by decide), hi.2.2.1 51 4 (by omega) (by omega), A.2.2.1]
  refine h.body (b := 11) (fun x => XR_0 hd (by decide) (by decide) x) (fun m => ?_)
  show R_X9_doing _ _ _ _ _ = _
  unfold R_X9_doing
  rw [if_neg (show ¬ nI 0 = 3 by decide), if_neg (show ¬ nI 0 = 4 by decide), if_pos (show nI 0 ≤ 0 by decide)]
  rfl
theorem drop0 {x0 : MX} {m0 : MM} {n k0 : Nat} (A : AcA x0 m0 n k0) (f g : Nat) (v : Int32) {d : Nat} (hd : d ≤ 40) {k : Nat} (hk : k < 8) (h0 : ow k 2 = 0) : PrA x0 m0 1 (XR (f + 2) k 2 v (nI d)) (G_X9_doing (g + 4) (nI n) (nI k) v) := by
  intro x m r hi hr
  obtain ⟨s, _, e⟩ := doingUp (n := nI n) (v := v) (g + 1) m k hk
  obtain ⟨w, x', m', r', h1, h2, h3⟩ := drop00 A f (g + s) v hd x m r hi hr
  refine ⟨w, x', m', r', ?_, ?_, h3⟩
  · rw [XR_ow hk (k' := 0) (by decide) (by decide) (by rw [h0]; rfl)]
    exact h1
  · rw [show g + 4 = g + 1 + 3 by omega, e, h0, show g + 1 + s = g + s + 1 by omega]
    exact h2
theorem drop3 {x0 : MX} {m0 : MM} {n k0 : Nat} (A : AcA x0 m0 n k0) (f g : Nat) (v : Int32) {d : Nat} (hd : d ≤ 39) : PrA x0 m0 2 (XR (f + 4) 3 2 v (nI d)) (G_X9_doing (g + 5) (nI n) (nI 3) v) := by
  refine ((drop0 A f g v (d := d + 1) (by omega) (k := 2) (by decide) (by decide)).map (fun r => r * 3)).body (b := 40) (fun x => XR_k (ab := 2) (by omega) (by decide) (by decide) (by decide) (by decide) (by decide) (by decide) x) (fun m => ?_)
  show R_X9_doing _ _ _ _ _ = _
  unfold R_X9_doing
  rw [if_pos (show nI 3 = 3 by decide)]
  rfl
theorem drop4 {x0 : MX} {m0 : MM} {n k : Nat} (A : AcA x0 m0 n k) (f g : Nat) (v : Int32) {d : Nat} (hd : d ≤ 38) : PrA x0 m0 4 (XR (f + 7) 4 2 v (nI d)) (G_X9_doing (g + 5) (nI n) (nI 4) v) := by
  have h : PrA x0 m0 (1 + 2) (fun y => R_X2_ofUnder (G_X2_own (f + 5)).1 (G_X2_own (f + 5)).2.1 (G_X2_own (f + 5)).2.2.1 (G_X2_own (f + 5)).2.2.2 (nI 50) (nI 1) v (nI (d + 1)) y) (fun y => ob2 (G_X9_doing (g + 4) (nI n) (nI 1) v y) (fun r11 m12 => if inb (nI n) 50 = true then ob2 (f_X9_rings (nI n) (mi m12 103 (ix (nI n))) 2 m12) (fun r15 m16 => some (r11 - r15, m16)) else none)) := by
    refine (drop0 A (f + 3) g v (d := d + 1) (by omega) (k := 1) (by decide) (by decide)).seq (ownHold A f 2 (d := d + 1) (by omega)) (fun a b => a - b) (cx := fun r18 x19 => ob2 ((G_X2_own (f + 5)).1 0 2 (nI (d + 1)) x19) (fun r21 x22 => some (r18 - r21, x22))) (fun x m r hi => rfl) (fun x m r hi => rfl) (fun x m r w hi => ⟨rfl, ?_⟩)
    obtain ⟨q1, q2⟩ := mk103 A hi
    show (if inb (nI n) 50 = true then ob2 (f_X9_rings (nI n) (mi m 103 (ix (nI n))) 2 m) _ else none) = _
    rw [if_pos q1, q2]
  refine h.body (b := 50) (fun x => XR_k (ab := 1) (by omega) (by decide) (by decide) (by decide) (by decide) (by decide) (by decide) x) (fun m => ?_)
  show R_X9_doing _ _ _ _ _ = _
  unfold R_X9_doing
  rw [if_neg (show ¬ nI 4 = 3 by decide), if_pos (show nI 4 = 4 by decide)]
  rfl
theorem dropA {x0 : MX} {m0 : MM} {n k0 : Nat} (A : AcA x0 m0 n k0) (f g : Nat) (v : Int32) {d : Nat} (hd : d ≤ 38) {k : Nat} (hk : k < 8) : PrA x0 m0 4 (XR (f + 7) k 2 v (nI d)) (G_X9_doing (g + 8) (nI n) (nI k) v) := by
  obtain ⟨o1, o2⟩ := ow_2 k hk
  have key : ∀ g, PrA x0 m0 4 (XR (f + 7) (ow k 2) 2 v (nI d)) (G_X9_doing (g + 5) (nI n) (nI (ow k 2)) v) := by
    intro g
    rcases o1 with e | e | e
    · rw [e]; exact (drop00 A (f + 5) (g + 4) v (by omega)).mono (by decide)
    · rw [e]; exact (drop3 A (f + 3) g v (by omega)).mono (by decide)
    · rw [e]; exact drop4 A f g v hd
  intro x m r hi hr
  obtain ⟨s, _, e⟩ := doingUp (n := nI n) (v := v) (g + 5) m k hk
  obtain ⟨w, x', m', r', h1, h2, h3⟩ := key (g + s) x m r hi hr
  refine ⟨w, x', m', r', ?_, ?_, h3⟩
  · rw [XR_ow hk (k' := ow k 2) (by rcases o1 with e | e | e <;> rw [e] <;> decide) (by decide) o2.symm]
    exact h1
  · rw [show g + 8 = g + 5 + 3 by omega, e, show g + 5 + s = g + s + 5 by omega]
    exact h2
theorem ownDrop {x0 : MX} {m0 : MM} {n k : Nat} (A : AcA x0 m0 n k) (f : Nat) (v : Int32) {d : Nat} (hd : d ≤ 38) : PrA x0 m0 4 ((G_X2_own (f + 8)).1 2 v (nI d)) (fun m => f_X9_doing (nI n) (nI k) v m) :=
  (dropA A f 92 v hd A.2.1).cg (fun x m r hi => XO A hi (f + 7) 2 v (nI d)) (fun x m r hi => rfl)
/-! gives -/
theorem give00 {x0 : MX} {m0 : MM} {n k : Nat} (A : AcA x0 m0 n k) (f g : Nat) (v : Int32) {d : Nat} (hd : d ≤ 38) : PrA x0 m0 3 (XR (f + 7) 0 1 v (nI d)) (G_X9_hears (g + 1) (nI n) (nI 0) v) := by
  have h : PrA x0 m0 2 (fun y => R_X2_ofHole (G_X2_own (f + 5)).1 (G_X2_own (f + 5)).2.1 (G_X2_own (f + 5)).2.2.1 (G_X2_own (f + 5)).2.2.2 (nI 10) v (nI (d + 1)) y) (fun y => if inb (nI n) 50 = true then ob2 (f_X9_rings (nI n) (mi y 103 (ix (nI n))) v y) (fun r8 m9 => some (r8 * 2, m9)) else none) := by
    refine ((ownHold A f v (d := d + 1) (by omega)).map (fun r => r * 2)).cg (fun x m r hi => ?_) (fun x m r hi => ?_)
    · show R_X2_ofHole _ _ _ _ _ _ _ _ = _
      unfold R_X2_ofHole
      rw [if_neg (show ¬ nI 10 = 1 by decide), if_neg (show ¬ nI 10 = 2 by decide), if_pos (show nI 10 = 10 by decide)]
    · obtain ⟨q1, q2⟩ := mk103 A hi
      show (if inb (nI n) 50 = true then ob2 (f_X9_rings (nI n) (mi m 103 (ix (nI n))) v m) _ else none) = _
      rw [if_pos q1, q2]
  refine h.body (b := 10) (fun x => XR_0 (by omega) (by decide) (by decide) x) (fun m => ?_)
  show R_X9_hears _ _ _ _ _ = _
  unfold R_X9_hears
  rw [if_neg (show ¬ nI 0 = 2 by decide), if_neg (show ¬ nI 0 = 3 by decide), if_neg (show ¬ nI 0 = 7 by decide), if_pos (show nI 0 ≤ 0 by decide)]
  rfl
theorem give0 {x0 : MX} {m0 : MM} {n k0 : Nat} (A : AcA x0 m0 n k0) (f g : Nat) (v : Int32) {d : Nat} (hd : d ≤ 38) {k : Nat} (hk : k < 8) (h0 : ow k 1 = 0) : PrA x0 m0 3 (XR (f + 7) k 1 v (nI d)) (G_X9_hears (g + 4) (nI n) (nI k) v) := by
  intro x m r hi hr
  obtain ⟨s, _, e⟩ := hearsUp (n := nI n) (v := v) (g + 1) m k hk
  obtain ⟨w, x', m', r', h1, h2, h3⟩ := give00 A f (g + s) v hd x m r hi hr
  refine ⟨w, x', m', r', ?_, ?_, h3⟩
  · rw [XR_ow hk (k' := 0) (by decide) (by decide) (by rw [h0]; rfl)]
    exact h1
  · rw [show g + 4 = g + 1 + 3 by omega, e, h0, show g + 1 + s = g + s + 1 by omega]
    exact h2
theorem give2 {x0 : MX} {m0 : MM} {n k0 : Nat} (A : AcA x0 m0 n k0) (f g : Nat) (v : Int32) {d : Nat} (hd : d ≤ 37) : PrA x0 m0 4 (XR (f + 9) 2 1 v (nI d)) (G_X9_hears (g + 5) (nI n) (nI 2) v) := by
  refine ((give0 A f g v (d := d + 1) (by omega) (k := 0) (by decide) (by decide)).map (fun r => -r)).body (b := 30) (fun x => XR_k (ab := 0) (by omega) (by decide) (by decide) (by decide) (by decide) (by decide) (by decide) x) (fun m => ?_)
  show R_X9_hears _ _ _ _ _ = _
  unfold R_X9_hears
  rw [if_pos (show nI 2 = 2 by decide)]
  rfl
theorem give3 {x0 : MX} {m0 : MM} {n k0 : Nat} (A : AcA x0 m0 n k0) (f g : Nat) (v : Int32) {d : Nat} (hd : d ≤ 36) : PrA x0 m0 5 (XR (f + 11) 3 1 v (nI d)) (G_X9_hears (g + 6) (nI n) (nI 3) v) := by
  refine ((give2 A f g (v + 1) (d := d + 1) (by omega)).map (fun r => r)).body (b := 41) (fun x => XR_k (ab := 2) (by omega) (by decide) (by decide) (by decide) (by decide) (by decide) (by decide) x) (fun m => ?_)
  show R_X9_hears _ _ _ _ _ = _
  unfold R_X9_hears
  rw [if_neg (show ¬ nI 3 = 2 by decide), if_pos (show nI 3 = 3 by decide)]
  rfl
theorem give7 {x0 : MX} {m0 : MM} {n k : Nat} (A : AcA x0 m0 n k) (f g : Nat) (v : Int32) {d : Nat} (hd : d ≤ 37) : PrA x0 m0 8 (XR (f + 10) 7 1 v (nI d)) (G_X9_hears (g + 5) (nI n) (nI 7) v) := by
  have h : PrA x0 m0 (3 + 4) (fun y => R_X2_ofUnder (G_X2_own (f + 8)).1 (G_X2_own (f + 8)).2.1 (G_X2_own (f + 8)).2.2.1 (G_X2_own (f + 8)).2.2.2 (nI 80) (nI 4) v (nI (d + 1)) y) (fun y => ob2 (G_X9_hears (g + 4) (nI n) (nI 4) v y) (fun r11 m12 => if inb (nI n) 50 = true then ob2 (f_X9_doing (nI n) (mi m12 103 (ix (nI n))) 2 m12) (fun r15 m16 => some (r11 + r15, m16)) else none)) := by
    refine (give0 A (f + 1) g v (d := d + 1) (by omega) (k := 4) (by decide) (by decide)).seq (ownDrop A f 2 (d := d + 1) (by omega)) (fun a b => a + b) (cx := fun r18 x19 => ob2 ((G_X2_own (f + 8)).1 2 2 (nI (d + 1)) x19) (fun r21 x22 => some (r18 + r21, x22))) (fun x m r hi => rfl) (fun x m r hi => rfl) (fun x m r w hi => ⟨rfl, ?_⟩)
    obtain ⟨q1, q2⟩ := mk103 A hi
    show (if inb (nI n) 50 = true then ob2 (f_X9_doing (nI n) (mi m 103 (ix (nI n))) 2 m) _ else none) = _
    rw [if_pos q1, q2]
  refine h.body (b := 80) (fun x => XR_k (ab := 4) (by omega) (by decide) (by decide) (by decide) (by decide) (by decide) (by decide) x) (fun m => ?_)
  show R_X9_hears _ _ _ _ _ = _
  unfold R_X9_hears
  rw [if_neg (show ¬ nI 7 = 2 by decide), if_neg (show ¬ nI 7 = 3 by decide), if_pos (show nI 7 = 7 by decide)]
  rfl
theorem giveA {x0 : MX} {m0 : MM} {n k0 : Nat} (A : AcA x0 m0 n k0) (f g : Nat) (v : Int32) {d : Nat} (hd : d ≤ 36) {k : Nat} (hk : k < 8) : PrA x0 m0 8 (XR (f + 11) k 1 v (nI d)) (G_X9_hears (g + 9) (nI n) (nI k) v) := by
  obtain ⟨o1, o2⟩ := ow_1 k hk
  have key : ∀ g, PrA x0 m0 8 (XR (f + 11) (ow k 1) 1 v (nI d)) (G_X9_hears (g + 6) (nI n) (nI (ow k 1)) v) := by
    intro g
    rcases o1 with e | e | e | e
    · rw [e]; exact (give00 A (f + 4) (g + 5) v (by omega)).mono (by decide)
    · rw [e]; exact (give2 A (f + 2) (g + 1) v (by omega)).mono (by decide)
    · rw [e]; exact (give3 A f g v hd).mono (by decide)
    · rw [e]; exact give7 A (f + 1) (g + 1) v (by omega)
  intro x m r hi hr
  obtain ⟨s, _, e⟩ := hearsUp (n := nI n) (v := v) (g + 6) m k hk
  obtain ⟨w, x', m', r', h1, h2, h3⟩ := key (g + s) x m r hi hr
  refine ⟨w, x', m', r', ?_, ?_, h3⟩
  · rw [XR_ow hk (k' := ow k 1) (by rcases o1 with e | e | e | e <;> rw [e] <;> decide) (by decide) o2.symm]
    exact h1
  · rw [show g + 9 = g + 6 + 3 by omega, e, show g + 6 + s = g + s + 6 by omega]
    exact h2
theorem ownGive {x0 : MX} {m0 : MM} {n k : Nat} (A : AcA x0 m0 n k) (f : Nat) (v : Int32) {d : Nat} (hd : d ≤ 36) : PrA x0 m0 8 ((G_X2_own (f + 12)).1 1 v (nI d)) (fun m => f_X9_hears (nI n) (nI k) v m) :=
  (giveA A f 91 v hd A.2.1).cg (fun x m r hi => XO A hi (f + 11) 1 v (nI d)) (fun x m r hi => rfl)
/-! tells -/
theorem tell00 {x0 : MX} {m0 : MM} {n k : Nat} (A : AcA x0 m0 n k) (f g : Nat) (v : Int32) {d : Nat} (hd : d ≤ 35) : PrA x0 m0 13 (XR (f + 14) 0 3 v (nI d)) (G_X9_tells (g + 1) (nI n) (nI 0) v) := by
  have h : PrA x0 m0 (8 + 4) (fun y => R_X2_ofHole (G_X2_own (f + 12)).1 (G_X2_own (f + 12)).2.1 (G_X2_own (f + 12)).2.2.1 (G_X2_own (f + 12)).2.2.2 (nI 2) v (nI (d + 1)) y) (fun y => if inb (nI n) 50 = true then ob2 (f_X9_hears (nI n) (mi y 103 (ix (nI n))) v y) (fun r7 m8 => ob2 (f_X9_doing (nI n) (mi m8 103 (ix (nI n))) 1 m8) (fun r10 m11 => some (r7 - r10, m11))) else none) := by
    refine (ownGive A f v (d := d + 1) (by omega)).seq (ownDrop A (f + 4) 1 (d := d + 1) (by omega)) (fun a b => a - b) (cx := fun r3 x4 => ob2 ((G_X2_own (f + 12)).1 2 1 (nI (d + 1)) x4) (fun r6 x7 => some (r3 - r6, x7))) (cm := fun r7 m8 => ob2 (f_X9_doing (nI n) (mi m8 103 (ix (nI n))) 1 m8) (fun r10 m11 => some (r7 - r10, m11))) (fun x m r hi => ?_) (fun x m r hi => ?_) (fun x m r w hi => ⟨rfl, ?_⟩)
    · show R_X2_ofHole _ _ _ _ _ _ _ _ = _
      unfold R_X2_ofHole
      rw [if_neg (show ¬ nI 2 = 1 by decide), if_pos (show nI 2 = 2 by decide)]
    · obtain ⟨q1, q2⟩ := mk103 A hi
      show (if inb (nI n) 50 = true then ob2 (f_X9_hears (nI n) (mi m 103 (ix (nI n))) v m) _ else none) = _
      rw [if_pos q1, q2]
    · obtain ⟨q1, q2⟩ := mk103 A hi
      show ob2 (f_X9_doing (nI n) (mi m 103 (ix (nI n))) 1 m) _ = _
      rw [q2]
  refine h.body (b := 2) (fun x => XR_0 (by omega) (by decide) (by decide) x) (fun m => ?_)
  show R_X9_tells _ _ _ _ _ = _
  unfold R_X9_tells
  rw [if_neg (show ¬ nI 0 = 5 by decide), if_neg (show ¬ nI 0 = 7 by decide), if_pos (show nI 0 ≤ 0 by decide)]
  rfl
theorem tell0 {x0 : MX} {m0 : MM} {n k0 : Nat} (A : AcA x0 m0 n k0) (f g : Nat) (v : Int32) {d : Nat} (hd : d ≤ 35) {k : Nat} (hk : k < 8) (h0 : ow k 3 = 0) : PrA x0 m0 13 (XR (f + 14) k 3 v (nI d)) (G_X9_tells (g + 4) (nI n) (nI k) v) := by
  intro x m r hi hr
  obtain ⟨s, _, e⟩ := tellsUp (n := nI n) (v := v) (g + 1) m k hk
  obtain ⟨w, x', m', r', h1, h2, h3⟩ := tell00 A f (g + s) v hd x m r hi hr
  refine ⟨w, x', m', r', ?_, ?_, h3⟩
  · rw [XR_ow hk (k' := 0) (by decide) (by decide) (by rw [h0]; rfl)]
    exact h1
  · rw [show g + 4 = g + 1 + 3 by omega, e, h0, show g + 1 + s = g + s + 1 by omega]
    exact h2
theorem tell5 {x0 : MX} {m0 : MM} {n k0 : Nat} (A : AcA x0 m0 n k0) (f g : Nat) (v : Int32) {d : Nat} (hd : d ≤ 34) : PrA x0 m0 14 (XR (f + 16) 5 3 v (nI d)) (G_X9_tells (g + 5) (nI n) (nI 5) v) := by
  refine ((tell0 A f g v (d := d + 1) (by omega) (k := 3) (by decide) (by decide)).map (fun r => r ^^^ 5)).body (b := 60) (fun x => XR_k (ab := 3) (by omega) (by decide) (by decide) (by decide) (by decide) (by decide) (by decide) x) (fun m => ?_)
  show R_X9_tells _ _ _ _ _ = _
  unfold R_X9_tells
  rw [if_pos (show nI 5 = 5 by decide)]
  rfl
theorem tell7 {x0 : MX} {m0 : MM} {n k0 : Nat} (A : AcA x0 m0 n k0) (f g : Nat) (v : Int32) {d : Nat} (hd : d ≤ 34) : PrA x0 m0 14 (XR (f + 16) 7 3 v (nI d)) (G_X9_tells (g + 5) (nI n) (nI 7) v) := by
  refine ((tell0 A f g v (d := d + 1) (by omega) (k := 4) (by decide) (by decide)).map (fun r => r - 1)).body (b := 81) (fun x => XR_k (ab := 4) (by omega) (by decide) (by decide) (by decide) (by decide) (by decide) (by decide) x) (fun m => ?_)
  show R_X9_tells _ _ _ _ _ = _
  unfold R_X9_tells
  rw [if_neg (show ¬ nI 7 = 5 by decide), if_pos (show nI 7 = 7 by decide)]
  rfl
theorem tellA {x0 : MX} {m0 : MM} {n k0 : Nat} (A : AcA x0 m0 n k0) (f g : Nat) (v : Int32) {d : Nat} (hd : d ≤ 34) {k : Nat} (hk : k < 8) : PrA x0 m0 14 (XR (f + 16) k 3 v (nI d)) (G_X9_tells (g + 8) (nI n) (nI k) v) := by
  obtain ⟨o1, o2⟩ := ow_3 k hk
  have key : ∀ g, PrA x0 m0 14 (XR (f + 16) (ow k 3) 3 v (nI d)) (G_X9_tells (g + 5) (nI n) (nI (ow k 3)) v) := by
    intro g
    rcases o1 with e | e | e
    · rw [e]; exact (tell00 A (f + 2) (g + 4) v (by omega)).mono (by decide)
    · rw [e]; exact tell5 A f g v (by omega)
    · rw [e]; exact tell7 A f g v (by omega)
  intro x m r hi hr
  obtain ⟨s, _, e⟩ := tellsUp (n := nI n) (v := v) (g + 5) m k hk
  obtain ⟨w, x', m', r', h1, h2, h3⟩ := key (g + s) x m r hi hr
  refine ⟨w, x', m', r', ?_, ?_, h3⟩
  · rw [XR_ow hk (k' := ow k 3) (by rcases o1 with e | e | e <;> rw [e] <;> decide) (by decide) o2.symm]
    exact h1
  · rw [show g + 8 = g + 5 + 3 by omega, e, show g + 5 + s = g + s + 5 by omega]
    exact h2
theorem ownTell {x0 : MX} {m0 : MM} {n k : Nat} (A : AcA x0 m0 n k) (f : Nat) (v : Int32) {d : Nat} (hd : d ≤ 34) : PrA x0 m0 14 ((G_X2_own (f + 17)).1 3 v (nI d)) (fun m => f_X9_tells (nI n) (nI k) v m) :=
  (tellA A f 92 v hd A.2.1).cg (fun x m r hi => XO A hi (f + 16) 3 v (nI d)) (fun x m r hi => rfl)
/-! the call -/
theorem act_rel {x x' : MX} {m m' : MM} {r : Nat} (h : Rel x m) (a : x'.1 = x.1) (a2 : x'.2.2 = x.2.2) (b : ∀ h k, ¬ (h = 51 ∧ (k = 3 ∨ k = 4)) → ¬ h = 53 → xi x' h k = xi x h k) (bl : ∀ h k, ml m' h k = ml m h k) (c : ∀ h k, ¬ (h = 80 ∧ k = 7) → ¬ h = 104 → mi m' h k = mi m h k) (d : xi x' 51 3 = nI r) (e : mi m' 80 7 = nI r) (hr : r ≤ 2000) (f : ∀ k, k < 24 → k < r → xi x' 53 k = mi m' 104 k) : Rel x' m' := by
  obtain ⟨nl, nc, ns, nh, h1, h2, h3, h4, h5, h6, h7, h8, h9, h10⟩ := h
  have M80 : ∀ k, ¬ k = 7 → mi m' 80 k = mi m 80 k := fun k hk => c 80 k (by omega) (by omega)
  have X5 : ∀ k, xi x' 5 k = xi x 5 k := fun k => b 5 k (by omega) (by omega)
  refine ⟨nl, nc, ns, nh, ?_, ?_, ?_, ?_, ?_, ?_, ?_, ?_, ?_, ?_⟩
  · exact h1.cg (X5 _) (X5 _) (X5 _) (M80 _ (by decide)) (M80 _ (by decide)) (M80 _ (by decide))
  · refine h2.cg (fun w k hw _ => b _ _ (by omega) (by omega)) (fun w k hw => ?_)
    match w, hw with
    | 0, _ | 1, _ | 2, _ | 3, _ | 4, _ | 5, _ | 6, _ | 7, _ | 8, _ | 9, _ | 10, _ | 11, _ | 12, _ => exact c _ _ (by omega) (by omega)
  · exact h3.cg (fun k => b _ _ (by omega) (by omega)) (fun k => c _ _ (by omega) (by omega))
  · exact h4.cg (fun k => b _ _ (by omega) (by omega)) (M80 _ (by decide)) (M80 _ (by decide)) (M80 _ (by decide)) (M80 _ (by decide))
  · exact h5.cg (M80 _ (by decide)) (X5 _) (fun k => b _ _ (by omega) (by omega)) (fun k => b _ _ (by omega) (by omega)) (fun k => b _ _ (by omega) (by omega)) (fun k => c _ _ (by omega) (by omega))
  · exact h6.cg (b _ _ (by omega) (by omega)) (b _ _ (by omega) (by omega)) (M80 _ (by decide)) (M80 _ (by decide)) (fun k => b _ _ (by omega) (by omega)) (fun k => b _ _ (by omega) (by omega)) (fun k => b _ _ (by omega) (by omega)) (fun k => b _ _ (by omega) (by omega)) (fun k => c _ _ (by omega) (by omega)) (fun k => c _ _ (by omega) (by omega)) (fun k => c _ _ (by omega) (by omega)) (fun k => c _ _ (by omega) (by omega))
  · refine h7.cg a ?_ ?_ (fun k => ?_) (M80 _ (by decide)) (fun k => c _ _ (by omega) (by omega))
    · rcases h7.2.1 with q | q <;> rw [q] <;> exact b _ _ (by omega) (by omega)
    · rcases h7.1 with q | q <;> rw [q] <;> exact b _ _ (by omega) (by omega)
    · rcases h7.2.1 with q | q <;> rw [q] <;> exact b _ _ (by omega) (by omega)
  · refine h8.cg ⟨by rw [a], ?_, fun k => ?_⟩ ⟨M80 _ (by decide), fun k => c _ _ (by omega) (by omega)⟩ (M80 _ (by decide))
    · rcases h7.1 with q | q <;> rw [q] <;> exact b _ _ (by omega) (by omega)
    · rcases h7.1 with q | q <;> rw [q] <;> exact ⟨b _ _ (by omega) (by omega), b _ _ (by omega) (by omega)⟩
  · obtain ⟨u1, u2, u3, u4, u5, u6⟩ := h9
    refine ⟨u1, (b _ _ (by omega) (by omega)).trans u2, (M80 _ (by decide)).trans u3, fun k hk => ?_, d.trans e.symm, fun k k1 k2 => ?_⟩
    · rw [b 52 k (by omega) (by omega), c 103 k (by omega) (by omega)]
      exact u4 k hk
    · rw [e, nI_int (by omega)] at k2
      exact f k k1 (by omega)
  · refine h10.cg (fun s k hs => b _ _ (by omega) (by omega)) (fun s k _ => ?_) (fun k => c _ _ (by omega) (by omega)) (fun k => c _ _ (by omega) (by omega)) (fun k => c _ _ (by omega) (by omega)) (fun k => c _ _ (by omega) (by omega)) (fun k => bl _ _)
    unfold xl
    rw [a2]
theorem cmd_act {x : MX} {m : MM} (a w v : Int32) (hR : Rel x m) : ∃ r x' m', f_X8_act a w v x = some (r, x') ∧ f_X9_act a w v m = some (r, m') ∧ Rel x' m' := by
  obtain ⟨nl, nc, ns, nh, h1, h2, h3, h4, h5, h6, h7, h8, h9, h10⟩ := id hR
  obtain ⟨u1, u2, u3, u4, u5, u6⟩ := h9
  have e0 : (0 : Int32).toInt = 0 := by decide
  have e1 : (1 : Int32).toInt = 1 := by decide
  have e3 : (3 : Int32).toInt = 3 := by decide
  have e4 : (4 : Int32).toInt = 4 := by decide
  have f8 : mi (ms m 80 7 0) 80 8 = nI nh := by rw [mi_ms, if_neg (by omega), u3]
  have f2 : xi (xs x 51 3 0) 51 2 = nI nh := by rw [xi_xs, if_neg (by omega), u2]
  have sb : (nI nh - 1).toInt = (nh : Int) - 1 := by rw [i_sub (by rw [nI_int (by omega), e1]; omega) (by rw [nI_int (by omega), e1]; omega), nI_int (by omega), e1]
  have k0 : f_X9_isIn a 0 (nI nh - 1) = decide (0 ≤ a.toInt ∧ a.toInt < (nh : Int)) := by
    rw [isIn_eq, e0, sb]
    exact decide_eq_decide.mpr (by omega)
  have k1 : f_X9_isIn w 0 3 = decide (0 ≤ w.toInt ∧ w.toInt ≤ 3) := by rw [isIn_eq, e0, e3]
  have R0 : Rel (xs x 51 3 0) (ms m 80 7 0) := by
    refine act_rel hR rfl rfl (fun h k q1 q2 => by rw [xi_xs, if_neg (by omega)]) (fun _ _ => rfl) (fun h k q1 q2 => by rw [mi_ms, if_neg (by omega)]) (r := 0) ?_ ?_ (by decide) (fun k _ q => absurd q (by omega))
    · rw [xi_xs, if_pos ⟨rfl, rfl⟩]; rfl
    · rw [mi_ms, if_pos ⟨rfl, rfl⟩]; rfl
  unfold f_X8_act f_X2_acts f_X9_act
  rw [letx_s (xs x 51 3 0), letx_s (ms m 80 7 0), f8, f2, k0, k1]
  by_cases c : 0 ≤ a.toInt ∧ a.toInt < (nh : Int)
  · have c1 : ¬ a < 0 := by rw [i_lt, e0]; omega
    have c2 : ¬ nI nh ≤ a := by rw [i_le, nI_int (by omega)]; omega
    rw [if_neg c1, if_neg c2, decide_eq_true c, if_pos rfl]
    by_cases d : 0 ≤ w.toInt ∧ w.toInt ≤ 3
    · have d1 : ¬ w < 0 := by rw [i_lt, e0]; omega
      have d2 : w < 4 := by rw [i_lt, e4]; omega
      obtain ⟨n, hn, rfl⟩ := nI_ex c.1 c.2
      obtain ⟨q, hq, rfl⟩ := nI_ex (a := w) (n := 4) d.1 (by omega)
      rw [if_neg d1, if_pos d2, decide_eq_true d, if_pos rfl, letx_s, if_pos (inb_nI (by omega) (by decide)), ix_nI (by omega)]
      obtain ⟨y1, y2, y3⟩ := u4 n hn
      obtain ⟨k, hk, ek⟩ := nI_ex (a := mi m 103 n) (n := 8) y2 (by omega)
      have g103 : mi (ms m 80 7 0) 103 n = nI k := by rw [mi_ms, if_neg (by omega), ek]
      have A : AcA (xs (xs x 51 3 0) 51 4 (nI n)) (ms m 80 7 0) n k := by
        refine ⟨by omega, hk, ?_, ?_, g103⟩
        · rw [xi_xs, if_pos ⟨rfl, rfl⟩]
        · rw [xi_xs, if_neg (by omega), xi_xs, if_neg (by omega), y1, ek]
      have I0 : InA (xs (xs x 51 3 0) 51 4 (nI n)) (ms m 80 7 0) (xs (xs x 51 3 0) 51 4 (nI n)) (ms m 80 7 0) 0 := by
        refine ⟨rfl, rfl, fun _ _ _ _ => rfl, fun _ _ => rfl, fun _ _ _ _ => rfl, ?_, ?_, fun k _ q => absurd q (by omega)⟩
        · rw [xi_xs, if_neg (by omega), xi_xs, if_pos ⟨rfl, rfl⟩]; rfl
        · rw [mi_ms, if_pos ⟨rfl, rfl⟩]; rfl
      have fin : ∀ {fx : MX → Option (Int32 × MX)} {fm : MM → Option (Int32 × MM)}, PrA (xs (xs x 51 3 0) 51 4 (nI n)) (ms m 80 7 0) 14 fx fm → ∃ r x' m', fx (xs (xs x 51 3 0) 51 4 (nI n)) = some (r, x') ∧ fm (ms m 80 7 0) = some (r, m') ∧ Rel x' m' := by
        intro fx fm P
        obtain ⟨r, x', m', t, p1, p2, ⟨i1, i2, i3, i4, i5, i6, i7, i8⟩, p4⟩ := P _ _ 0 I0 (by decide)
        refine ⟨r, x', m', p1, p2, act_rel hR i1 i2 (fun h k q1 q2 => ?_) (fun h k => i4 h k) (fun h k q1 q2 => ?_) i6 i7 (by omega) i8⟩
        · rw [i3 h k (by omega) q2, xi_xs, if_neg (by omega), xi_xs, if_neg (by omega)]
        · rw [i5 h k q1 q2, mi_ms, if_neg (by omega)]
      rw [g103]
      match q, hq with
      | 0, _ =>
        obtain ⟨r, x', m', p1, p2, p3⟩ := fin ((ownHold A 95 v (d := 0) (by decide)).mono (by decide))
        have p1' : f_X2_own (nI 0) v 0 (xs (xs x 51 3 0) 51 4 (nI n)) = some (r, x') := p1
        refine ⟨r, x', m', ?_, ?_, p3⟩
        · rw [p1', ob2_s, ob2_s]
        · rw [if_pos (show nI 0 = 0 from rfl), ob2_id]; exact p2
      | 1, _ =>
        obtain ⟨r, x', m', p1, p2, p3⟩ := fin ((ownGive A 88 v (d := 0) (by decide)).mono (by decide))
        have p1' : f_X2_own (nI 1) v 0 (xs (xs x 51 3 0) 51 4 (nI n)) = some (r, x') := p1
        refine ⟨r, x', m', ?_, ?_, p3⟩
        · rw [p1', ob2_s, ob2_s]
        · rw [if_neg (show ¬ nI 1 = 0 by decide), if_pos (show nI 1 = 1 from rfl), ob2_id]; exact p2
      | 2, _ =>
        obtain ⟨r, x', m', p1, p2, p3⟩ := fin ((ownDrop A 92 v (d := 0) (by decide)).mono (by decide))
        have p1' : f_X2_own (nI 2) v 0 (xs (xs x 51 3 0) 51 4 (nI n)) = some (r, x') := p1
        refine ⟨r, x', m', ?_, ?_, p3⟩
        · rw [p1', ob2_s, ob2_s]
        · rw [if_neg (show ¬ nI 2 = 0 by decide), if_neg (show ¬ nI 2 = 1 by decide), if_pos (show nI 2 = 2 from rfl), ob2_id]; exact p2
      | 3, _ =>
        obtain ⟨r, x', m', p1, p2, p3⟩ := fin (ownTell A 83 v (d := 0) (by decide))
        have p1' : f_X2_own (nI 3) v 0 (xs (xs x 51 3 0) 51 4 (nI n)) = some (r, x') := p1
        refine ⟨r, x', m', ?_, ?_, p3⟩
        · rw [p1', ob2_s, ob2_s]
        · rw [if_neg (show ¬ nI 3 = 0 by decide), if_neg (show ¬ nI 3 = 1 by decide), if_neg (show ¬ nI 3 = 2 by decide), ob2_id]; exact p2
    · refine ⟨0, _, _, ?_, ?_, R0⟩
      · by_cases d1 : w < 0
        · rw [if_pos d1, ob2_s]
        · rw [if_neg d1, if_neg, ob2_s]
          intro d2
          rw [i_lt, e0] at d1
          rw [i_lt, e4] at d2
          omega
      · rw [decide_eq_false d]; rfl
  · refine ⟨0, _, _, ?_, ?_, R0⟩
    · by_cases c1 : a < 0
      · rw [if_pos c1, ob2_s]
      · rw [if_neg c1, if_pos, ob2_s]
        rw [i_lt, e0] at c1
        rw [i_le, nI_int (by omega)]
        omega
    · rw [decide_eq_false c]; rfl
