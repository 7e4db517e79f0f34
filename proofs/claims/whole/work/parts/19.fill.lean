def imax (a b : Int32) : Int32 := if a < b then b else a
def imin (a b : Int32) : Int32 := if b < a then b else a
theorem J_mmax {g : GC} {μ : MRec} {d K N pc : Nat} {L : List (Nat × Value)} {S : List Value} {σ : Sto} {k w : Nat} {Q : Option Value → Sto → Prop} {idx : Nat} {x y : Int32} (hw0 : Cond.methodLink μ.1.cls idx Lib.Math.max.name ∈ TB) (hd : decode μ.2.1 pc = .ok (.invokestatic idx, 3)) (hS8 : (S.map fun v => v.category).sum ≤ 8) (kk : J g μ d K N (pc + 3) L (.int (imax x y) :: S) σ k w Q) : J g μ d K N pc L (.int y :: .int x :: S) σ k w Q := by
  intro p e R s m args below meth c Z hC hR H locs ls hW hS hl hk hw
  have hts := hC.2.2.2.2.1
  obtain ⟨b1, b2, b3, b4⟩ := hC.2.2.2.2.2.2.2.2.2
  refine va_mmax hC.1 hC.2.1 (hC.2.2.1.trans hl.1.symm) hC.2.2.2.1 (hts _ hw0) (hts _ (tb 506 (by decide +kernel))) (hts _ (tb 114 (by decide +kernel))) (hts _ (tb 507 (by decide +kernel))) (by omega) ?_ (by omega) (by omega) hd ?_
  · rw [rv_cats]
    omega
  · exact kk p e R s m args below meth c Z hC hR H locs ls hW hS hl hk hw
theorem J_mmin {g : GC} {μ : MRec} {d K N pc : Nat} {L : List (Nat × Value)} {S : List Value} {σ : Sto} {k w : Nat} {Q : Option Value → Sto → Prop} {idx : Nat} {x y : Int32} (hw0 : Cond.methodLink μ.1.cls idx Lib.Math.min.name ∈ TB) (hd : decode μ.2.1 pc = .ok (.invokestatic idx, 3)) (hS8 : (S.map fun v => v.category).sum ≤ 8) (kk : J g μ d K N (pc + 3) L (.int (imin x y) :: S) σ k w Q) : J g μ d K N pc L (.int y :: .int x :: S) σ k w Q := by
  intro p e R s m args below meth c Z hC hR H locs ls hW hS hl hk hw
  have hts := hC.2.2.2.2.1
  obtain ⟨b1, b2, b3, b4⟩ := hC.2.2.2.2.2.2.2.2.2
  refine va_mmin hC.1 hC.2.1 (hC.2.2.1.trans hl.1.symm) hC.2.2.2.1 (hts _ hw0) (hts _ (tb 532 (by decide +kernel))) (hts _ (tb 114 (by decide +kernel))) (hts _ (tb 533 (by decide +kernel))) (by omega) ?_ (by omega) (by omega) hd ?_
  · rw [rv_cats]
    omega
  · exact kk p e R s m args below meth c Z hC hR H locs ls hW hS hl hk hw
theorem celX_congr {x x' : MX} {h : Nat} {q : Nat × Nat × List (Option Nat)} (e : x'.1 = x.1) (hc : celX x h q) : celX x' h q := by
  refine ⟨fun m => ?_, hc.2⟩
  have := hc.1 m
  unfold cel ST at this ⊢
  rw [e]
  exact this
theorem xfl_0 (x : MX) (h : Nat) (v : Int64) : xfl x h 0 v = x := by
  obtain ⟨a, b, c⟩ := x
  unfold xfl
  congr 2
  funext p
  unfold rs2
  split
  · rename_i e; subst e; funext k; simp
  · rfl
theorem xfl_succ (x : MX) (h i : Nat) (v : Int64) : xsl (xfl x h i v) h i v = xfl x h (i + 1) v := by
  unfold xfl xsl
  congr 2
  funext p
  unfold up2 rs2
  by_cases e : p = h
  · subst e
    simp only [if_true]
    funext k
    by_cases e2 : k = i
    · subst e2
      simp
    · by_cases e3 : k < i
      · simp [e2, e3, show k < i + 1 by omega]
      · simp [e2, e3, show ¬ k < i + 1 by omega]
  · simp [e]
theorem S_fillL {g : GC} {d : Nat} {x : MX} {m : MM} {h n : Nat} {rs : List (Option Nat)} {v : Int64} (hd : 1 ≤ d) (hc : celX x h (101, n, rs)) (hn : n < 2 ^ 31 := by decide) : JC g m_J7_fill_d0a16 d 0 0 [.ref h, .long v] (ST x m) (EQ none (ST (xfl x h n v) m)) := by
  refine JC.of (by decide +kernel) (Nat.le_of_ble_eq_true rfl) ?_
  change J g m_J7_fill_d0a16 d 0 0 0 [(0, .ref h), (1, .long v)] [] (ST x m) 0 0 _
  refine J_iconst (v := 0) dJ7_fill_d0a16_0 (by decide) ?_
  refine J_istore_n (L' := [(3, .int 0), (0, .ref h), (1, .long v)]) dJ7_fill_d0a16_1 rfl (by decide) rfl ?_
  refine J_aload_n (j := 1) dJ7_fill_d0a16_2 rfl rfl ?_
  refine J_alenL (v := nI n) dJ7_fill_d0a16_3 (hc.1 m) rfl ?_
  refine J_istore (L' := [(4, .int (nI n)), (3, .int 0), (0, .ref h), (1, .long v)]) dJ7_fill_d0a16_4 (by decide) rfl ?_
  have loop : ∀ k i : Nat, i + k = n → J g m_J7_fill_d0a16 d 0 0 6 [(4, .int (nI n)), (3, .int (nI i)), (0, .ref h), (1, .long v)] [] (ST (xfl x h i v) m) 0 0 (EQ none (ST (xfl x h n v) m)) := by
    intro k
    induction k with
    | zero =>
      intro i hi
      have e : i = n := by omega
      subst e
      refine J_iload_n (j := 1) dJ7_fill_d0a16_6 rfl rfl ?_
      refine J_iload (j := 0) dJ7_fill_d0a16_7 rfl ?_
      refine J_icmp_ge (tgt := 22) dJ7_fill_d0a16_9 (by decide) (fun q => ?_) (fun q => ?_)
      · exact J_return rfl dJ7_fill_d0a16_22 ⟨rfl, rfl⟩
      · exact absurd (nI_le (Nat.le_refl _) hn) q
    | succ k ih =>
      intro i hi
      have hlt : i < n := by omega
      refine J_iload_n (j := 1) dJ7_fill_d0a16_6 rfl rfl ?_
      refine J_iload (j := 0) dJ7_fill_d0a16_7 rfl ?_
      refine J_icmp_ge (tgt := 22) dJ7_fill_d0a16_9 (by decide) (fun q => ?_) (fun q => ?_)
      · exact absurd q (nI_ge hlt hn)
      · refine J_aload_n (j := 2) dJ7_fill_d0a16_12 rfl rfl ?_
        refine J_iload_n (j := 1) dJ7_fill_d0a16_13 rfl rfl ?_
        refine J_lload_n (j := 3) dJ7_fill_d0a16_14 rfl rfl ?_
        refine JX_last (j := i) dJ7_fill_d0a16_15 (celX_congr (x := x) rfl hc) (vp_in_nI hlt hn) (nI_clamp (by omega)) ?_
        rw [xfl_succ]
        refine J_iinc (j := 1) (v := nI (i + 1)) (L' := [(3, .int (nI (i + 1))), (4, .int (nI n)), (0, .ref h), (1, .long v)]) dJ7_fill_d0a16_16 rfl (by rw [← nI_1]; rfl) (by decide) rfl ?_
        refine J_goto (tgt := 6) dJ7_fill_d0a16_19 (by decide) ?_
        refine J_sub [1, 0, 2, 3] rfl ?_
        exact ih (i + 1) (by omega)
  have h0 := loop n 0 (by omega)
  rw [xfl_0] at h0
  exact h0
