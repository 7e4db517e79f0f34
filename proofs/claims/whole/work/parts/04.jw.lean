/-! words of TB by their places; good words -/
theorem TB_goodw {w : Cond} (h : w ∈ TB) : (w.onTables && w.keeps) = true ∨ ∃ ty, w = .arrayClass ty := good_of_word (List.mem_filter.mp h).2
theorem tb {w : Cond} (i : Nat) (h : (decide (TU[i]? = some w) && goodWord w) = true) : w ∈ TB := by
  simp only [Bool.and_eq_true, decide_eq_true_eq] at h
  exact List.mem_filter.mpr ⟨List.mem_of_getElem? h.1, h.2⟩
theorem memb {ws : List Cond} (ps : List Nat) (h : (decide (ws = ps.filterMap (fun i => TU[i]?)) && ws.all goodWord) = true) : ∀ w ∈ ws, w ∈ TB := by
  simp only [Bool.and_eq_true, decide_eq_true_eq] at h
  intro w hw
  have hg := List.all_eq_true.mp h.2 w hw
  rw [h.1] at hw
  obtain ⟨i, -, hi⟩ := List.mem_filterMap.mp hw
  exact List.mem_filter.mpr ⟨List.mem_of_getElem? hi, hg⟩
theorem good_ws {μ : MRec} {ws : List Cond} (hc : Cond.code μ.1 μ.2.1 μ.2.2.1 μ.2.2.2 ∈ TB) (h : ∀ w ∈ ws, w ∈ TB) : GoodIn TB (ws ++ wsOf μ) := by
  intro w hw
  have hm : w ∈ TB := by
    rcases List.mem_append.mp hw with q | q
    · exact h w q
    · unfold wsOf at q
      rcases List.mem_cons.mp q with q | q
      · rw [q]; exact hc
      · exact q
  exact ⟨hm, TB_goodw hm⟩
/-- selects of a private method of a class that is above the receiver's -/
theorem sel_priv {y y0 : MethodName} {C : String} {x0 : MethodName} {s : State} {args : Array Value} (hy : y.cls ≠ "java/lang/invoke/MethodHandle" ∧ y.cls ≠ "java/lang/invoke/VarHandle") (h0 : (Cond.selects C x0 y0).before args s = true) (hcl : y0.cls = y.cls)
    (hpriv : (Cond.privateMethod y).before args s = true) (hinst : (Cond.instanceMethod y).before args s = true) : (Cond.selects C y y).before args s = true := by
  obtain ⟨mk, methM, hnamed, hmethM, -, -⟩ := Cond.instanceMethod_spec hinst
  have hfound : s.methodFound? y.cls y.name y.desc = some mk := State.methodFound?_of_named hnamed hy
  simp only [Cond.before, Cond.holds, Cond.value] at h0 ⊢
  cases hc : s.vm.findClass C with
  | none => simp [hc] at h0
  | some c =>
    rw [hc] at h0
    cases hr : s.methodFound? x0.cls x0.name x0.desc with
    | none => simp [hr] at h0
    | some r0 =>
      rw [hr] at h0
      cases hn : s.methodNamed? y0 with
      | none => simp [hn] at h0
      | some m0 =>
        rw [hn] at h0
        have hsel : selectMethod {} s.vm c mk = .method mk := selectMethod_private hmethM (Cond.privateMethod_at hpriv mk methM hnamed hmethM)
        have e : m0.cls = mk.cls := Option.some.inj ((findClass_of_methodNamed hn).symm.trans (by rw [hcl]; exact findClass_of_methodNamed hnamed))
        simp only [hfound, hnamed, hsel]
        simp only [beq_iff_eq, Option.some.injEq] at h0 ⊢
        split at h0
        · rw [e] at h0
          simp only [Bool.and_eq_true] at h0
          simp [h0.2]
        · cases h0
theorem exw_ok {args : Array Value} {s : State} (h : ∀ w ∈ lw_tbl, w.before args s = true) : ∀ w ∈ TB, w.before args s = true := by
  intro w hw
  have hw2 : w ∈ TU := (List.mem_filter.mp hw).1
  unfold TU at hw2
  rcases List.mem_append.mp hw2 with q | q
  · exact h w q
  · have hp : ∀ (i : Nat) (w : Cond), lw_tbl[i]? = some w → w.before args s = true := fun i w hi => h w (List.mem_of_getElem? hi)
    unfold exw at q
    simp only [List.mem_cons, List.not_mem_nil, or_false] at q
    rcases q with rfl | rfl | rfl | rfl
    · exact sel_priv (y := yX5_firstBest) (y0 := yX5_workOut) (C := RX4) (x0 := ⟨RX4, "workOut", "(II)V"⟩) (by decide +kernel) (hp 557 _ (by decide +kernel)) (by decide +kernel) (hp 569 _ (by decide +kernel)) (hp 570 _ (by decide +kernel))
    · exact sel_priv (y := yX5_sumWith) (y0 := yX5_workOut) (C := RX4) (x0 := ⟨RX4, "workOut", "(II)V"⟩) (by decide +kernel) (hp 557 _ (by decide +kernel)) (by decide +kernel) (hp 574 _ (by decide +kernel)) (hp 575 _ (by decide +kernel))
    · exact sel_priv (y := yX5_firstBest) (y0 := yX5_workOut) (C := RX7) (x0 := ⟨RX7, "workOut", "(II)V"⟩) (by decide +kernel) (hp 609 _ (by decide +kernel)) (by decide +kernel) (hp 569 _ (by decide +kernel)) (hp 570 _ (by decide +kernel))
    · exact sel_priv (y := yX5_sumWith) (y0 := yX5_workOut) (C := RX7) (x0 := ⟨RX7, "workOut", "(II)V"⟩) (by decide +kernel) (hp 609 _ (by decide +kernel)) (by decide +kernel) (hp 574 _ (by decide +kernel)) (hp 575 _ (by decide +kernel))
