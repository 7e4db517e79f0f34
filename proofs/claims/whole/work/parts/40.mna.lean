def rsR {α : Type} (f : Nat → Nat → α) (a b : Nat) (z : α) : Nat → Nat → α := fun h => if a ≤ h ∧ h < b then (fun _ => z) else f h
theorem mna_outer (c : ClassId) (N h0 : Nat) : ∀ i : Nat, Jvm.Free.Multi.outerC c N h0 i = arrV c N (fun j => va_rf (if j < i then some (h0 + 1 + j) else none))
  | 0 => by
    show ({ cls := c, slots := Array.replicate N .null, vm := .none } : Cell) = _
    rw [arrV_new]
    refine congrArg (arrV c N) (funext fun j => ?_)
    simp [va_rf]
  | i + 1 => by
    show (Jvm.Free.Multi.outerC c N h0 i).setSlot i (.ref (h0 + 1 + i)) = _
    rw [mna_outer c N h0 i, arrV_store]
    refine congrArg (arrV c N) (funext fun j => ?_)
    by_cases e : j = i
    · subst e
      simp [updV, va_rf]
    · by_cases h : j < i
      · simp [updV, e, h, Nat.lt_succ_of_lt h]
      · simp [updV, e, h, show ¬ j < i + 1 by omega]
section MNA
variable {g : GC} {μ : MRec} {d K N pc : Nat} {L : List (Nat × Value)} {S : List Value} {σ : Sto} {k w : Nat} {Q : Option Value → Sto → Prop}
theorem J_mna {idx : Nat} {n k0 : Int32} {n0 m0 : Nat} (hw0 : Cond.classLink μ.1.cls idx "[[I" ∈ TB) (hn : ¬ n < 0) (hk0 : ¬ k0 < 0) (en : n.toNatClampNeg = n0) (em : k0.toNatClampNeg = m0) (hb : n0 ≤ 100) (hb2 : m0 ≤ 100) (hd : decode μ.2.1 pc = .ok (.multianewarray idx 2, 4)) (hK : k + 1 + n0 ≤ K) (hN : w + n0 + n0 * m0 ≤ N)
    (kk : J g μ d K N (pc + 4) L (.ref (σ.1.length + 5) :: S) (σ.1 ++ ((102, n0, (List.range n0).map (fun i => some (σ.1.length + 6 + i))) :: List.replicate n0 (100, m0, [])), rsR σ.2.1 (σ.1.length + 5) (σ.1.length + 6 + n0) 0, rsR σ.2.2 (σ.1.length + 5) (σ.1.length + 6 + n0) 0) (k + 1 + n0) (w + n0 + n0 * m0) Q) : J g μ d K N pc L (.int k0 :: .int n :: S) σ k w Q := by
  intro p e R s m args below meth c Z hC hR H locs ls hW hS hl hk hw
  intro T0 hT0 X0
  have hE := hC.2.2.2.2.2.2.2.2.1
  have hsz := sz_eq hE hW.1 hW.2 hS hT0 X0
  obtain ⟨b1, b2, b3, b4⟩ := hC.2.2.2.2.2.2.2.2.2
  have hts := hC.2.2.2.2.1
  have hA0 : s.vm.findClass ("[" ++ FieldType.int.toString) = some (gA g 100) := (hE.1.2 0 _ rfl).2
  have hA2 : s.vm.findClass ("[" ++ (FieldType.array .int).toString) = some (gA g 102) := (hE.1.2 2 _ rfl).2
  subst en
  subst em
  have hgoal : W p (gL g) e R s m args below meth c H locs k w Z (F0 m pc ls ((.int k0 :: .int n :: S).map (rv g))) := by
    intro T hT Xs
    obtain ⟨vm₁, cA, comp, -, fA, fC, hO, -, X', step⟩ := Xs.multianewarray2F (ty := .int) hC.1 hC.2.2.2.1 (hts _ hw0) (show (Cond.arrayOver (.array .int)).before args s = true from hE.2.2.2.2.2.2.2.2.1) (hts (.arrayClass .int) (tb 157 (by decide +kernel))) (g := F0 m pc ls ((.int k0 :: .int n :: S).map (rv g))) rfl (by rw [hC.2.1]; exact hd) rfl hn hk0 (by omega) (by show k0.toNatClampNeg * 4 ≤ 536870912; omega) (by omega) rfl rfl (by omega) (by omega)
    have ecA : cA = gA g 102 := Option.some.inj (fA.symm.trans hA2)
    have ecC : comp = gA g 100 := Option.some.inj (fC.symm.trans hA0)
    subst ecA
    subst ecC
    generalize hF : Jvm.Free.Multi.fill (T.setVm vm₁) (gA g 102) (gA g 100) n.toNatClampNeg k0.toNatClampNeg (defaultValue .int) n.toNatClampNeg = F at X' step
    have hTh : (T.setVm vm₁).heap = H := hT
    obtain ⟨f1, f2, -, -⟩ := Jvm.Free.Multi.fill_facts (T.setVm vm₁) (gA g 102) (gA g 100) n.toNatClampNeg k0.toNatClampNeg (defaultValue .int) n.toNatClampNeg
    rw [hF, hTh] at f1 f2
    have hold : ∀ x : Nat, x < H.size → F.heap[x]? = H[x]? := fun x hx => by
      have := Jvm.Free.Multi.fill_old (T.setVm vm₁) (gA g 102) (gA g 100) n.toNatClampNeg k0.toNatClampNeg (defaultValue .int) (a := x) (by rw [hTh]; exact hx) n.toNatClampNeg
      rw [hF, hTh] at this
      exact this
    have hrow : ∀ j : Nat, j < n.toNatClampNeg → F.heap[H.size + 1 + j]? = some (vp_cell (gA g 100) (k0.toNatClampNeg, .inl (fun _ => 0))) := fun j hj => by
      have := Jvm.Free.Multi.fill_inner (T.setVm vm₁) (gA g 102) (gA g 100) n.toNatClampNeg k0.toNatClampNeg (defaultValue .int) n.toNatClampNeg j hj
      rw [hF, hTh] at this
      rw [this, vp_cell_i]
      exact congrArg some (arrV_new _ _ _)
    rw [mna_outer] at f2
    have hadr : ad g (σ.1.length + 5) = H.size := by unfold ad; rw [if_neg (by omega)]; omega
    have hkeep : ∀ (j : Nat) (x : Nat × va_E), (wl g σ)[j]? = some x → F.heap[x.1]? = H[x.1]? := fun j x hx => hold x.1 (hW.1 j x hx).lt
    have := kk p e R s m args below meth c Z hC hR F.heap locs ls ⟨?_, ?_⟩ ?_ hl hK hN
    · rw [show ((Value.ref (σ.1.length + 5) :: S).map (rv g)) = .ref H.size :: S.map (rv g) by rw [← hadr]; rfl] at this
      obtain ⟨t, a1, b1⟩ := this F rfl X'
      refine ⟨t, step t ?_, b1⟩
      have e : T.heap.size = H.size := by rw [hT]
      rw [e]
      exact a1
    · intro j x hx
      unfold wl at hx
      rw [List.getElem?_mapIdx] at hx
      by_cases h1 : j < σ.1.length
      · rw [List.getElem?_append_left h1] at hx
        cases hq : σ.1[j]? with
        | none => rw [hq] at hx; cases hx
        | some q0 =>
          rw [hq] at hx
          simp only [Option.map_some, Option.some.injEq] at hx
          have hmi : rsR σ.2.1 (σ.1.length + 5) (σ.1.length + 6 + n.toNatClampNeg) 0 (j + 5) = σ.2.1 (j + 5) := if_neg (by omega)
          have hml : rsR σ.2.2 (σ.1.length + 5) (σ.1.length + 6 + n.toNatClampNeg) 0 (j + 5) = σ.2.2 (j + 5) := if_neg (by omega)
          rw [ce_congr hmi hml] at hx
          have h9 : (wl g σ)[j]? = some x := by
            unfold wl
            rw [List.getElem?_mapIdx, hq, ← hx]
            rfl
          exact (hW.1 j x h9).kept (hkeep j x h9)
      · rw [List.getElem?_append_right (by omega)] at hx
        cases hj : j - σ.1.length with
        | zero =>
          rw [hj] at hx
          simp only [List.getElem?_cons_zero, Option.map_some, Option.some.injEq] at hx
          rw [← hx, ce_102]
          show F.heap[gz g + j]? = some (vp_cell _ _)
          rw [show gz g + j = H.size by omega, f2, vp_cell_q]
          congr 1
          refine congrArg (arrV _ _) (funext fun i => ?_)
          by_cases hi : i < n.toNatClampNeg
          · rw [if_pos hi]
            have e9 : ((List.range n.toNatClampNeg).map (fun i => some (σ.1.length + 6 + i))).getD i none = some (σ.1.length + 6 + i) := by
              simp [List.getD, List.getElem?_map, List.getElem?_range hi]
            rw [e9]
            have e8 : ad g (σ.1.length + 6 + i) = H.size + 1 + i := by unfold ad; rw [if_neg (by omega)]; omega
            rw [Option.map_some, e8]
          · rw [if_neg hi]
            have e9 : ((List.range n.toNatClampNeg).map (fun i => some (σ.1.length + 6 + i))).getD i none = none := by
              simp [List.getD, List.getElem?_map, List.getElem?_eq_none (l := List.range n.toNatClampNeg) (i := i) (by rw [List.length_range]; omega)]
            rw [e9]
            rfl
        | succ i =>
          rw [hj] at hx
          simp only [List.getElem?_cons_succ] at hx
          by_cases hi : i < n.toNatClampNeg
          · rw [List.getElem?_replicate, if_pos hi] at hx
            simp only [Option.map_some, Option.some.injEq] at hx
            rw [← hx, ce_int]
            show F.heap[gz g + j]? = some (vp_cell _ _)
            rw [show gz g + j = H.size + 1 + i by omega, hrow i hi, show rsR σ.2.1 (σ.1.length + 5) (σ.1.length + 6 + n.toNatClampNeg) 0 (j + 5) = fun _ => (0 : Int32) from if_pos (by omega)]
          · rw [List.getElem?_replicate, if_neg hi] at hx
            cases hx
    · simp only [List.length_append, List.length_cons, List.length_replicate]
      have := hW.2
      omega
    · refine ⟨by rw [f1]; have := hS.1; omega, fun x h1 h2 => (hold x (Nat.lt_of_lt_of_le h1 hS.1)).trans (hS.2.1 x h1 h2), hS.2.2⟩
  exact hgoal T0 hT0 X0
end MNA
