/-! returns, calls, making of cells -/
theorem sz_eq {g : GC} {σ : Sto} {H : Heap} {locs : List Loc} {p : Program} {e : Env} {R : Room} {s T : State} {m : MethodId} {args : Array Value} {below : List Frame} {meth : Method} {c : Code} {k w : Nat} (hE : EnvG g s) (hW : World g σ H) (hz : s.heap.size + k = gz g + σ.1.length) (hS : va_S (AA g) s.heap H locs) (hT : T.heap = H) (X : Stand p (gL g) e R s m args below meth c T locs k w) : H.size = gz g + σ.1.length := by
  have hup : T.heap.size ≤ s.heap.size + k := X.same.2.2.1
  rw [hT] at hup
  have hE2 := hE.2.1
  have hlo : gz g + σ.1.length ≤ H.size := by
    cases hl : σ.1.length with
    | zero => have := hS.1; omega
    | succ n =>
      have hn : n < σ.1.length := by omega
      have h1 : (wl g σ)[n]? = some (gz g + n, ce g σ.2.1 σ.2.2 (n + 5) σ.1[n]) := by
        unfold wl
        rw [List.getElem?_mapIdx, List.getElem?_eq_getElem hn]
        rfl
      have := (hW n _ h1).lt
      have h2 : gz g + n < H.size := this
      omega
  omega
def rsN {α : Type} (f : Nat → Nat → α) (h : Nat) (z : α) : Nat → Nat → α := rs2 f h (fun _ => z)
theorem wl_push {g : GC} {σ : Sto} {mi : Nat → Nat → Int32} {ml : Nat → Nat → Int64} (q : Nat × Nat × List (Option Nat)) (hmi : ∀ x, x ≠ σ.1.length + 5 → mi x = σ.2.1 x) (hml : ∀ x, x ≠ σ.1.length + 5 → ml x = σ.2.2 x) :
    wl g (σ.1 ++ [q], mi, ml) = wl g σ ++ [(gz g + σ.1.length, ce g mi ml (σ.1.length + 5) q)] := by
  apply List.ext_getElem?
  intro i
  unfold wl
  rw [List.getElem?_mapIdx]
  by_cases h1 : i < σ.1.length
  · rw [List.getElem?_append_left h1, List.getElem?_append_left (by simp [h1]), List.getElem?_mapIdx]
    cases hi : σ.1[i]? with
    | none => rfl
    | some q0 =>
      simp only [Option.map_some]
      rw [ce_congr (hmi (i + 5) (by omega)) (hml (i + 5) (by omega))]
  · rw [List.getElem?_append_right (by omega), List.getElem?_append_right (by simp; omega)]
    simp only [List.length_mapIdx]
    by_cases h2 : i = σ.1.length
    · subst h2
      simp
    · rw [List.getElem?_eq_none (by simp; omega), List.getElem?_eq_none (by simp; omega)]
      rfl
section JC
variable {g : GC} {μ : MRec} {d K N pc : Nat} {L : List (Nat × Value)} {S : List Value} {σ : Sto} {k w : Nat} {Q : Option Value → Sto → Prop}
theorem J_ireturn {x : Int32} {ty : FieldType} (hr : μ.2.2.2 = some ty) (hn : narrow ty (.int x) = .int x) (hd : decode μ.2.1 pc = .ok (.ireturn, 1)) (hQ : Q (some (.int x)) σ) : J g μ d K N pc L [.int x] σ k w Q := by
  intro p e R s m args below meth c Z hC hR H locs ls hW hS hl hk hw
  exact hR (some (.int x)) σ H locs k w pc ls hQ ⟨⟨ty, hr, hn⟩, hd⟩ hW.1 hW.2 hS hk hw
theorem J_lreturn {x : Int64} (hr : μ.2.2.2 = some .long) (hd : decode μ.2.1 pc = .ok (.lreturn, 1)) (hQ : Q (some (.long x)) σ) : J g μ d K N pc L [.long x] σ k w Q := by
  intro p e R s m args below meth c Z hC hR H locs ls hW hS hl hk hw
  exact hR (some (.long x)) σ H locs k w pc ls hQ ⟨hr, hd⟩ hW.1 hW.2 hS hk hw
theorem J_return (hr : μ.2.2.2 = none) (hd : decode μ.2.1 pc = .ok (.return_, 1)) (hQ : Q none σ) : J g μ d K N pc L [] σ k w Q := by
  intro p e R s m args below meth c Z hC hR H locs ls hW hS hl hk hw
  exact hR none σ H locs k w pc ls hQ ⟨hr, hd⟩ hW.1 hW.2 hS hk hw
/-- a contract out of a walk of the body -/
theorem JC.of {as : List Value} (hy : plainName μ.1.cls = true) (hLn : (lg_sl as).length ≤ μ.2.2.1) (hJ : J g μ d K N 0 (lv_args 0 as) [] σ 0 0 Q) : JC g μ d K N as σ Q := by
  refine Met.ofW (cc := μ.2.1) (maxL := μ.2.2.1) (ret := μ.2.2.2) hy rfl ?_
  intro p e s m args below meth c s₁ B hml hv
  obtain ⟨hargs, ⟨hW, hz⟩, hE⟩ := hv
  have hts : ∀ w ∈ TB, w.before args s = true := fun w hw => atoms_spec (ws := wsOf μ) B.pre w (List.mem_cons_of_mem _ hw)
  have hcats : ∀ (l : List Value), (lg_sl (l.map (rv g))).length = (lg_sl l).length := by
    intro l
    induction l with
    | nil => rfl
    | cons v r ih =>
      simp only [lg_sl, List.map_cons, List.flatMap_cons, List.length_append, rv_cat] at ih ⊢
      rw [ih]
      congr 1
      split <;> rfl
  have hlva : ∀ (l : List Value) (i : Nat), lv_args i (l.map (rv g)) = lvm g (lv_args i l) := by
    intro l
    induction l with
    | nil => intro i; rfl
    | cons v r ih =>
      intro i
      simp only [List.map_cons, lv_args, rv_cat, ih]
      rfl
  have hl := lv_entry (as.map (rv g)) (n := μ.2.2.1) (by rw [hcats]; exact hLn)
  rw [hlva] at hl
  subst hargs
  rw [lg_entry_eq]
  have hC : CX g μ d K N p (headSpec (wsOf μ) (rmOf d K N)).room s m (as.map (rv g)).toArray meth c := ⟨B.exec, B.bytes, hml, findClass_of_methodNamed B.named, hts, B.returns, B.notSynchronized, (fun h => (name_of_methodNamed B.named B.method).1.trans h), hE, Nat.le_refl _, Nat.le_refl _, Nat.le_refl _, Nat.le_refl _⟩
  refine hJ p e _ s m _ below meth c _ hC ?_ s.heap [] _ ⟨hW, hz⟩ va_S.rf hl (Nat.zero_le _) (Nat.zero_le _)
  intro v σ' H' locs' k' w' pc' ls' hQ hok hW' hz' hS' hk' hw'
  refine W.widen (k := K) (n := N) hk' hw' ?_
  have hend : ∀ t : State, t.heap = H' → QcG g Q (as.map (rv g)).toArray s (.returned (v.map (rv g))) t := fun t ht => ⟨⟨v, σ', rfl, hQ, by rw [ht]; exact hW'⟩, hS'.F ht⟩
  cases v with
  | none => exact W.vret B.exec B.bytes (B.returns.trans hok.1) (fun t ht _ => hend t ht) hS'.2.2 hok.2
  | some v =>
    cases v with
    | int x =>
      obtain ⟨⟨ty, h1, h2⟩, h3⟩ := hok
      exact W.zret B.exec B.bytes (B.returns.trans h1) h2 (fun t ht _ => hend t ht) hS'.2.2 h3
    | long x => exact W.lret B.exec B.bytes (B.returns.trans hok.1) (fun t ht _ => hend t ht) hS'.2.2 hok.2
    | _ => exact hok.elim
/-- behind a call -/
theorem callG {p : Program} {e : Env} {R : Room} {s : State} {m : MethodId} {args : Array Value} {below : List Frame} {meth : Method} {c : Code} {Z : State → Prop} {H : Heap} {locs : List Loc} {ls : Array Slot} {st0 rest : List Value} {K' N' : Nat} {Q1 : Option Value → Sto → Prop} {a : Array Value}
    (hr : va_Run p (gL g) e R s m args below meth c H locs k w K' N' (F0 m pc ls st0) rest (QcG g Q1 a) (AA g)) (hS : va_S (AA g) s.heap H locs)
    (kk : ∀ (v : Option Value) (σ1 : Sto) (H1 : Heap) (locs1 : List Loc), Q1 v σ1 → World g σ1 H1 → va_S (AA g) s.heap H1 locs1 → W p (gL g) e R s m args below meth c H1 locs1 (k + K') (w + N') Z (F0 m (pc + 3) ls ((v.map (rv g)).toList ++ rest))) : W p (gL g) e R s m args below meth c H locs k w Z (F0 m pc ls st0) := by
  intro T hT X
  obtain ⟨v, st₀, t, T', L0, h0, X', hL, e1, e2, ⟨⟨v', σ', hv, hq, hw⟩, hz, hk⟩, st⟩ := hr T hT X
  cases hv
  rw [h0] at hz hk
  obtain ⟨t2, a1, b1⟩ := kk v' σ' T'.heap (locs ++ L0) hq (by rw [e1]; exact hw)
    ⟨Nat.le_trans hS.1 (by rw [e1]; exact hz), fun q h1 h2 => by rw [e1, hk q (Nat.lt_of_lt_of_le h1 hS.1) h2]; exact hS.2.1 q h1 h2, fun q hq => by
      rcases List.mem_append.mp hq with h | h
      · exact hS.2.2 q h
      · exact hL q h⟩ T' rfl X'
  exact ⟨t2, st t2 a1, b1⟩
theorem rv_toList (g : GC) (v : Option Value) (S : List Value) : (v.map (rv g)).toList ++ S.map (rv g) = (v.toList ++ S).map (rv g) := by cases v <;> simp
/-- what the tables hold for a call -/
def LKV (own : String) (idx : Nat) (C : String) (ν : MRec) (n : Nat) : Prop := GoodIn TB (wsV own idx C ν.1 (wsOf ν)) ∧ (ν.1.cls = C ∧ ν.1.cls ≠ "java/lang/invoke/MethodHandle" ∧ ν.1.cls ≠ "java/lang/invoke/VarHandle" ∧ (parseMethodDescriptor ν.1.desc).map (fun d => d.parameters.length) = some n) ∧ ν.2.2.1 ≤ 21
def LKS (own : String) (idx : Nat) (ν : MRec) (n : Nat) : Prop := GoodIn TB (va_wsS own idx ν.1 (wsOf ν)) ∧ (ν.1.cls ≠ "java/lang/invoke/MethodHandle" ∧ ν.1.cls ≠ "java/lang/invoke/VarHandle" ∧ (parseMethodDescriptor ν.1.desc).map (fun d => d.parameters.length) = some n) ∧ ν.2.2.1 ≤ 21
def LKU (own : String) (idx : Nat) (C owner : String) (x : MethodName) (ν : MRec) (n : Nat) : Prop := GoodIn TB (va_wsU own idx C owner x ν.1 (wsOf ν)) ∧ ν.1 = ⟨owner, x.name, x.desc⟩ ∧ (owner ≠ "java/lang/invoke/MethodHandle" ∧ owner ≠ "java/lang/invoke/VarHandle" ∧ (parseMethodDescriptor x.desc).map (fun d => d.parameters.length) = some n) ∧ ν.2.2.1 ≤ 21
theorem pre_env {as : List Value} {s : State} {H : Heap} {locs : List Loc} (hE : EnvG g s) (hW : World g σ H) (hz : H.size = gz g + σ.1.length) (hS : va_S (AA g) s.heap H locs) : ∀ U : State, U.heap = H → s.WarmedH U.vm → PcG g as σ (as.map (rv g)).toArray U := by
  intro U hU hWm
  refine ⟨rfl, ⟨by rw [hU]; exact hW, by rw [hU]; exact hz⟩, ?_⟩
  exact hE.to (locs := locs) (by rw [hU]; exact hS) hWm
theorem J_callV {idx h ci n0 n d' K' N' : Nat} {C : String} {T : u_T} {nf : Nat} {rs : List (Option Nat)} {As St : List Value} {ν : MRec} {Q1 : Option Value → Sto → Prop} (hlk : LKV μ.1.cls idx C ν n) (hvw : vwCl[ci]? = some (C, T, nf)) (hci : ci < 9) (hd : decode μ.2.1 pc = .ok (.invokevirtual idx, 3)) (hc : cel σ h = some (ci, n0, rs)) (hM : JC g ν d' K' N' (.ref h :: As) σ Q1) (hdd : d' + 1 ≤ d) (hn : As.length = n)
    (hst : St = As.reverse ++ .ref h :: S) (hS8 : (S.map fun v => v.category).sum ≤ 8) (hK : k + K' ≤ K) (hN : w + N' ≤ N) (hlen : ∀ v σ1, Q1 v σ1 → σ1.1.length = σ.1.length + K') (kk : ∀ v σ1, Q1 v σ1 → J g μ d K N (pc + 3) L (v.toList ++ S) σ1 (k + K') (w + N') Q) : J g μ d K N pc L St σ k w Q := by
  intro p e R s m args below meth c Z hC hR H locs ls hW hS hl hk hw
  intro T0 hT0 X0
  have hE := hC.2.2.2.2.2.2.2.2.1
  have hsz := sz_eq hE hW.1 hW.2 hS hT0 X0
  obtain ⟨b1, b2, b3, b4⟩ := hC.2.2.2.2.2.2.2.2.2
  have hat := wl_at (g := g) hc
  rw [ce_obj hci] at hat
  have hgoal : W p (gL g) e R s m args below meth c H locs k w Z (F0 m pc ls (St.map (rv g))) := by
    refine callG (va_runV (As := As.map (rv g)) (rest := S.map (rv g)) (b := ad g h) ⟨hC.1, hC.2.1, hC.2.2.1, hC.2.2.2.1, hC.2.2.2.2.1⟩ hM (cwV n hC.2.2.2.2.1 hlk.1 rfl rfl rfl hlk.2.1 ⟨?_, ?_⟩) ⟨PcG.blind, va_recv hE.1 hW.1 hvw hat, pre_env hE hW.1 hsz hS⟩ rfl (by rw [List.length_map]; exact hn) hl.1 ?_ (lv_room (by rw [rv_cats]; exact hS8)) hd ⟨by omega, by omega⟩) hS (fun v σ1 H1 locs1 hQ hW1 hS1 => ?_)
    · show d' + 1 + 1 ≤ R.frames
      omega
    · have := hlk.2.2
      show 8 + (ν.2.2.1 + 11) + 40 * (d' + 1) ≤ R.locals
      omega
    · subst hst
      show ((As.reverse ++ Value.ref h :: S).map (rv g)) = (As.map (rv g)).reverse ++ .ref (ad g h) :: S.map (rv g)
      rw [List.map_append, List.map_reverse, List.map_cons]
      rfl
    · rw [rv_toList]
      have hl1 := hlen v σ1 hQ
      exact kk v σ1 hQ p e R s m args below meth c Z hC hR H1 locs1 ls ⟨hW1, by have := hW.2; omega⟩ hS1 hl hK hN
  exact hgoal T0 hT0 X0
end JC
