/-! THE CLAIM OUT OF ONE WALK OF THE LAW'S BODY. Your part is whole_start (and what it stands on); all else here is the same for every law, but numbers. -/
def R_law : String := "WithOneHandLaw"
def lw_P (b : Addr) (xs : List Int32) (args : Array Value) (s : State) : Prop := args = #[.ref b] ∧ s.IntsAt b xs ∧ xs.length ≤ 3072 ∧ (Jvm.Cond.and given_1 narrow_1).before args s = true
def lw_Q (_ : Array Value) (s : State) (o : Outcome) (t : State) : Prop := o = .returned (some (.int 1)) ∧ Framed s o t [] 600000 7302250
def lw_Z (below : List Frame) (a : Array Value) (s : State) : State → Prop := fun t => ∃ o, t.status = .running ∧ Ended t below o ∧ lw_Q a s o t
/-- the law's own end, with 1 on the stack, nothing written that was there before, its room as the claim has it -/
theorem lw_ret {p : Program} {l : Launch} {e : Env} {s : State} {m : MethodId} {below : List Frame} {meth : Method} {c : Code} {b : Nat} (hx : p.tables.exec = Jvm.exec) (hb : c.code = code) (hr : meth.sig.returnType = ret) (hlocks : meth.locks = false) {pc : Nat} {H : Heap} {ls : Array Slot} (hdg : decode code pc = .ok (.ireturn, 1)) : W p l e room_1 s m #[Value.ref b] below meth c H [] 600000 7302250 (lw_Z below #[Value.ref b] s) (F0 m pc ls [.int 1]) := by
  intro T hT X
  obtain ⟨fs, hret, hrun, hended, hW, hframe⟩ := X.leave (v := some (.int 1)) (hlocks := hlocks) (fun h => by rw [hr] at h; cases h)
  have hmeth' : T.vm.method? m = some meth := X.method'
  refine ⟨T.setFrames fs, ?_, .returned (some (.int 1)), hrun, hended, rfl, ⟨_, rfl⟩, hW, hframe⟩
  jvm_step X.here [X.here.top, hx, hb, hdg, hmeth', hr, ret, narrow_b1]
  (try refine ⟨rfl, ?_⟩); (try refine ⟨rfl, ?_⟩)
  first | (intro acts; rw [hret _ acts rfl rfl rfl]) | rw [hret _ _ rfl rfl rfl]
  exact Steps.refl _
/-- what holds at the law's entry: the machine, the code, the tables' words (any of lw_tbl by 'hts w (by decide +kernel)'), the script of L ints xs at the cell b, what the Statement gives of the start (any of its parts by flat_of_before) -/
def lw_At (p : Program) (s : State) (m : MethodId) (meth : Method) (c : Code) (b L : Nat) (xs : Nat → Int32) : Prop :=
  p.tables.exec = Jvm.exec ∧ c.code = code ∧ meth.sig.returnType = ret ∧ c.maxLocals = 4 ∧ s.vm.findClass R_law = some m.cls ∧ (∀ w ∈ lw_tbl, w.before #[Value.ref b] s = true) ∧ va_X b L xs s s.heap ∧ b < s.heap.size ∧ meth.locks = false ∧ (Jvm.Cond.and given_1 narrow_1).before #[Value.ref b] s = true
theorem cls_all : ∀ (c : Nat) (q : vw_C), vwCl[c]? = some q → c < 9 := fun c q h => (List.getElem?_eq_some_iff.mp h).1
theorem st_0 {args : Array Value} {s : State} {A : Nat → Prop} (hts : ∀ w ∈ lw_tbl, w.before args s = true) (hg : (Jvm.Cond.and given_1 narrow_1).before args s = true) (hA : ∀ a : Nat, a < s.heap.size → ¬ A a) : ∃ t : Nat, va_Z "WithOneHand" "LEAST" "[I" (.ref t) A s s.heap ∧ va_T .int t 13 (fun i => .int ((SA 0).getD i 0)) A s s.heap := by
  have hs := flat_of_before _ hg
  have hel : ∀ j : Nat, j < 13 → Cond.eq (.elem (.static "WithOneHand" "LEAST" "[I") (.int (Int32.ofNat j))) (.int ((SA 0).getD j 0)) ∈ flatC (Jvm.Cond.and given_1 narrow_1) := by decide +kernel
  obtain ⟨t, h1, h2⟩ := va_Tof (tm := .static "WithOneHand" "LEAST" "[I") (ty := .int) (N := 13) (f := fun i => .int ((SA 0).getD i 0)) (A := A) (by decide) (hs _ (by decide +kernel)) (va_eqt (hs (Cond.eq (.length (.static "WithOneHand" "LEAST" "[I")) (.int 13)) (by decide +kernel))) (fun j hj => va_eqt (hs _ (hel j hj))) hA
  exact ⟨t, va_Zref (hts (.laysStatic "WithOneHand" "LEAST" "[I") (List.mem_of_getElem? (i := 364) (by decide +kernel))) (hts (.initialized "WithOneHand") (List.mem_of_getElem? (i := 102) (by decide +kernel))) h1 hA, h2⟩
theorem st_1 {args : Array Value} {s : State} {A : Nat → Prop} (hts : ∀ w ∈ lw_tbl, w.before args s = true) (hg : (Jvm.Cond.and given_1 narrow_1).before args s = true) (hA : ∀ a : Nat, a < s.heap.size → ¬ A a) : ∃ t : Nat, va_Z "WithOneHand" "MOST" "[I" (.ref t) A s s.heap ∧ va_T .int t 13 (fun i => .int ((SA 1).getD i 0)) A s s.heap := by
  have hs := flat_of_before _ hg
  have hel : ∀ j : Nat, j < 13 → Cond.eq (.elem (.static "WithOneHand" "MOST" "[I") (.int (Int32.ofNat j))) (.int ((SA 1).getD j 0)) ∈ flatC (Jvm.Cond.and given_1 narrow_1) := by decide +kernel
  obtain ⟨t, h1, h2⟩ := va_Tof (tm := .static "WithOneHand" "MOST" "[I") (ty := .int) (N := 13) (f := fun i => .int ((SA 1).getD i 0)) (A := A) (by decide) (hs _ (by decide +kernel)) (va_eqt (hs (Cond.eq (.length (.static "WithOneHand" "MOST" "[I")) (.int 13)) (by decide +kernel))) (fun j hj => va_eqt (hs _ (hel j hj))) hA
  exact ⟨t, va_Zref (hts (.laysStatic "WithOneHand" "MOST" "[I") (List.mem_of_getElem? (i := 366) (by decide +kernel))) (hts (.initialized "WithOneHand") (List.mem_of_getElem? (i := 102) (by decide +kernel))) h1 hA, h2⟩
theorem st_2 {args : Array Value} {s : State} {A : Nat → Prop} (hts : ∀ w ∈ lw_tbl, w.before args s = true) (hg : (Jvm.Cond.and given_1 narrow_1).before args s = true) (hA : ∀ a : Nat, a < s.heap.size → ¬ A a) : ∃ t : Nat, va_Z "WithOneHand$Holes" "ABOVE" "[I" (.ref t) A s s.heap ∧ va_T .int t 8 (fun i => .int ((SA 2).getD i 0)) A s s.heap := by
  have hs := flat_of_before _ hg
  have hel : ∀ j : Nat, j < 8 → Cond.eq (.elem (.static "WithOneHand$Holes" "ABOVE" "[I") (.int (Int32.ofNat j))) (.int ((SA 2).getD j 0)) ∈ flatC (Jvm.Cond.and given_1 narrow_1) := by decide +kernel
  obtain ⟨t, h1, h2⟩ := va_Tof (tm := .static "WithOneHand$Holes" "ABOVE" "[I") (ty := .int) (N := 8) (f := fun i => .int ((SA 2).getD i 0)) (A := A) (by decide) (hs _ (by decide +kernel)) (va_eqt (hs (Cond.eq (.length (.static "WithOneHand$Holes" "ABOVE" "[I")) (.int 8)) (by decide +kernel))) (fun j hj => va_eqt (hs _ (hel j hj))) hA
  exact ⟨t, va_Zref (hts (.laysStatic "WithOneHand$Holes" "ABOVE" "[I") (List.mem_of_getElem? (i := 794) (by decide +kernel))) (hts (.initialized "WithOneHand$Holes") (List.mem_of_getElem? (i := 109) (by decide +kernel))) h1 hA, h2⟩
theorem st_3 {args : Array Value} {s : State} {A : Nat → Prop} (hts : ∀ w ∈ lw_tbl, w.before args s = true) (hg : (Jvm.Cond.and given_1 narrow_1).before args s = true) (hA : ∀ a : Nat, a < s.heap.size → ¬ A a) : ∃ t : Nat, va_Z "WithOneHand$Holes" "OWN" "[I" (.ref t) A s s.heap ∧ va_T .int t 32 (fun i => .int ((SA 3).getD i 0)) A s s.heap := by
  have hs := flat_of_before _ hg
  have hel : ∀ j : Nat, j < 32 → Cond.eq (.elem (.static "WithOneHand$Holes" "OWN" "[I") (.int (Int32.ofNat j))) (.int ((SA 3).getD j 0)) ∈ flatC (Jvm.Cond.and given_1 narrow_1) := by decide +kernel
  obtain ⟨t, h1, h2⟩ := va_Tof (tm := .static "WithOneHand$Holes" "OWN" "[I") (ty := .int) (N := 32) (f := fun i => .int ((SA 3).getD i 0)) (A := A) (by decide) (hs _ (by decide +kernel)) (va_eqt (hs (Cond.eq (.length (.static "WithOneHand$Holes" "OWN" "[I")) (.int 32)) (by decide +kernel))) (fun j hj => va_eqt (hs _ (hel j hj))) hA
  exact ⟨t, va_Zref (hts (.laysStatic "WithOneHand$Holes" "OWN" "[I") (List.mem_of_getElem? (i := 813) (by decide +kernel))) (hts (.initialized "WithOneHand$Holes") (List.mem_of_getElem? (i := 109) (by decide +kernel))) h1 hA, h2⟩
theorem u_all {s : State} {args : Array Value} (hts : ∀ w ∈ TB, w.before args s = true) : ∃ D : va_G, ∀ (c : Nat) (q : vw_C), vwCl[c]? = some q → u_Kn s q.1 q.2.1 q.2.2 (D.1 c) (D.2 c) := by
  obtain ⟨c0, i0, k0⟩ := u_known (C := RX0) (T := TX0) (N := 2) (n := 2) hts cls_0.2.2.2.1 (hts _ (tb 159 (by decide +kernel)))
  obtain ⟨c1, i1, k1⟩ := u_known (C := RX1) (T := TX1) (N := 6) (n := 6) hts cls_1.2.2.2.1 (hts _ (tb 127 (by decide +kernel)))
  obtain ⟨c2, i2, k2⟩ := u_known (C := RX2) (T := TX2) (N := 5) (n := 5) hts cls_2.2.2.2.1 (hts _ (tb 221 (by decide +kernel)))
  obtain ⟨c3, i3, k3⟩ := u_known (C := RX3) (T := TX3) (N := 9) (n := 9) hts cls_3.2.2.2.1 (hts _ (tb 249 (by decide +kernel)))
  obtain ⟨c4, i4, k4⟩ := u_known (C := RX4) (T := TX4) (N := 4) (n := 4) hts cls_4.2.2.2.1 (hts _ (tb 177 (by decide +kernel)))
  obtain ⟨c5, i5, k5⟩ := u_known (C := RX6) (T := TX6) (N := 4) (n := 4) hts cls_5.2.2.2.1 (hts _ (tb 284 (by decide +kernel)))
  obtain ⟨c6, i6, k6⟩ := u_known (C := RX7) (T := TX7) (N := 5) (n := 5) hts cls_6.2.2.2.1 (hts _ (tb 206 (by decide +kernel)))
  obtain ⟨c7, i7, k7⟩ := u_known (C := RX8) (T := TX8) (N := 16) (n := 16) hts cls_7.2.2.2.1 (hts _ (tb 117 (by decide +kernel)))
  obtain ⟨c8, i8, k8⟩ := u_known (C := RX9) (T := TX9) (N := 51) (n := 51) hts cls_8.2.2.2.1 (hts _ (tb 894 (by decide +kernel)))
  refine ⟨(fun c => match c with | 0 => c0 | 1 => c1 | 2 => c2 | 3 => c3 | 4 => c4 | 5 => c5 | 6 => c6 | 7 => c7 | _ => c8, fun c => match c with | 0 => i0 | 1 => i1 | 2 => i2 | 3 => i3 | 4 => i4 | 5 => i5 | 6 => i6 | 7 => i7 | _ => i8), fun c q h => ?_⟩
  have hc := cls_all c q h
  match c, hc with
  | 0, _ => cases h; exact k0
  | 1, _ => cases h; exact k1
  | 2, _ => cases h; exact k2
  | 3, _ => cases h; exact k3
  | 4, _ => cases h; exact k4
  | 5, _ => cases h; exact k5
  | 6, _ => cases h; exact k6
  | 7, _ => cases h; exact k7
  | 8, _ => cases h; exact k8
theorem arr_all {s : State} {args : Array Value} (hts : ∀ w ∈ lw_tbl, w.before args s = true) : ∃ cA : Nat → ClassId, ∀ (k : Nat) (q : ClassId × FieldType), ([(cA 100, .int), (cA 101, .long), (cA 102, .array .int), (cA 103, .object "WithOneHand$Shelf")] : List (ClassId × FieldType))[k]? = some q → ArrOfT s q.1 q.2 ∧ va_RA s q.1 q.2 := by
  obtain ⟨cI, kI, pI, i1, i2, i3⟩ := Cond.arrayClass_spec (hts (.arrayClass .int) (List.mem_of_getElem? (i := 157) (by decide +kernel)))
  obtain ⟨cJ, kJ, pJ, j1, j2, j3⟩ := Cond.arrayClass_spec (hts (.arrayClass .long) (List.mem_of_getElem? (i := 306) (by decide +kernel)))
  obtain ⟨pA, cA, kA, a1, a2, a3, a4, a5⟩ := arrayOverA_spec (hts (.arrayOver (.array .int)) (List.mem_of_getElem? (i := 125) (by decide +kernel)))
  obtain ⟨pS, cS, kS, s1, s2, s3, s4, s5⟩ := Cond.arrayOver_spec (hts (.arrayOver (.object "WithOneHand$Shelf")) (List.mem_of_getElem? (i := 247) (by decide +kernel)))
  refine ⟨fun k => match k with | 100 => cI | 101 => cJ | 102 => cA | _ => cS, fun k q h => ?_⟩
  have hk : k < 4 := (List.getElem?_eq_some_iff.mp h).1
  match k, hk with
  | 0, _ => cases h; exact ⟨fun n z => ⟨fun k h => (by cases h), kI, i2, pI, i3⟩, i1⟩
  | 1, _ => cases h; exact ⟨fun n z => ⟨fun k h => (by cases h), kJ, j2, pJ, j3⟩, j1⟩
  | 2, _ => cases h; exact ⟨fun n z => ⟨fun k h => (by cases h), kA, a3, pA, a4⟩, a5⟩
  | 3, _ => cases h; exact ⟨fun n z => ⟨fun k h => (by cases h), kS, s3, pS, s4⟩, kS, pS, s3, s4, s1, s5⟩
theorem law_walk {g : GC} {Ns : Nat} {Xs : Nat → Int32} (hNs : gN g = Ns) (hXs : gX g = Xs) (hF : f_L_law_18 Ns Xs LF 0 x00 m00 = some true) : J g m_L_law 500 600000 7302250 0 [(0, .ref 4)] [] ([], fun _ _ => 0, fun _ _ => 0) 0 0 (fun v _ => v = some (.int 1)) := by
  refine J_new cls_7 (memb [116, 117, 102] (by decide +kernel)) (by decide +kernel) dL_law_0 (Nat.le_of_ble_eq_true rfl) (Nat.le_of_ble_eq_true rfl) ?_
  change J g m_L_law 500 600000 7302250 3 [(0, .ref 4)] [.ref 5] (Ks0, rsN (fun _ _ => 0) 5 0, rsN (fun _ _ => 0) 5 0) 1 16 _
  refine J_dup dL_law_3 rfl ?_
  refine J_callI (memb [118, 119, 102, 120] (by decide +kernel)) rfl rfl (by decide +kernel) (by decide) dL_law_4 (C1_X8_init (a := rsN (fun _ _ => 0) 5 0) (b := rsN (fun _ _ => 0) 5 0) (d := 4)) (by decide) (Nat.le_of_ble_eq_true rfl) (Nat.le_of_ble_eq_true rfl) (Nat.le_of_ble_eq_true rfl) (fun v s q => by rw [q.2]; rfl) (fun v s q => ?_)
  rw [q.1, q.2]
  change J g m_L_law 500 600000 7302250 7 [(0, .ref 4)] [.ref 5] (Ks98, MXa (fun _ _ => 0), MXb (fun _ _ => 0)) 75 1863 _
  refine J_astore_n (L' := [(1, .ref 5), (0, .ref 4)]) dL_law_7 rfl (by decide) rfl ?_
  generalize hA : MXa (fun _ _ => 0) = a
  generalize hB : MXb (fun _ _ => 0) = b
  refine J_new cls_8 (memb [893, 894, 112] (by decide +kernel)) (by decide +kernel) dL_law_8 (Nat.le_of_ble_eq_true rfl) (Nat.le_of_ble_eq_true rfl) ?_
  change J g m_L_law 500 600000 7302250 11 [(1, .ref 5), (0, .ref 4)] [.ref 80] (Ks99, rsN a 80 0, rsN b 80 0) 76 1914 _
  refine J_dup dL_law_11 rfl ?_
  refine J_callI (memb [895, 896, 112, 897] (by decide +kernel)) rfl rfl (by decide +kernel) (by decide) dL_law_12 (C18_X9_init (a := rsN a 80 0) (b := rsN b 80 0) (d := 2)) (by decide) (Nat.le_of_ble_eq_true rfl) (Nat.le_of_ble_eq_true rfl) (Nat.le_of_ble_eq_true rfl) (fun v s q => by rw [q.2]; rfl) (fun v s q => ?_)
  rw [q.1, q.2]
  change J g m_L_law 500 600000 7302250 15 [(1, .ref 5), (0, .ref 4)] [.ref 80] (Ks159, MMa a, MMb b) 106 3048 _
  refine J_astore_n (L' := [(2, .ref 80), (1, .ref 5), (0, .ref 4)]) dL_law_15 rfl (by decide) rfl ?_
  refine J_iconst (v := 0) dL_law_16 (by decide) ?_
  refine J_istore_n (L' := [(3, .int 0), (2, .ref 80), (1, .ref 5), (0, .ref 4)]) dL_law_17 rfl (by decide) rfl ?_
  refine J_sub [3, 2, 1, 0] rfl ?_
  subst hA
  subst hB
  have e0 : ((Ks159, MMa (MXa (fun _ _ => 0)), MMb (MXb (fun _ _ => 0))) : Sto) = ST x00 m00 := by
    unfold ST x00 m00
    simp only [cmb_self]
    rfl
  rw [e0]
  exact Sf_L_law_18 hNs hXs (by decide) LF 0 x00 m00 hF
theorem whole_start {p : Program} {e : Env} {s : State} {m : MethodId} {below : List Frame} {meth : Method} {c : Code} (l : Launch) (hflags : l.flags = flags0) {b L : Nat} {xs : Nat → Int32} (hL : L ≤ 3072) (C0 : lw_At p s m meth c b L xs) : W p l e room_1 s m #[Value.ref b] below meth c s.heap [] 0 0 (lw_Z below #[Value.ref b] s) (entryFrame m ([Value.ref b] : List Value).toArray 4) := by
  obtain ⟨hx, hb, hr, hml, hown, hts, hX, hbl, hlocks, hgv⟩ := C0
  have hts2 := exw_ok hts
  have hAA : ∀ a : Nat, a < s.heap.size → ¬ (fun q : Nat => s.heap.size ≤ q) a := fun a ha => Nat.not_le.mpr ha
  obtain ⟨D, hD⟩ := u_all hts2
  obtain ⟨cA, hcA⟩ := arr_all hts
  obtain ⟨t0, z0, y0⟩ := st_0 hts hgv hAA
  obtain ⟨t1, z1, y1⟩ := st_1 hts hgv hAA
  obtain ⟨t2, z2, y2⟩ := st_2 hts hgv hAA
  obtain ⟨t3, z3, y3⟩ := st_3 hts hgv hAA
  generalize hgd : ((l, D, cA, (fun j => match j with | 0 => t0 | 1 => t1 | 2 => t2 | 3 => t3 | _ => b), s.heap.size, L, xs) : GC) = g
  have hnest : ∀ q ∈ nestL, (Cond.methodLinkNest q.1 q.2.1 q.2.2.1 q.2.2.2) ∈ lw_tbl := by decide +kernel
  have hE : EnvG g s := by
    subst hgd
    refine ⟨⟨hD, hcA⟩, Nat.le_refl _, fun j hj => ?_, fun j hj => ?_, hX, hbl, fun q hq => va_Nw.of rfl (hts _ (hnest q hq)), va_AO.of (hts (.arrayOver (.object "WithOneHand$Shelf")) (List.mem_of_getElem? (i := 247) (by decide +kernel))), hts (.arrayOver (.array .int)) (List.mem_of_getElem? (i := 125) (by decide +kernel)), va_Nw.of rfl (hts (.declares dcl) (List.mem_of_getElem? (i := 578) (by decide +kernel)))⟩
    · match j, hj with
      | 0, _ => exact z0
      | 1, _ => exact z1
      | 2, _ => exact z2
      | 3, _ => exact z3
    · match j, hj with
      | 0, _ => exact y0
      | 1, _ => exact y1
      | 2, _ => exact y2
      | 3, _ => exact y3
  have hgz : gz g = s.heap.size := by subst hgd; rfl
  have hgl : gL g = l := by subst hgd; rfl
  have hgN : gN g = L := by subst hgd; rfl
  have hgX : gX g = xs := by subst hgd; rfl
  have hg4 : gS g 4 = b := by subst hgd; rfl
  have hC : CX g m_L_law 500 600000 7302250 p room_1 s m #[Value.ref b] meth c := ⟨hx, hb, hml, hown, hts2, hr, hlocks, fun h => absurd h (by decide), hE, by decide, by decide, Nat.le_refl _, Nat.le_refl _⟩
  have hJ := law_walk (g := g) hgN hgX (pure_law L xs hL)
  have hl := lv_entry ([Value.ref b] : List Value) (n := 4) (Nat.le_of_ble_eq_true rfl)
  rw [lg_entry_eq]
  have hRC : RCl g m_L_law 600000 7302250 (fun v _ => v = some (.int 1)) p e room_1 s m #[Value.ref b] below meth c (lw_Z below #[Value.ref b] s) := by
    intro v σ' H' locs' k' w' pc' ls' hQ hok hW' hz' hS' hk' hw'
    subst hQ
    rw [hgl]
    refine va_forget (fun q hq => ?_) ?_
    · have := hS'.2.2 q hq
      unfold AA at this
      rw [hgz] at this
      exact this
    · refine W.widen hk' hw' ?_
      exact lw_ret hx hb hr hlocks hok.2
  have := hJ p e room_1 s m #[Value.ref b] below meth c (lw_Z below #[Value.ref b] s) hC hRC s.heap [] _ ⟨(fun k q h => by cases h), (by rw [hgz]; rfl)⟩ va_S.rf (by
    have e4 : lvm g [(0, Value.ref 4)] = lv_args 0 [Value.ref b] := by
      show [(0, Value.ref (ad g 4))] = _
      rw [ad_lt (by decide), hg4]
      rfl
    rw [e4]
    exact hl) (Nat.zero_le _) (Nat.zero_le _)
  rw [hgl] at this
  exact this
set_option maxHeartbeats 4000000 in
theorem lw_walk (l : Launch) (hflags : l.flags = flags0) (b : Addr) (xs : List Int32) : MetFree l x (headSpec (Jvm.Cond.code x code maxLocals ret :: tables_1) room_1) (lw_P b xs) (fun _ _ _ _ _ => True) lw_Q := by
  refine MetFree.of_bodyS (code := code) (maxLocals := maxLocals) (ret := ret) (by decide) ?_ ?_
  · intro args s m h hn
    obtain ⟨meth, c, h1, h2, h3, h4, h5, h6, -, -⟩ := Cond.code_spec hn (atoms_spec (ws := Jvm.Cond.code x code maxLocals ret :: tables_1) h _ List.mem_cons_self)
    exact ⟨meth, c, h1, h2, h3, h4, h5, h6⟩
  · intro p e s m args below meth c s₁ B hml0 hP _
    obtain ⟨rfl, hx, hbd, hgv⟩ := hP
    obtain ⟨scr, harrAt, hlist, hof, hsmall⟩ := hx
    obtain ⟨hcb, hkn, -, -⟩ := State.arrayAt?_spec harrAt
    have hown : s.vm.findClass R_law = some m.cls := findClass_of_methodNamed B.named
    have hts0 : ∀ c ∈ (Jvm.Cond.code x code maxLocals ret :: tables_1), c.before #[Value.ref b] s = true := atoms_spec (ws := Jvm.Cond.code x code maxLocals ret :: tables_1) B.pre
    have hts : ∀ w ∈ lw_tbl, w.before #[Value.ref b] s = true := k2_hts_sels lw_privs (fun w hw => hts0 w (List.mem_cons_of_mem _ hw)) lw_privs_ok
    have hml : c.maxLocals = 4 := B.maxLocals_eq (hts0 _ List.mem_cons_self)
    have X₀ : Stand p l e room_1 s m #[Value.ref b] below meth c s₁ [] 0 0 := Stand.of_body B
    have hh0 : s₁.heap = s.heap := by rw [B.state]; rfl
    have hsz : scr.slots.size = xs.length := by rw [← Array.length_toList, hlist, List.length_map]
    have hval : ∀ j : Nat, j < xs.length → scr.slots[j]? = some (.int (xs.getD j 0)) := fun j hj => by
      rw [← Array.getElem?_toList, hlist]
      simp [hj]
    have hbl : b < s.heap.size := (Array.getElem?_eq_some_iff.mp hcb).1
    have hX : va_X b xs.length (fun j => xs.getD j 0) s s.heap := ⟨scr, hcb, hof, hkn, hsz, hval⟩
    have K : W p l e room_1 s m #[Value.ref b] below meth c s₁.heap [] 0 0 (lw_Z below #[Value.ref b] s) (entryFrame m ([Value.ref b] : List Value).toArray 4) := by
      rw [hh0]
      exact whole_start l hflags hbd ⟨B.exec, B.bytes, B.returns, hml, hown, hts, hX, hbl, B.notSynchronized, hgv⟩
    obtain ⟨t, a1, o, b1, b2, b3⟩ := K s₁ rfl X₀
    exact ⟨t, o, a1, b1, b2, b3⟩
theorem lw_pre_spec {args : Array Value} {s : State} (h : (Jvm.Cond.and given_1 narrow_1).before args s = true) (hr : rest_1_c.before args s = true) : ∃ (b : Addr) (xs : List Int32), lw_P b xs args s := by
  have hs := flat_of_before _ h
  have hq := flat_of_before _ hr
  have hc : (Cond.count 1).before args s = true := hs _ (by decide +kernel)
  have harr : (Cond.arrayOf (.arg 0) .int).before args s = true := hs _ (by decide +kernel)
  have hle : (Cond.le (.length (.arg 0)) (.int 3072)).before args s = true := hs _ (by decide +kernel)
  have hlen : (Cond.isInt (.length (.arg 0))).before args s = true := hq _ (by decide +kernel)
  have hall : (Cond.all (.arg 0) (.isInt (.elem (.arg 0) (.index 0)))).before args s = true := hq _ (by decide +kernel)
  obtain ⟨b, xs, hb, hx⟩ := State.ints_of_pre rfl harr hlen hall
  have hsm : xs.length < 2 ^ 31 := hx.choose_spec.2.2.2
  have hev : (Term.length (.arg 0)).eval args s none [] s = some (.int xs.length.toInt32) := hx.length_eval hb
  have hv := Cond.le_ints hev (show (Term.int 3072).eval args s none [] s = some (.int 3072) from rfl)
  have hd : xs.length.toInt32 ≤ 3072 := by
    simpa [Cond.before, Cond.holds, hv] using hle
  have hN : xs.length ≤ 3072 := (Int32.ofNat_le_ofNat hsm (by decide)).mp (show Int32.ofNat xs.length ≤ Int32.ofNat 3072 from hd)
  exact ⟨b, xs, Cond.one_arg hc (show args[0]? = some (.ref b) from hb), hx, hN, h⟩
theorem lw_comes (l : Launch) (hflags : l.flags = flags0) : Comes l x (Jvm.Cond.code x code maxLocals ret :: tables_1) room_1 (fun tb e args s => Calls_1 tb e args s ∧ rest_1 tb e args s ∧ Pre_1 tb e args s)
    (fun _ _ args s o t => lw_Q args s o t) := by
  intro p e ha hc hk s m args below hf hfit hheap happ hpre
  obtain ⟨b, xs, hP⟩ := lw_pre_spec hpre.2.2 hpre.2.1
  obtain ⟨k, o, h1, h2, h3, hQ⟩ := lw_walk l hflags b xs p e ha hc hk s m args below hf ((Spec.applies_iff_loose hf).mp happ).1 hP trivial
  exact ⟨k, o, h1, h2, h3, hQ⟩
theorem lw_frame {s t : State} {o : Outcome} {args : Array Value} (h : Framed s o t [] 600000 7302250) :
    Framed s o t (fieldLocs frame_1_writes args s ++ arrayLocs frame_1_arrays args s ++ staticLocs frame_1_statics s) 600000 7302250 := h
theorem lw_limb (L : Cond) (hL : ∀ (args : Array Value) (s t : State), L.after args s (.returned (some (.int 1))) t = true) :
    ArmFor flags0 classFile x code maxLocals ret World_1 tables_1 room_1 Calls_1 rest_1 Pre_1
      (fun tb e a s o t => postC L tb e a s o t ∧ Framed s o t (fieldLocs frame_1_writes a s ++ arrayLocs frame_1_arrays a s ++ staticLocs frame_1_statics s) 600000 7302250) := by
  intro l hflags _ _ p e ha hc hk s m args below hf hfit hheap happ hpre
  obtain ⟨k, o, h1, h2, h3, rfl, hF⟩ := lw_comes l hflags p e ha hc hk s m args below hf hfit hheap happ hpre
  exact ⟨k, _, h1, h2, h3, hL args s _, lw_frame hF⟩
theorem i_vc : Claimed_1_1 ∧ Claimed_1_2 := ⟨lw_limb limb_1_1 (fun args s t => by simp [limb_1_1, Cond.after, Cond.holds, Cond.value]), lw_limb limb_1_2 (fun args s t => Cond.after_iff.mpr (by
  first | (rw [show limb_1_2 = Cond.eq .result (.int 1) from rfl, Cond.eq_ints (x := 1) (y := 1) rfl rfl]; simp; done) | (simp [limb_1_2, Cond.value, Term.eval]; done)))⟩

