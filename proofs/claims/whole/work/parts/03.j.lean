abbrev vwCl : List vw_C := [(RX0, TX0, 2), (RX1, TX1, 6), (RX2, TX2, 5), (RX3, TX3, 9), (RX4, TX4, 4), (RX6, TX6, 4), (RX7, TX7, 5), (RX8, TX8, 16), (RX9, TX9, 51)]
def rfT : List (List Bool) := [[true, true], [true, true, true, true, false, false], [true, true, false, false, false], [true, true, true, true, false, false, false, true, false], [true, true, false, false], [true, false, false, false], [true, true, false, false, true], [true, true, true, true, true, true, true, true, true, true, true, true, false, false, false, false], [false, false, false, false, false, false, false, false, false, false, true, true, true, true, true, true, true, true, true, true, true, true, true, true, true, true, true, true, false, false, false, false, false, true, true, true, false, false, false, false, false, true, false, true, true, true, true, true, true, true, true]]

def isRf (ci k : Nat) : Bool := (rfT.getD ci []).getD k false
def nF (ci : Nat) : Nat := (rfT.getD ci []).length
/-! the store: a skeleton (kind, length, references) of the cells made, ints and longs by handle and place; handles 0..3 the static rows, 4 the script, 5.. the cells -/
abbrev SK : Type := List (Nat × Nat × List (Option Nat))
abbrev Sto : Type := SK × (Nat → Nat → Int32) × (Nat → Nat → Int64)
abbrev MRec : Type := MethodName × ByteArray × Nat × Option FieldType
abbrev GC : Type := Launch × va_G × (Nat → ClassId) × (Nat → Nat) × Nat × Nat × (Nat → Int32)
abbrev gL (g : GC) : Launch := g.1
abbrev gD (g : GC) : va_G := g.2.1
abbrev gA (g : GC) : Nat → ClassId := g.2.2.1
abbrev gS (g : GC) : Nat → Nat := g.2.2.2.1
abbrev gz (g : GC) : Nat := g.2.2.2.2.1
abbrev gN (g : GC) : Nat := g.2.2.2.2.2.1
abbrev gX (g : GC) : Nat → Int32 := g.2.2.2.2.2.2
def ad (g : GC) (h : Nat) : Nat := if h < 5 then gS g h else gz g + (h - 5)
def rv (g : GC) (v : Value) : Value := match v with
  | .ref h => .ref (ad g h)
  | w => w
def up2 {α : Type} (f : Nat → Nat → α) (h k : Nat) (v : α) : Nat → Nat → α := fun h' => if h' = h then (fun k' => if k' = k then v else f h k') else f h'
def rs2 {α : Type} (f : Nat → Nat → α) (h : Nat) (r : Nat → α) : Nat → Nat → α := fun h' => if h' = h then r else f h'
def fv (g : GC) (mi : Nat → Nat → Int32) (h ci : Nat) (rs : List (Option Nat)) (k : Nat) : Value := if isRf ci k = true then va_rf ((rs.getD k none).map (ad g)) else .int (mi h k)
def ce (g : GC) (mi : Nat → Nat → Int32) (ml : Nat → Nat → Int64) (h : Nat) (q : Nat × Nat × List (Option Nat)) : va_E :=
  if q.1 < 9 then .inr (q.1, (List.range (nF q.1)).map (fv g mi h q.1 q.2.2))
  else if q.1 = 100 then .inl (gA g 100, q.2.1, .inl (mi h))
  else if q.1 = 101 then .inl (gA g 101, q.2.1, .inr (.inl (ml h)))
  else .inl (gA g q.1, q.2.1, .inr (.inr (.inr (.inr (fun i => (q.2.2.getD i none).map (ad g))))))
def wl (g : GC) (σ : Sto) : va_W := σ.1.mapIdx fun k q => (gz g + k, ce g σ.2.1 σ.2.2 (k + 5) q)
def AA (g : GC) : Nat → Prop := fun q => gz g ≤ q
def World (g : GC) (σ : Sto) (H : Heap) : Prop := va_P (gD g) vwCl (wl g σ) H
def tysG (g : GC) : List (ClassId × FieldType) := [(gA g 100, .int), (gA g 101, .long), (gA g 102, .array .int), (gA g 103, .object "WithOneHand$Shelf")]
def cel (σ : Sto) (h : Nat) : Option (Nat × Nat × List (Option Nat)) := if h < 5 then none else σ.1[h - 5]?
def TU : List Cond := lw_tbl ++ exw
def TB : List Cond := TU.filter goodWord
def dcl : MethodName := ⟨"WithOneHand$Plan", "takesBehind", "(II)I"⟩
def nestL : List (String × Nat × MethodName × String) := [("WithOneHand", 16, ⟨"WithOneHand$History", "<init>", "()V"⟩, "WithOneHand"), ("WithOneHand", 37, ⟨"WithOneHand$Pairs", "<init>", "()V"⟩, "WithOneHand"), ("WithOneHand$Pairs", 1, ⟨"WithOneHand$Plan", "<init>", "()V"⟩, "WithOneHand"), ("WithOneHand", 44, ⟨"WithOneHand$Turns", "<init>", "()V"⟩, "WithOneHand"), ("WithOneHand$Turns", 1, ⟨"WithOneHand$Plan", "<init>", "()V"⟩, "WithOneHand"), ("WithOneHand", 51, ⟨"WithOneHand$Holes", "<init>", "()V"⟩, "WithOneHand"), ("WithOneHand", 67, ⟨"WithOneHand$Law", "<init>", "()V"⟩, "WithOneHand"), ("WithOneHand", 75, ⟨"WithOneHand$Shelf", "<init>", "()V"⟩, "WithOneHand")]
def aoA (U : State) : Prop := (Cond.arrayOver (.array .int)).before #[] U = true
theorem aoA.moved {u U : State} (hvm : u.vm.Alike U.vm) (h : aoA u) : aoA U := by
  obtain ⟨comp, c, k, h1, h2, h3, h4, h5⟩ := arrayOverA_spec h
  obtain ⟨k', hk', he⟩ := hvm.2.2 _ _ h3
  have hi : (U.vm.classes.findIdx? fun (x : Class) => match x.kind with | .array component _ => component == comp | _ => false) = some c := by
    have hb : U.vm.bare = u.vm.bare := by first | exact hvm.bare_eq.symm | exact hvm.bare_eq
    refine (va_idx_bare U.vm comp).symm.trans ?_
    rw [hb]
    exact (va_idx_bare u.vm comp).trans h2
  have hkind : k'.kind = .array comp (.array .int) := by rw [he]; exact h4
  have f1 : U.vm.findClass (FieldType.array .int).toString = some comp := by rw [hvm.findClass]; exact h1
  have f2 : U.vm.findClass ("[" ++ (FieldType.array .int).toString) = some c := by rw [hvm.findClass]; exact h5
  unfold aoA Cond.before Cond.holds
  simp only [Cond.value]
  rw [f1, Option.bind_some]
  refine (congrArg (fun o : Option Nat => (o.bind (fun c => (U.vm.classes[c]?).map fun (k : Class) => match k.kind with | .array _ ty => decide (ty = FieldType.array .int) && decide (U.vm.findClass ("[" ++ (FieldType.array .int).toString) = some c) | _ => false) == some true)) hi).trans ?_
  simp [hk', hkind, f2]
def wsOf (μ : MRec) : List Cond := Cond.code μ.1 μ.2.1 μ.2.2.1 μ.2.2.2 :: TB
def rmOf (d K N : Nat) : Room := { frames := d + 1, cells := K, slots := N, locals := 40 * (d + 1) }
def SC : Nat → String × String := fun k => match k with
  | 0 => ("WithOneHand", "LEAST")
  | 1 => ("WithOneHand", "MOST")
  | 2 => ("WithOneHand$Holes", "ABOVE")
  | _ => ("WithOneHand$Holes", "OWN")
def SA : Nat → List Int32 := fun k => match k with
  | 0 => [1, 0, 0, 0, 0, 0, 0, 0, 0, 0, 1, 1, 1]
  | 1 => [9, 9, 9, 9, 1, 99, 9, 99, 99, 11, 99, 99, 99]
  | 2 => [-1, 0, 0, 2, 1, 3, 0, 4]
  | _ => [1, 10, 11, 2, 20, 0, 0, 0, 0, 30, 0, 0, 0, 41, 40, 0, 0, 0, 50, 0, 0, 0, 0, 60, 70, 0, 0, 0, 0, 80, 0, 81]
def EnvG (g : GC) (U : State) : Prop := va_K (gD g) vwCl (tysG g) U ∧ gz g ≤ U.heap.size ∧ (∀ j : Nat, j < 4 → va_Z (SC j).1 (SC j).2 "[I" (.ref (gS g j)) (AA g) U U.heap) ∧ (∀ j : Nat, j < 4 → va_T .int (gS g j) (SA j).length (fun i => .int ((SA j).getD i 0)) (AA g) U U.heap) ∧ va_X (gS g 4) (gN g) (gX g) U U.heap ∧ gS g 4 < gz g ∧ (∀ q ∈ nestL, va_Nw (.methodLinkNest q.1 q.2.1 q.2.2.1 q.2.2.2) U) ∧ va_AO "WithOneHand$Shelf" U ∧ aoA U ∧ va_Nw (.declares dcl) U
theorem EnvG.to {g : GC} {s U : State} {locs : List Loc} (h : EnvG g s) (hS : va_S (AA g) s.heap U.heap locs) (hW : s.WarmedH U.vm) : EnvG g U := by
  obtain ⟨h1, h2, h3, h4, h5, h6, h7, h8, h9, h10⟩ := h
  have hvm := hW.alike
  refine ⟨va_K.moved hvm h1, Nat.le_trans h2 hS.1, fun j hj => ?_, fun j hj => ?_, ?_, h6, fun q hq => va_Nw.warmM hW (h7 q hq), va_AO.moved hvm h8, aoA.moved hvm h9, va_Nw.warmD hW h10⟩
  · exact va_Z.moved hvm ((h3 j hj).kept (fun a ha hA => hS.2.1 a ha hA))
  · exact va_T.moved hvm ((h4 j hj).kept (fun a ha hA => hS.2.1 a ha hA))
  · refine va_X.moved hvm (h5.kept (hS.2.1 _ (Nat.lt_of_lt_of_le h6 h2) ?_))
    exact Nat.not_le.mpr h6
/-! the judgements -/
def CX (g : GC) (μ : MRec) (d K N : Nat) (p : Program) (R : Room) (s : State) (m : MethodId) (args : Array Value) (meth : Method) (c : Code) : Prop :=
  p.tables.exec = Jvm.exec ∧ c.code = μ.2.1 ∧ c.maxLocals = μ.2.2.1 ∧ s.vm.findClass μ.1.cls = some m.cls ∧ (∀ w ∈ TB, w.before args s = true) ∧ meth.sig.returnType = μ.2.2.2 ∧ meth.locks = false ∧ (μ.1.name = "<init>" → meth.name = "<init>") ∧ EnvG g s ∧ d + 1 ≤ R.frames ∧ 40 * (d + 1) ≤ R.locals ∧ K ≤ R.cells ∧ N ≤ R.slots
def retOK (μ : MRec) (pc : Nat) (v : Option Value) : Prop := match v with
  | none => μ.2.2.2 = none ∧ decode μ.2.1 pc = .ok (.return_, 1)
  | some (.int x) => (∃ ty, μ.2.2.2 = some ty ∧ narrow ty (.int x) = .int x) ∧ decode μ.2.1 pc = .ok (.ireturn, 1)
  | some (.long _) => μ.2.2.2 = some .long ∧ decode μ.2.1 pc = .ok (.lreturn, 1)
  | _ => False
def RCl (g : GC) (μ : MRec) (K N : Nat) (Q : Option Value → Sto → Prop) (p : Program) (e : Env) (R : Room) (s : State) (m : MethodId) (args : Array Value) (below : List Frame) (meth : Method) (c : Code) (Z : State → Prop) : Prop :=
  ∀ (v : Option Value) (σ' : Sto) (H' : Heap) (locs' : List Loc) (k' w' pc' : Nat) (ls' : Array Slot), Q v σ' → retOK μ pc' v → World g σ' H' → s.heap.size + k' = gz g + σ'.1.length → va_S (AA g) s.heap H' locs' → k' ≤ K → w' ≤ N → W p (gL g) e R s m args below meth c H' locs' k' w' Z (F0 m pc' ls' (v.toList.map (rv g)))
def lvm (g : GC) (L : List (Nat × Value)) : List (Nat × Value) := L.map (fun q => (q.1, rv g q.2))
def J (g : GC) (μ : MRec) (d K N pc : Nat) (L : List (Nat × Value)) (S : List Value) (σ : Sto) (k w : Nat) (Q : Option Value → Sto → Prop) : Prop :=
  ∀ (p : Program) (e : Env) (R : Room) (s : State) (m : MethodId) (args : Array Value) (below : List Frame) (meth : Method) (c : Code) (Z : State → Prop), CX g μ d K N p R s m args meth c → RCl g μ K N Q p e R s m args below meth c Z →
  ∀ (H : Heap) (locs : List Loc) (ls : Array Slot), (World g σ H ∧ s.heap.size + k = gz g + σ.1.length) → va_S (AA g) s.heap H locs → lv_has ls μ.2.2.1 (lvm g L) → k ≤ K → w ≤ N → W p (gL g) e R s m args below meth c H locs k w Z (F0 m pc ls (S.map (rv g)))
def QcG (g : GC) (Q : Option Value → Sto → Prop) : Array Value → State → Outcome → State → Prop := fun _ st oc t => (∃ (v : Option Value) (σ' : Sto), oc = .returned (v.map (rv g)) ∧ Q v σ' ∧ World g σ' t.heap) ∧ va_F (AA g) st t
def PcG (g : GC) (as : List Value) (σ : Sto) : Array Value → State → Prop := va_Pc (as.map (rv g)) (fun U => (World g σ U.heap ∧ U.heap.size = gz g + σ.1.length) ∧ EnvG g U)
def JC (g : GC) (μ : MRec) (d K N : Nat) (as : List Value) (σ : Sto) (Q : Option Value → Sto → Prop) : Prop :=
  Met (gL g) μ.1 (wsOf μ) (rmOf d K N) (PcG g as σ) (QcG g Q) K N (AA g)
def EQ (v0 : Option Value) (σ0 : Sto) : Option Value → Sto → Prop := fun v σ => v = v0 ∧ σ = σ0
theorem PcG.blind {g : GC} {as : List Value} {σ : Sto} : FrameBlind (PcG g as σ) := fun a U f mk q => by
  obtain ⟨q0, q1, q2⟩ := q
  refine ⟨q0, q1, ?_⟩
  obtain ⟨h1, h2, h3, h4, h5, h6, h7, h8, h9, h10⟩ := q2
  have ha : U.vm.Alike (U.calling f mk a).vm := Vm.Alike.refl U.vm
  exact ⟨va_K.moved ha h1, h2, fun j hj => va_Z.moved ha (h3 j hj), fun j hj => va_T.moved ha (h4 j hj), va_X.moved ha h5, h6, fun q hq => va_Nw.same rfl rfl (h7 q hq), va_AO.moved ha h8, aoA.moved ha h9, va_Nw.same rfl rfl h10⟩
theorem rv_cat (g : GC) (v : Value) : (rv g v).category = v.category := by cases v <;> rfl
theorem rv_cats (g : GC) (S : List Value) : (S.map (rv g)).map (fun v => v.category) = S.map (fun v => v.category) := by
  rw [List.map_map]
  exact List.map_congr_left (fun v _ => rv_cat g v)
theorem lvm_at {g : GC} {L : List (Nat × Value)} {j i : Nat} {v : Value} (h : L[j]? = some (i, v)) : (lvm g L)[j]? = some (i, rv g v) := by
  unfold lvm
  rw [List.getElem?_map, h]
  rfl
theorem lvm_filter {g : GC} {L : List (Nat × Value)} (f : Nat → Nat → Bool) : (lvm g L).filter (fun q => f q.1 q.2.category) = lvm g (L.filter (fun q => f q.1 q.2.category)) := by
  unfold lvm
  rw [List.filter_map]
  congr 1
  apply List.filter_congr
  intro q _
  simp [Function.comp, rv_cat]
theorem lvm_store {g : GC} {L L' : List (Nat × Value)} {i : Nat} {v : Value} (h : (i, v) :: L.filter (fun q => !(q.1 == i) && !(q.1 + 1 == i && q.2.category == 2)) = L') : (i, rv g v) :: (lvm g L).filter (fun q => !(q.1 == i) && !(q.1 + 1 == i && q.2.category == 2)) = lvm g L' := by
  subst h
  rw [lvm_filter (fun a b => !(a == i) && !(a + 1 == i && b == 2))]
  rfl
theorem lvm_store2 {g : GC} {L L' : List (Nat × Value)} {i : Nat} {v : Value} (h : (i, v) :: L.filter (fun q => !(q.1 == i) && (!(q.1 == i + 1) && !(q.1 + 1 == i && q.2.category == 2))) = L') : (i, rv g v) :: (lvm g L).filter (fun q => !(q.1 == i) && (!(q.1 == i + 1) && !(q.1 + 1 == i && q.2.category == 2))) = lvm g L' := by
  subst h
  rw [lvm_filter (fun a b => !(a == i) && (!(a == i + 1) && !(a + 1 == i && b == 2)))]
  rfl
section JR
variable {g : GC} {μ : MRec} {d K N pc : Nat} {L : List (Nat × Value)} {S : List Value} {σ : Sto} {k w : Nat} {Q : Option Value → Sto → Prop}
theorem J_sub {L' : List (Nat × Value)} (ks : List Nat) (hl : lv_pick L ks = L') (kk : J g μ d K N pc L' S σ k w Q) : J g μ d K N pc L S σ k w Q := by
  intro p e R s m args below meth c Z hC hR H locs ls hW hS hl1 hk hw
  refine kk p e R s m args below meth c Z hC hR H locs ls hW hS (lv_sub hl1 ks ?_) hk hw
  subst hl
  unfold lv_pick lvm
  rw [List.map_filterMap]
  congr 1
  funext i
  rw [List.getElem?_map]

theorem J_iconst {n : Int} {v : Int32} (hd : decode μ.2.1 pc = .ok (.iconst n, 1)) (hv : Int32.ofInt n = v) (kk : J g μ d K N (pc + 1) L (.int v :: S) σ k w Q) : J g μ d K N pc L (S) σ k w Q := by
  intro p e R s m args below meth c Z hC hR H locs ls hW hS hl hk hw
  exact lv_iconst hC.1 hC.2.1 hd hv (kk p e R s m args below meth c Z hC hR H locs ls hW hS hl hk hw)
theorem J_bipush {n : Int} {v : Int32} (hd : decode μ.2.1 pc = .ok (.bipush n, 2)) (hv : (Int8.ofInt n).toInt32 = v) (kk : J g μ d K N (pc + 2) L (.int v :: S) σ k w Q) : J g μ d K N pc L (S) σ k w Q := by
  intro p e R s m args below meth c Z hC hR H locs ls hW hS hl hk hw
  exact lv_bipush hC.1 hC.2.1 hd hv (kk p e R s m args below meth c Z hC hR H locs ls hW hS hl hk hw)
theorem J_sipush {n : Int} {v : Int32} (hd : decode μ.2.1 pc = .ok (.sipush n, 3)) (hv : (Int16.ofInt n).toInt32 = v) (kk : J g μ d K N (pc + 3) L (.int v :: S) σ k w Q) : J g μ d K N pc L (S) σ k w Q := by
  intro p e R s m args below meth c Z hC hR H locs ls hW hS hl hk hw
  exact lv_sipush hC.1 hC.2.1 hd hv (kk p e R s m args below meth c Z hC hR H locs ls hW hS hl hk hw)
theorem J_lconst {n : Fin 2} {v : Int64} (hd : decode μ.2.1 pc = .ok (.lconst n, 1)) (hv : Int64.ofNat (n : Nat) = v) (kk : J g μ d K N (pc + 1) L (.long v :: S) σ k w Q) : J g μ d K N pc L (S) σ k w Q := by
  intro p e R s m args below meth c Z hC hR H locs ls hW hS hl hk hw
  exact lv_lconst hC.1 hC.2.1 hd hv (kk p e R s m args below meth c Z hC hR H locs ls hW hS hl hk hw)
theorem irem_eq (x y : Int32) : x - x / y * y = x % y := by
  apply Int32.toInt_inj.mp
  have h := Int32.toInt_bmod_size (x % y)
  rw [Int32.toInt_mod] at h
  rw [Int32.toInt_mod, ← h]
  simp [Int.tmod_def, Int.mul_comm]
theorem lrem_eq (x y : Int64) : x - x / y * y = x % y := by
  apply Int64.toInt_inj.mp
  have h := Int64.toInt_bmod_size (x % y)
  rw [Int64.toInt_mod] at h
  rw [Int64.toInt_mod, ← h]
  simp [Int.tmod_def, Int.mul_comm]
theorem J_ineg {x : Int32} (hd : decode μ.2.1 pc = .ok (.ineg, 1)) (kk : J g μ d K N (pc + 1) L (.int (-x) :: S) σ k w Q) : J g μ d K N pc L (.int x :: S) σ k w Q := by
  intro p e R s m args below meth c Z hC hR H locs ls hW hS hl hk hw
  exact lv_ineg hC.1 hC.2.1 hd (kk p e R s m args below meth c Z hC hR H locs ls hW hS hl hk hw)
theorem J_ishl {x y : Int32} (hd : decode μ.2.1 pc = .ok (.ishl, 1)) (kk : J g μ d K N (pc + 1) L (.int (x <<< (y &&& 31)) :: S) σ k w Q) : J g μ d K N pc L (.int y :: .int x :: S) σ k w Q := by
  intro p e R s m args below meth c Z hC hR H locs ls hW hS hl hk hw
  exact lv_ishl hC.1 hC.2.1 hd (kk p e R s m args below meth c Z hC hR H locs ls hW hS hl hk hw)
theorem J_ishr {x y : Int32} (hd : decode μ.2.1 pc = .ok (.ishr, 1)) (kk : J g μ d K N (pc + 1) L (.int (x >>> (y &&& 31)) :: S) σ k w Q) : J g μ d K N pc L (.int y :: .int x :: S) σ k w Q := by
  intro p e R s m args below meth c Z hC hR H locs ls hW hS hl hk hw
  exact lv_ishr hC.1 hC.2.1 hd (kk p e R s m args below meth c Z hC hR H locs ls hW hS hl hk hw)
def iush (x y : Int32) : Int32 := (x.toUInt32 >>> (y.toUInt32 &&& Int32.toUInt32 31)).toInt32
def lsh (x : Int64) (y : Int32) : Int64 := x <<< (y.toInt64 &&& 63)
theorem J_iushr {x y : Int32} (hd : decode μ.2.1 pc = .ok (.iushr, 1)) (kk : J g μ d K N (pc + 1) L (.int (iush x y) :: S) σ k w Q) : J g μ d K N pc L (.int y :: .int x :: S) σ k w Q := by
  intro p e R s m args below meth c Z hC hR H locs ls hW hS hl hk hw
  exact lv_iushr hC.1 hC.2.1 hd rfl (kk p e R s m args below meth c Z hC hR H locs ls hW hS hl hk hw)
theorem J_lshl {x : Int64} {y : Int32} (hd : decode μ.2.1 pc = .ok (.lshl, 1)) (kk : J g μ d K N (pc + 1) L (.long (lsh x y) :: S) σ k w Q) : J g μ d K N pc L (.int y :: .long x :: S) σ k w Q := by
  intro p e R s m args below meth c Z hC hR H locs ls hW hS hl hk hw
  exact lv_lshl hC.1 hC.2.1 hd rfl (kk p e R s m args below meth c Z hC hR H locs ls hW hS hl hk hw)
theorem J_iadd {x y : Int32} (hd : decode μ.2.1 pc = .ok (.iadd, 1)) (kk : J g μ d K N (pc + 1) L (.int (x + y) :: S) σ k w Q) : J g μ d K N pc L (.int y :: .int x :: S) σ k w Q := by
  intro p e R s m args below meth c Z hC hR H locs ls hW hS hl hk hw
  exact lv_iadd hC.1 hC.2.1 hd (kk p e R s m args below meth c Z hC hR H locs ls hW hS hl hk hw)
theorem J_isub {x y : Int32} (hd : decode μ.2.1 pc = .ok (.isub, 1)) (kk : J g μ d K N (pc + 1) L (.int (x - y) :: S) σ k w Q) : J g μ d K N pc L (.int y :: .int x :: S) σ k w Q := by
  intro p e R s m args below meth c Z hC hR H locs ls hW hS hl hk hw
  exact lv_isub hC.1 hC.2.1 hd (kk p e R s m args below meth c Z hC hR H locs ls hW hS hl hk hw)
theorem J_imul {x y : Int32} (hd : decode μ.2.1 pc = .ok (.imul, 1)) (kk : J g μ d K N (pc + 1) L (.int (x * y) :: S) σ k w Q) : J g μ d K N pc L (.int y :: .int x :: S) σ k w Q := by
  intro p e R s m args below meth c Z hC hR H locs ls hW hS hl hk hw
  exact lv_imul hC.1 hC.2.1 hd (kk p e R s m args below meth c Z hC hR H locs ls hW hS hl hk hw)
theorem J_iand {x y : Int32} (hd : decode μ.2.1 pc = .ok (.iand, 1)) (kk : J g μ d K N (pc + 1) L (.int (x &&& y) :: S) σ k w Q) : J g μ d K N pc L (.int y :: .int x :: S) σ k w Q := by
  intro p e R s m args below meth c Z hC hR H locs ls hW hS hl hk hw
  exact lv_iand hC.1 hC.2.1 hd (kk p e R s m args below meth c Z hC hR H locs ls hW hS hl hk hw)
theorem J_ior {x y : Int32} (hd : decode μ.2.1 pc = .ok (.ior, 1)) (kk : J g μ d K N (pc + 1) L (.int (x ||| y) :: S) σ k w Q) : J g μ d K N pc L (.int y :: .int x :: S) σ k w Q := by
  intro p e R s m args below meth c Z hC hR H locs ls hW hS hl hk hw
  exact lv_ior hC.1 hC.2.1 hd (kk p e R s m args below meth c Z hC hR H locs ls hW hS hl hk hw)
theorem J_ixor {x y : Int32} (hd : decode μ.2.1 pc = .ok (.ixor, 1)) (kk : J g μ d K N (pc + 1) L (.int (x ^^^ y) :: S) σ k w Q) : J g μ d K N pc L (.int y :: .int x :: S) σ k w Q := by
  intro p e R s m args below meth c Z hC hR H locs ls hW hS hl hk hw
  exact lv_ixor hC.1 hC.2.1 hd (kk p e R s m args below meth c Z hC hR H locs ls hW hS hl hk hw)
theorem J_ladd {x y : Int64} (hd : decode μ.2.1 pc = .ok (.ladd, 1)) (kk : J g μ d K N (pc + 1) L (.long (x + y) :: S) σ k w Q) : J g μ d K N pc L (.long y :: .long x :: S) σ k w Q := by
  intro p e R s m args below meth c Z hC hR H locs ls hW hS hl hk hw
  exact lv_ladd hC.1 hC.2.1 hd (kk p e R s m args below meth c Z hC hR H locs ls hW hS hl hk hw)
theorem J_lsub {x y : Int64} (hd : decode μ.2.1 pc = .ok (.lsub, 1)) (kk : J g μ d K N (pc + 1) L (.long (x - y) :: S) σ k w Q) : J g μ d K N pc L (.long y :: .long x :: S) σ k w Q := by
  intro p e R s m args below meth c Z hC hR H locs ls hW hS hl hk hw
  exact lv_lsub hC.1 hC.2.1 hd (kk p e R s m args below meth c Z hC hR H locs ls hW hS hl hk hw)
theorem J_lmul {x y : Int64} (hd : decode μ.2.1 pc = .ok (.lmul, 1)) (kk : J g μ d K N (pc + 1) L (.long (x * y) :: S) σ k w Q) : J g μ d K N pc L (.long y :: .long x :: S) σ k w Q := by
  intro p e R s m args below meth c Z hC hR H locs ls hW hS hl hk hw
  exact lv_lmul hC.1 hC.2.1 hd (kk p e R s m args below meth c Z hC hR H locs ls hW hS hl hk hw)
theorem J_land {x y : Int64} (hd : decode μ.2.1 pc = .ok (.land, 1)) (kk : J g μ d K N (pc + 1) L (.long (x &&& y) :: S) σ k w Q) : J g μ d K N pc L (.long y :: .long x :: S) σ k w Q := by
  intro p e R s m args below meth c Z hC hR H locs ls hW hS hl hk hw
  exact lv_land hC.1 hC.2.1 hd (kk p e R s m args below meth c Z hC hR H locs ls hW hS hl hk hw)
theorem J_lor {x y : Int64} (hd : decode μ.2.1 pc = .ok (.lor, 1)) (kk : J g μ d K N (pc + 1) L (.long (x ||| y) :: S) σ k w Q) : J g μ d K N pc L (.long y :: .long x :: S) σ k w Q := by
  intro p e R s m args below meth c Z hC hR H locs ls hW hS hl hk hw
  exact lv_lor hC.1 hC.2.1 hd (kk p e R s m args below meth c Z hC hR H locs ls hW hS hl hk hw)
theorem J_idiv {x y : Int32} (hd : decode μ.2.1 pc = .ok (.idiv, 1)) (hne : ¬ y = 0) (kk : J g μ d K N (pc + 1) L (.int (x / y) :: S) σ k w Q) : J g μ d K N pc L (.int y :: .int x :: S) σ k w Q := by
  intro p e R s m args below meth c Z hC hR H locs ls hW hS hl hk hw
  exact lv_idiv hC.1 hC.2.1 hd hne (kk p e R s m args below meth c Z hC hR H locs ls hW hS hl hk hw)
theorem J_ldiv {x y : Int64} (hd : decode μ.2.1 pc = .ok (.ldiv, 1)) (hne : ¬ y = 0) (kk : J g μ d K N (pc + 1) L (.long (x / y) :: S) σ k w Q) : J g μ d K N pc L (.long y :: .long x :: S) σ k w Q := by
  intro p e R s m args below meth c Z hC hR H locs ls hW hS hl hk hw
  exact lv_ldiv hC.1 hC.2.1 hd hne (kk p e R s m args below meth c Z hC hR H locs ls hW hS hl hk hw)
theorem J_irem {x y : Int32} (hd : decode μ.2.1 pc = .ok (.irem, 1)) (hne : ¬ y = 0) (kk : J g μ d K N (pc + 1) L (.int (x % y) :: S) σ k w Q) : J g μ d K N pc L (.int y :: .int x :: S) σ k w Q := by
  intro p e R s m args below meth c Z hC hR H locs ls hW hS hl hk hw
  refine lv_irem hC.1 hC.2.1 hd hne ?_
  rw [irem_eq]
  exact kk p e R s m args below meth c Z hC hR H locs ls hW hS hl hk hw
theorem J_lrem {x y : Int64} (hd : decode μ.2.1 pc = .ok (.lrem, 1)) (hne : ¬ y = 0) (kk : J g μ d K N (pc + 1) L (.long (x % y) :: S) σ k w Q) : J g μ d K N pc L (.long y :: .long x :: S) σ k w Q := by
  intro p e R s m args below meth c Z hC hR H locs ls hW hS hl hk hw
  refine lv_lrem hC.1 hC.2.1 hd hne ?_
  rw [lrem_eq]
  exact kk p e R s m args below meth c Z hC hR H locs ls hW hS hl hk hw
theorem J_lcmp {x y : Int64} (hd : decode μ.2.1 pc = .ok (.lcmp, 1)) (kk : J g μ d K N (pc + 1) L (.int (lg_cmp x y) :: S) σ k w Q) : J g μ d K N pc L (.long y :: .long x :: S) σ k w Q := by
  intro p e R s m args below meth c Z hC hR H locs ls hW hS hl hk hw
  exact W.lcmp hC.1 hC.2.1 hd (kk p e R s m args below meth c Z hC hR H locs ls hW hS hl hk hw)
theorem J_i2l {x : Int32} (hd : decode μ.2.1 pc = .ok (.i2l, 1)) (kk : J g μ d K N (pc + 1) L (.long x.toInt64 :: S) σ k w Q) : J g μ d K N pc L (.int x :: S) σ k w Q := by
  intro p e R s m args below meth c Z hC hR H locs ls hW hS hl hk hw
  exact lv_i2l hC.1 hC.2.1 hd rfl (kk p e R s m args below meth c Z hC hR H locs ls hW hS hl hk hw)
theorem J_l2i {x : Int64} (hd : decode μ.2.1 pc = .ok (.l2i, 1)) (kk : J g μ d K N (pc + 1) L (.int x.toInt32 :: S) σ k w Q) : J g μ d K N pc L (.long x :: S) σ k w Q := by
  intro p e R s m args below meth c Z hC hR H locs ls hW hS hl hk hw
  exact lv_l2i hC.1 hC.2.1 hd rfl (kk p e R s m args below meth c Z hC hR H locs ls hW hS hl hk hw)
theorem J_i2b {x : Int32} (hd : decode μ.2.1 pc = .ok (.i2b, 1)) (kk : J g μ d K N (pc + 1) L (.int x.toInt8.toInt32 :: S) σ k w Q) : J g μ d K N pc L (.int x :: S) σ k w Q := by
  intro p e R s m args below meth c Z hC hR H locs ls hW hS hl hk hw
  exact lv_i2b hC.1 hC.2.1 hd rfl (kk p e R s m args below meth c Z hC hR H locs ls hW hS hl hk hw)
theorem J_i2s {x : Int32} (hd : decode μ.2.1 pc = .ok (.i2s, 1)) (kk : J g μ d K N (pc + 1) L (.int x.toInt16.toInt32 :: S) σ k w Q) : J g μ d K N pc L (.int x :: S) σ k w Q := by
  intro p e R s m args below meth c Z hC hR H locs ls hW hS hl hk hw
  exact lv_i2s hC.1 hC.2.1 hd rfl (kk p e R s m args below meth c Z hC hR H locs ls hW hS hl hk hw)
theorem J_dup {va : Value} (hd : decode μ.2.1 pc = .ok (.dup, 1)) (hc : va.category = 1) (kk : J g μ d K N (pc + 1) L (va :: va :: S) σ k w Q) : J g μ d K N pc L (va :: S) σ k w Q := by
  intro p e R s m args below meth c Z hC hR H locs ls hW hS hl hk hw
  exact lv_dup hC.1 hC.2.1 hd ((rv_cat _ _).trans hc) (kk p e R s m args below meth c Z hC hR H locs ls hW hS hl hk hw)
theorem J_dup_x1 {va vb : Value} (hd : decode μ.2.1 pc = .ok (.dup_x1, 1)) (hc : va.category = 1) (hc2 : vb.category = 1) (kk : J g μ d K N (pc + 1) L (va :: vb :: va :: S) σ k w Q) : J g μ d K N pc L (va :: vb :: S) σ k w Q := by
  intro p e R s m args below meth c Z hC hR H locs ls hW hS hl hk hw
  exact lv_dup_x1 hC.1 hC.2.1 hd ((rv_cat _ _).trans hc) ((rv_cat _ _).trans hc2) (kk p e R s m args below meth c Z hC hR H locs ls hW hS hl hk hw)
theorem J_dup2 {va vb : Value} (hd : decode μ.2.1 pc = .ok (.dup2, 1)) (hc : va.category = 1) (hc2 : vb.category = 1) (kk : J g μ d K N (pc + 1) L (va :: vb :: va :: vb :: S) σ k w Q) : J g μ d K N pc L (va :: vb :: S) σ k w Q := by
  intro p e R s m args below meth c Z hC hR H locs ls hW hS hl hk hw
  exact lv_dup2_11 hC.1 hC.2.1 hd ((rv_cat _ _).trans hc) ((rv_cat _ _).trans hc2) (kk p e R s m args below meth c Z hC hR H locs ls hW hS hl hk hw)
theorem J_pop {va : Value} (hd : decode μ.2.1 pc = .ok (.pop, 1)) (hc : va.category = 1) (kk : J g μ d K N (pc + 1) L (S) σ k w Q) : J g μ d K N pc L (va :: S) σ k w Q := by
  intro p e R s m args below meth c Z hC hR H locs ls hW hS hl hk hw
  exact lv_pop hC.1 hC.2.1 hd ((rv_cat _ _).trans hc) (kk p e R s m args below meth c Z hC hR H locs ls hW hS hl hk hw)
theorem J_ldc {idx : Nat} {v : Int32} (hw : Cond.constant μ.1.cls idx v ∈ TB) (hd : decode μ.2.1 pc = .ok (.ldc idx, 2)) (kk : J g μ d K N (pc + 2) L (.int v :: S) σ k w Q) : J g μ d K N pc L S σ k w Q := by
  intro p e R s m args below meth c Z hC hR H locs ls hW hS hl hk hw2
  exact lv_ldc hC.1 hC.2.1 hC.2.2.2.1 (hC.2.2.2.2.1 _ hw) hd (kk p e R s m args below meth c Z hC hR H locs ls hW hS hl hk hw2)
theorem J_ldc_w {idx : Nat} {v : Int32} (hw : Cond.constant μ.1.cls idx v ∈ TB) (hd : decode μ.2.1 pc = .ok (.ldc_w idx, 3)) (kk : J g μ d K N (pc + 3) L (.int v :: S) σ k w Q) : J g μ d K N pc L S σ k w Q := by
  intro p e R s m args below meth c Z hC hR H locs ls hW hS hl hk hw2
  exact lv_ldcw hC.1 hC.2.1 hC.2.2.2.1 (hC.2.2.2.2.1 _ hw) hd (kk p e R s m args below meth c Z hC hR H locs ls hW hS hl hk hw2)
theorem J_ldc2 {idx : Nat} {v : Int64} (hw : Cond.constantLong μ.1.cls idx v ∈ TB) (hd : decode μ.2.1 pc = .ok (.ldc2_w idx, 3)) (kk : J g μ d K N (pc + 3) L (.long v :: S) σ k w Q) : J g μ d K N pc L S σ k w Q := by
  intro p e R s m args below meth c Z hC hR H locs ls hW hS hl hk hw2
  exact lv_ldc2 hC.1 hC.2.1 hC.2.2.2.1 (hC.2.2.2.2.1 _ hw) hd (kk p e R s m args below meth c Z hC hR H locs ls hW hS hl hk hw2)
theorem J_iload_n {f : Fin 4} {i j : Nat} {x : Int32} (hd : decode μ.2.1 pc = .ok (.iload_n f, 1)) (hj : L[j]? = some (i, .int x)) (hi : (f : Nat) = i) (kk : J g μ d K N (pc + 1) L (.int x :: S) σ k w Q) : J g μ d K N pc L S σ k w Q := by
  intro p e R s m args below meth c Z hC hR H locs ls hW hS hl hk hw
  exact lv_iload_n hC.1 hC.2.1 hd hi (lv_at hl j (lvm_at hj)) (kk p e R s m args below meth c Z hC hR H locs ls hW hS hl hk hw)
theorem J_iload {i j : Nat} {x : Int32} (hd : decode μ.2.1 pc = .ok (.iload i, 2)) (hj : L[j]? = some (i, .int x)) (kk : J g μ d K N (pc + 2) L (.int x :: S) σ k w Q) : J g μ d K N pc L S σ k w Q := by
  intro p e R s m args below meth c Z hC hR H locs ls hW hS hl hk hw
  exact lv_iload hC.1 hC.2.1 hd (lv_at hl j (lvm_at hj)) (kk p e R s m args below meth c Z hC hR H locs ls hW hS hl hk hw)
theorem J_istore_n {f : Fin 4} {i : Nat} {x : Int32} {L' : List (Nat × Value)} (hd : decode μ.2.1 pc = .ok (.istore_n f, 1)) (hi : (f : Nat) = i) (hn : i < μ.2.2.1) (hL : (i, .int x) :: L.filter (fun q => !(q.1 == i) && !(q.1 + 1 == i && q.2.category == 2)) = L') (kk : J g μ d K N (pc + 1) L' S σ k w Q) : J g μ d K N pc L (.int x :: S) σ k w Q := by
  intro p e R s m args below meth c Z hC hR H locs ls hW hS hl hk hw
  exact lv_istore_n hC.1 hC.2.1 hd hi hl hn (lvm_store hL) (fun ls' hl' => kk p e R s m args below meth c Z hC hR H locs ls' hW hS hl' hk hw)
theorem J_istore {i : Nat} {x : Int32} {L' : List (Nat × Value)} (hd : decode μ.2.1 pc = .ok (.istore i, 2)) (hn : i < μ.2.2.1) (hL : (i, .int x) :: L.filter (fun q => !(q.1 == i) && !(q.1 + 1 == i && q.2.category == 2)) = L') (kk : J g μ d K N (pc + 2) L' S σ k w Q) : J g μ d K N pc L (.int x :: S) σ k w Q := by
  intro p e R s m args below meth c Z hC hR H locs ls hW hS hl hk hw
  exact lv_istore hC.1 hC.2.1 hd hl hn (lvm_store hL) (fun ls' hl' => kk p e R s m args below meth c Z hC hR H locs ls' hW hS hl' hk hw)
theorem J_lload_n {f : Fin 4} {i j : Nat} {x : Int64} (hd : decode μ.2.1 pc = .ok (.lload_n f, 1)) (hj : L[j]? = some (i, .long x)) (hi : (f : Nat) = i) (kk : J g μ d K N (pc + 1) L (.long x :: S) σ k w Q) : J g μ d K N pc L S σ k w Q := by
  intro p e R s m args below meth c Z hC hR H locs ls hW hS hl hk hw
  exact lv_lload_n hC.1 hC.2.1 hd hi (lv_at hl j (lvm_at hj)) (kk p e R s m args below meth c Z hC hR H locs ls hW hS hl hk hw)
theorem J_lload {i j : Nat} {x : Int64} (hd : decode μ.2.1 pc = .ok (.lload i, 2)) (hj : L[j]? = some (i, .long x)) (kk : J g μ d K N (pc + 2) L (.long x :: S) σ k w Q) : J g μ d K N pc L S σ k w Q := by
  intro p e R s m args below meth c Z hC hR H locs ls hW hS hl hk hw
  exact lv_lload hC.1 hC.2.1 hd (lv_at hl j (lvm_at hj)) (kk p e R s m args below meth c Z hC hR H locs ls hW hS hl hk hw)
theorem J_lstore_n {f : Fin 4} {i : Nat} {x : Int64} {L' : List (Nat × Value)} (hd : decode μ.2.1 pc = .ok (.lstore_n f, 1)) (hi : (f : Nat) = i) (hn : i + 1 < μ.2.2.1) (hL : (i, .long x) :: L.filter (fun q => !(q.1 == i) && (!(q.1 == i + 1) && !(q.1 + 1 == i && q.2.category == 2))) = L') (kk : J g μ d K N (pc + 1) L' S σ k w Q) : J g μ d K N pc L (.long x :: S) σ k w Q := by
  intro p e R s m args below meth c Z hC hR H locs ls hW hS hl hk hw
  exact lv_lstore_n hC.1 hC.2.1 hd hi hl hn (lvm_store2 hL) (fun ls' hl' => kk p e R s m args below meth c Z hC hR H locs ls' hW hS hl' hk hw)
theorem J_lstore {i : Nat} {x : Int64} {L' : List (Nat × Value)} (hd : decode μ.2.1 pc = .ok (.lstore i, 2)) (hn : i + 1 < μ.2.2.1) (hL : (i, .long x) :: L.filter (fun q => !(q.1 == i) && (!(q.1 == i + 1) && !(q.1 + 1 == i && q.2.category == 2))) = L') (kk : J g μ d K N (pc + 2) L' S σ k w Q) : J g μ d K N pc L (.long x :: S) σ k w Q := by
  intro p e R s m args below meth c Z hC hR H locs ls hW hS hl hk hw
  exact lv_lstore hC.1 hC.2.1 hd hl hn (lvm_store2 hL) (fun ls' hl' => kk p e R s m args below meth c Z hC hR H locs ls' hW hS hl' hk hw)
theorem J_aload_n {f : Fin 4} {i j : Nat} {x : Nat} (hd : decode μ.2.1 pc = .ok (.aload_n f, 1)) (hj : L[j]? = some (i, .ref x)) (hi : (f : Nat) = i) (kk : J g μ d K N (pc + 1) L (.ref x :: S) σ k w Q) : J g μ d K N pc L S σ k w Q := by
  intro p e R s m args below meth c Z hC hR H locs ls hW hS hl hk hw
  exact lv_aload_n hC.1 hC.2.1 hd hi (lv_at hl j (lvm_at hj)) (kk p e R s m args below meth c Z hC hR H locs ls hW hS hl hk hw)
theorem J_aload {i j : Nat} {x : Nat} (hd : decode μ.2.1 pc = .ok (.aload i, 2)) (hj : L[j]? = some (i, .ref x)) (kk : J g μ d K N (pc + 2) L (.ref x :: S) σ k w Q) : J g μ d K N pc L S σ k w Q := by
  intro p e R s m args below meth c Z hC hR H locs ls hW hS hl hk hw
  exact lv_aload hC.1 hC.2.1 hd (lv_at hl j (lvm_at hj)) (kk p e R s m args below meth c Z hC hR H locs ls hW hS hl hk hw)
theorem J_astore_n {f : Fin 4} {i : Nat} {x : Nat} {L' : List (Nat × Value)} (hd : decode μ.2.1 pc = .ok (.astore_n f, 1)) (hi : (f : Nat) = i) (hn : i < μ.2.2.1) (hL : (i, .ref x) :: L.filter (fun q => !(q.1 == i) && !(q.1 + 1 == i && q.2.category == 2)) = L') (kk : J g μ d K N (pc + 1) L' S σ k w Q) : J g μ d K N pc L (.ref x :: S) σ k w Q := by
  intro p e R s m args below meth c Z hC hR H locs ls hW hS hl hk hw
  exact lv_astore_n hC.1 hC.2.1 hd hi hl hn (lvm_store hL) (fun ls' hl' => kk p e R s m args below meth c Z hC hR H locs ls' hW hS hl' hk hw)
theorem J_astore {i : Nat} {x : Nat} {L' : List (Nat × Value)} (hd : decode μ.2.1 pc = .ok (.astore i, 2)) (hn : i < μ.2.2.1) (hL : (i, .ref x) :: L.filter (fun q => !(q.1 == i) && !(q.1 + 1 == i && q.2.category == 2)) = L') (kk : J g μ d K N (pc + 2) L' S σ k w Q) : J g μ d K N pc L (.ref x :: S) σ k w Q := by
  intro p e R s m args below meth c Z hC hR H locs ls hW hS hl hk hw
  exact lv_astore hC.1 hC.2.1 hd hl hn (lvm_store hL) (fun ls' hl' => kk p e R s m args below meth c Z hC hR H locs ls' hW hS hl' hk hw)
theorem J_iinc {i j : Nat} {n : Int} {x v : Int32} {L' : List (Nat × Value)} (hd : decode μ.2.1 pc = .ok (.iinc i n, 3)) (hj : L[j]? = some (i, .int x)) (hv : x + Int32.ofInt n = v) (hn : i < μ.2.2.1) (hL : (i, .int v) :: L.filter (fun q => !(q.1 == i) && !(q.1 + 1 == i && q.2.category == 2)) = L') (kk : J g μ d K N (pc + 3) L' S σ k w Q) : J g μ d K N pc L S σ k w Q := by
  intro p e R s m args below meth c Z hC hR H locs ls hW hS hl hk hw
  exact lv_iinc hC.1 hC.2.1 hd hl (lvm_at hj) hv hn (lvm_store hL) (fun ls' hl' => kk p e R s m args below meth c Z hC hR H locs ls' hW hS hl' hk hw)
theorem J_goto {off : Int} {tgt : Nat} (hd : decode μ.2.1 pc = .ok (.goto off, 3)) (ht : (pc : Int) + off = (tgt : Int)) (kk : J g μ d K N tgt L S σ k w Q) : J g μ d K N pc L S σ k w Q := by
  intro p e R s m args below meth c Z hC hR H locs ls hW hS hl hk hw
  exact lv_goto hC.1 hC.2.1 hd ht (kk p e R s m args below meth c Z hC hR H locs ls hW hS hl hk hw)
theorem J_if_eq {x : Int32} {off : Int} {tgt : Nat} (hd : decode μ.2.1 pc = .ok (.ifCond .eq off, 3)) (ht : (pc : Int) + off = (tgt : Int)) (kt : x = 0 → J g μ d K N tgt L S σ k w Q) (kf : ¬ (x = 0) → J g μ d K N (pc + 3) L S σ k w Q) : J g μ d K N pc L (.int x :: S) σ k w Q := by
  intro p e R s m args below meth c Z hC hR H locs ls hW hS hl hk hw
  exact lv_if_eq hC.1 hC.2.1 hd ht (fun q => kt q p e R s m args below meth c Z hC hR H locs ls hW hS hl hk hw) (fun q => kf q p e R s m args below meth c Z hC hR H locs ls hW hS hl hk hw)
theorem J_icmp_eq {x y : Int32} {off : Int} {tgt : Nat} (hd : decode μ.2.1 pc = .ok (.if_icmp .eq off, 3)) (ht : (pc : Int) + off = (tgt : Int)) (kt : x = y → J g μ d K N tgt L S σ k w Q) (kf : ¬ (x = y) → J g μ d K N (pc + 3) L S σ k w Q) : J g μ d K N pc L (.int y :: .int x :: S) σ k w Q := by
  intro p e R s m args below meth c Z hC hR H locs ls hW hS hl hk hw
  exact lv_icmp_eq hC.1 hC.2.1 hd ht (fun q => kt q p e R s m args below meth c Z hC hR H locs ls hW hS hl hk hw) (fun q => kf q p e R s m args below meth c Z hC hR H locs ls hW hS hl hk hw)
theorem J_if_ne {x : Int32} {off : Int} {tgt : Nat} (hd : decode μ.2.1 pc = .ok (.ifCond .ne off, 3)) (ht : (pc : Int) + off = (tgt : Int)) (kt : ¬ x = 0 → J g μ d K N tgt L S σ k w Q) (kf : x = 0 → J g μ d K N (pc + 3) L S σ k w Q) : J g μ d K N pc L (.int x :: S) σ k w Q := by
  intro p e R s m args below meth c Z hC hR H locs ls hW hS hl hk hw
  exact lv_if_ne hC.1 hC.2.1 hd ht (fun q => kt q p e R s m args below meth c Z hC hR H locs ls hW hS hl hk hw) (fun q => kf q p e R s m args below meth c Z hC hR H locs ls hW hS hl hk hw)
theorem J_icmp_ne {x y : Int32} {off : Int} {tgt : Nat} (hd : decode μ.2.1 pc = .ok (.if_icmp .ne off, 3)) (ht : (pc : Int) + off = (tgt : Int)) (kt : ¬ x = y → J g μ d K N tgt L S σ k w Q) (kf : x = y → J g μ d K N (pc + 3) L S σ k w Q) : J g μ d K N pc L (.int y :: .int x :: S) σ k w Q := by
  intro p e R s m args below meth c Z hC hR H locs ls hW hS hl hk hw
  exact lv_icmp_ne hC.1 hC.2.1 hd ht (fun q => kt q p e R s m args below meth c Z hC hR H locs ls hW hS hl hk hw) (fun q => kf q p e R s m args below meth c Z hC hR H locs ls hW hS hl hk hw)
theorem J_if_lt {x : Int32} {off : Int} {tgt : Nat} (hd : decode μ.2.1 pc = .ok (.ifCond .lt off, 3)) (ht : (pc : Int) + off = (tgt : Int)) (kt : x < 0 → J g μ d K N tgt L S σ k w Q) (kf : ¬ (x < 0) → J g μ d K N (pc + 3) L S σ k w Q) : J g μ d K N pc L (.int x :: S) σ k w Q := by
  intro p e R s m args below meth c Z hC hR H locs ls hW hS hl hk hw
  exact lv_if_lt hC.1 hC.2.1 hd ht (fun q => kt q p e R s m args below meth c Z hC hR H locs ls hW hS hl hk hw) (fun q => kf q p e R s m args below meth c Z hC hR H locs ls hW hS hl hk hw)
theorem J_icmp_lt {x y : Int32} {off : Int} {tgt : Nat} (hd : decode μ.2.1 pc = .ok (.if_icmp .lt off, 3)) (ht : (pc : Int) + off = (tgt : Int)) (kt : x < y → J g μ d K N tgt L S σ k w Q) (kf : ¬ (x < y) → J g μ d K N (pc + 3) L S σ k w Q) : J g μ d K N pc L (.int y :: .int x :: S) σ k w Q := by
  intro p e R s m args below meth c Z hC hR H locs ls hW hS hl hk hw
  exact lv_icmp_lt hC.1 hC.2.1 hd ht (fun q => kt q p e R s m args below meth c Z hC hR H locs ls hW hS hl hk hw) (fun q => kf q p e R s m args below meth c Z hC hR H locs ls hW hS hl hk hw)
theorem J_if_ge {x : Int32} {off : Int} {tgt : Nat} (hd : decode μ.2.1 pc = .ok (.ifCond .ge off, 3)) (ht : (pc : Int) + off = (tgt : Int)) (kt : 0 ≤ x → J g μ d K N tgt L S σ k w Q) (kf : ¬ (0 ≤ x) → J g μ d K N (pc + 3) L S σ k w Q) : J g μ d K N pc L (.int x :: S) σ k w Q := by
  intro p e R s m args below meth c Z hC hR H locs ls hW hS hl hk hw
  exact lv_if_ge hC.1 hC.2.1 hd ht (fun q => kt q p e R s m args below meth c Z hC hR H locs ls hW hS hl hk hw) (fun q => kf q p e R s m args below meth c Z hC hR H locs ls hW hS hl hk hw)
theorem J_icmp_ge {x y : Int32} {off : Int} {tgt : Nat} (hd : decode μ.2.1 pc = .ok (.if_icmp .ge off, 3)) (ht : (pc : Int) + off = (tgt : Int)) (kt : y ≤ x → J g μ d K N tgt L S σ k w Q) (kf : ¬ (y ≤ x) → J g μ d K N (pc + 3) L S σ k w Q) : J g μ d K N pc L (.int y :: .int x :: S) σ k w Q := by
  intro p e R s m args below meth c Z hC hR H locs ls hW hS hl hk hw
  exact lv_icmp_ge hC.1 hC.2.1 hd ht (fun q => kt q p e R s m args below meth c Z hC hR H locs ls hW hS hl hk hw) (fun q => kf q p e R s m args below meth c Z hC hR H locs ls hW hS hl hk hw)
theorem J_if_gt {x : Int32} {off : Int} {tgt : Nat} (hd : decode μ.2.1 pc = .ok (.ifCond .gt off, 3)) (ht : (pc : Int) + off = (tgt : Int)) (kt : 0 < x → J g μ d K N tgt L S σ k w Q) (kf : ¬ (0 < x) → J g μ d K N (pc + 3) L S σ k w Q) : J g μ d K N pc L (.int x :: S) σ k w Q := by
  intro p e R s m args below meth c Z hC hR H locs ls hW hS hl hk hw
  exact lv_if_gt hC.1 hC.2.1 hd ht (fun q => kt q p e R s m args below meth c Z hC hR H locs ls hW hS hl hk hw) (fun q => kf q p e R s m args below meth c Z hC hR H locs ls hW hS hl hk hw)
theorem J_icmp_gt {x y : Int32} {off : Int} {tgt : Nat} (hd : decode μ.2.1 pc = .ok (.if_icmp .gt off, 3)) (ht : (pc : Int) + off = (tgt : Int)) (kt : y < x → J g μ d K N tgt L S σ k w Q) (kf : ¬ (y < x) → J g μ d K N (pc + 3) L S σ k w Q) : J g μ d K N pc L (.int y :: .int x :: S) σ k w Q := by
  intro p e R s m args below meth c Z hC hR H locs ls hW hS hl hk hw
  exact lv_icmp_gt hC.1 hC.2.1 hd ht (fun q => kt q p e R s m args below meth c Z hC hR H locs ls hW hS hl hk hw) (fun q => kf q p e R s m args below meth c Z hC hR H locs ls hW hS hl hk hw)
theorem J_if_le {x : Int32} {off : Int} {tgt : Nat} (hd : decode μ.2.1 pc = .ok (.ifCond .le off, 3)) (ht : (pc : Int) + off = (tgt : Int)) (kt : x ≤ 0 → J g μ d K N tgt L S σ k w Q) (kf : ¬ (x ≤ 0) → J g μ d K N (pc + 3) L S σ k w Q) : J g μ d K N pc L (.int x :: S) σ k w Q := by
  intro p e R s m args below meth c Z hC hR H locs ls hW hS hl hk hw
  exact lv_if_le hC.1 hC.2.1 hd ht (fun q => kt q p e R s m args below meth c Z hC hR H locs ls hW hS hl hk hw) (fun q => kf q p e R s m args below meth c Z hC hR H locs ls hW hS hl hk hw)
theorem J_icmp_le {x y : Int32} {off : Int} {tgt : Nat} (hd : decode μ.2.1 pc = .ok (.if_icmp .le off, 3)) (ht : (pc : Int) + off = (tgt : Int)) (kt : x ≤ y → J g μ d K N tgt L S σ k w Q) (kf : ¬ (x ≤ y) → J g μ d K N (pc + 3) L S σ k w Q) : J g μ d K N pc L (.int y :: .int x :: S) σ k w Q := by
  intro p e R s m args below meth c Z hC hR H locs ls hW hS hl hk hw
  exact lv_icmp_le hC.1 hC.2.1 hd ht (fun q => kt q p e R s m args below meth c Z hC hR H locs ls hW hS hl hk hw) (fun q => kf q p e R s m args below meth c Z hC hR H locs ls hW hS hl hk hw)
end JR
