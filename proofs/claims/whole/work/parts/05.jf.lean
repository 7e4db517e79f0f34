/-! the world of a store, its cells by handle -/
theorem cel_ge {σ : Sto} {h : Nat} {q : Nat × Nat × List (Option Nat)} (hc : cel σ h = some q) : 5 ≤ h ∧ σ.1[h - 5]? = some q := by
  unfold cel at hc
  split at hc
  · cases hc
  · exact ⟨by omega, hc⟩
theorem wl_at {g : GC} {σ : Sto} {h : Nat} {q : Nat × Nat × List (Option Nat)} (hc : cel σ h = some q) : (wl g σ)[h - 5]? = some (ad g h, ce g σ.2.1 σ.2.2 h q) := by
  obtain ⟨h5, hq⟩ := cel_ge hc
  unfold wl
  rw [List.getElem?_mapIdx, hq]
  have e : h - 5 + 5 = h := by omega
  simp [e, ad, show ¬ h < 5 by omega]
theorem wl_len (g : GC) (σ : Sto) : (wl g σ).length = σ.1.length := by simp [wl]
theorem wl_D (g : GC) (σ : Sto) : va_D (AA g) (wl g σ) := by
  have key : ∀ (i : Nat) (p : Nat × va_E), (wl g σ)[i]? = some p → p.1 = gz g + i := by
    intro i p h
    unfold wl at h
    rw [List.getElem?_mapIdx] at h
    cases hq : σ.1[i]? with
    | none => rw [hq] at h; cases h
    | some q => rw [hq] at h; cases h; rfl
  refine ⟨fun i j p q hi hj e => ?_, fun k q h => ?_⟩
  · rw [key i p hi, key j q hj] at e
    omega
  · show gz g ≤ q.1
    rw [key k q h]
    omega
theorem ce_congr {g : GC} {mi mi' : Nat → Nat → Int32} {ml ml' : Nat → Nat → Int64} {h : Nat} {q : Nat × Nat × List (Option Nat)} (h1 : mi h = mi' h) (h2 : ml h = ml' h) : ce g mi ml h q = ce g mi' ml' h q := by
  unfold ce fv
  rw [h1, h2]
theorem wl_set {g : GC} {σ σ' : Sto} {h : Nat} {q q' : Nat × Nat × List (Option Nat)} (hc : cel σ h = some q) (hsk : ∀ i : Nat, σ'.1[i]? = if i = h - 5 then some q' else σ.1[i]?) (hmi : ∀ x, x ≠ h → σ'.2.1 x = σ.2.1 x) (hml : ∀ x, x ≠ h → σ'.2.2 x = σ.2.2 x) :
    (wl g σ).set (h - 5) (ad g h, ce g σ'.2.1 σ'.2.2 h q') = wl g σ' := by
  obtain ⟨h5, hq⟩ := cel_ge hc
  have hlt : h - 5 < σ.1.length := (List.getElem?_eq_some_iff.mp hq).1
  apply List.ext_getElem?
  intro i
  rw [List.getElem?_set, wl_len]
  unfold wl
  rw [List.getElem?_mapIdx, List.getElem?_mapIdx, hsk]
  by_cases e : h - 5 = i
  · subst e
    have e5 : h - 5 + 5 = h := by omega
    simp [hlt, e5, ad, show ¬ h < 5 by omega]
  · rw [if_neg e, if_neg (fun q => e q.symm)]
    cases hi : σ.1[i]? with
    | none => rfl
    | some q0 =>
      simp only [Option.map_some]
      rw [ce_congr (hmi (i + 5) (by omega)).symm (hml (i + 5) (by omega)).symm]
theorem ce_obj {g : GC} {mi : Nat → Nat → Int32} {ml : Nat → Nat → Int64} {h ci n : Nat} {rs : List (Option Nat)} (hci : ci < 9) : ce g mi ml h (ci, n, rs) = .inr (ci, (List.range (nF ci)).map (fv g mi h ci rs)) := by simp [ce, hci]
theorem ce_int {g : GC} {mi : Nat → Nat → Int32} {ml : Nat → Nat → Int64} {h n : Nat} {rs : List (Option Nat)} : ce g mi ml h (100, n, rs) = .inl (gA g 100, n, .inl (mi h)) := by simp [ce]
theorem ce_long {g : GC} {mi : Nat → Nat → Int32} {ml : Nat → Nat → Int64} {h n : Nat} {rs : List (Option Nat)} : ce g mi ml h (101, n, rs) = .inl (gA g 101, n, .inr (.inl (ml h))) := by simp [ce]
theorem ce_102 {g : GC} {mi : Nat → Nat → Int32} {ml : Nat → Nat → Int64} {h n : Nat} {rs : List (Option Nat)} : ce g mi ml h (102, n, rs) = .inl (gA g 102, n, .inr (.inr (.inr (.inr (fun i => (rs.getD i none).map (ad g)))))) := by simp [ce]
theorem ce_103 {g : GC} {mi : Nat → Nat → Int32} {ml : Nat → Nat → Int64} {h n : Nat} {rs : List (Option Nat)} : ce g mi ml h (103, n, rs) = .inl (gA g 103, n, .inr (.inr (.inr (.inr (fun i => (rs.getD i none).map (ad g)))))) := by simp [ce]
theorem rset {σ : SK} {i : Nat} {q : Nat × Nat × List (Option Nat)} (h : σ[i]? = some q) (q' : Nat × Nat × List (Option Nat)) : ∀ j : Nat, (σ.set i q')[j]? = if j = i then some q' else σ[j]? := by
  intro j
  have hlt : i < σ.length := (List.getElem?_eq_some_iff.mp h).1
  rw [List.getElem?_set]
  by_cases e : i = j
  · subst e
    simp [hlt]
  · rw [if_neg e, if_neg (fun q => e q.symm)]
theorem rsame {σ : SK} {i : Nat} {q : Nat × Nat × List (Option Nat)} (h : σ[i]? = some q) : ∀ j : Nat, σ[j]? = if j = i then some q else σ[j]? := by
  intro j
  by_cases e : j = i
  · subst e
    simp [h]
  · rw [if_neg e]
theorem up2_ne {α : Type} {f : Nat → Nat → α} {h k : Nat} {v : α} {x : Nat} (e : x ≠ h) : up2 f h k v x = f x := if_neg e
theorem up2_at {α : Type} {f : Nat → Nat → α} {h k : Nat} {v : α} : up2 f h k v h = fun k' => if k' = k then v else f h k' := if_pos rfl
/-! classes and fields of the pool -/
def CLS (ci : Nat) (C : String) (T : u_T) (n : Nat) (t0 : Nat → FieldType) : Prop :=
  vwCl[ci]? = some (C, T, n) ∧ ci < 9 ∧ n = nF ci ∧ (∀ w ∈ u_ws C T n, w ∈ TB) ∧ (∀ k, k < n → parseFieldDescriptor (T k).2.2.1 = some (t0 k)) ∧ (∀ a, a < n → ∀ b, b < n → a ≠ b → (T a).2.1 ≠ (T b).2.1)
def FLD (own : String) (idx ci k : Nat) (ty : FieldType) (fin : Bool) : Prop :=
  ∃ (C : String) (T : u_T) (n : Nat) (t0 : Nat → FieldType) (ref : String), CLS ci C T n t0 ∧ k < n ∧ t0 k = ty ∧ (T k).2.2.2 = fin ∧ Cond.fieldLink own idx ref (T k).2.1 (T k).2.2.1 ∈ TB ∧ (ref = (T k).1 ∨ Cond.sameField ref (T k).1 (T k).2.1 (T k).2.2.1 ∈ TB)
theorem FLD.same {own : String} {s : State} {args : Array Value} {ref o n d : String} (hts : ∀ w ∈ TB, w.before args s = true) (h : ref = o ∨ Cond.sameField ref o n d ∈ TB) : ∀ x, s.fieldFound? o n d = some x → s.fieldFound? ref n d = some x := by
  intro x hx
  rcases h with rfl | h
  · exact hx
  · exact u_same (hts _ h) x hx
theorem fv_int {g : GC} {mi : Nat → Nat → Int32} {h ci k : Nat} {rs : List (Option Nat)} (hr : isRf ci k = false) : fv g mi h ci rs k = .int (mi h k) := by simp [fv, hr]
theorem fv_ref {g : GC} {mi : Nat → Nat → Int32} {h ci k r : Nat} {rs : List (Option Nat)} (hr : isRf ci k = true) (hk : rs[k]? = some (some r)) : fv g mi h ci rs k = .ref (ad g r) := by simp [fv, hr, List.getD, hk, va_rf]
theorem fv_setI {g : GC} {mi : Nat → Nat → Int32} {h ci kf n : Nat} {rs : List (Option Nat)} {v : Int32} (hr : isRf ci kf = false) (hk : kf < n) : ((List.range n).map (fv g mi h ci rs)).set kf (.int v) = (List.range n).map (fv g (up2 mi h kf v) h ci rs) := by
  apply List.ext_getElem?
  intro i
  rw [List.getElem?_set, List.length_map, List.length_range, List.getElem?_map, List.getElem?_map]
  by_cases e : kf = i
  · subst e
    rw [if_pos rfl, if_pos hk, List.getElem?_range hk, Option.map_some, fv_int hr, up2_at]
    simp
  · rw [if_neg e]
    by_cases hi : i < n
    · rw [List.getElem?_range hi, Option.map_some, Option.map_some]
      unfold fv
      rw [up2_at]
      simp [show ¬ i = kf from fun q => e q.symm]
    · rw [List.getElem?_eq_none (by rw [List.length_range]; omega)]
      rfl
theorem fv_setR {g : GC} {mi : Nat → Nat → Int32} {h ci kf n r : Nat} {rs : List (Option Nat)} (hr : isRf ci kf = true) (hk : kf < n) (hl : kf < rs.length) : ((List.range n).map (fv g mi h ci rs)).set kf (.ref (ad g r)) = (List.range n).map (fv g mi h ci (rs.set kf (some r))) := by
  apply List.ext_getElem?
  intro i
  rw [List.getElem?_set, List.length_map, List.length_range, List.getElem?_map, List.getElem?_map]
  by_cases e : kf = i
  · subst e
    rw [if_pos rfl, if_pos hk, List.getElem?_range hk, Option.map_some, fv_ref (r := r) hr (by rw [List.getElem?_set]; simp [hl])]
  · rw [if_neg e]
    by_cases hi : i < n
    · rw [List.getElem?_range hi, Option.map_some, Option.map_some]
      unfold fv
      rw [List.getD, List.getD, List.getElem?_set, if_neg e]
    · rw [List.getElem?_eq_none (by rw [List.length_range]; omega)]
      rfl
section JF
variable {g : GC} {μ : MRec} {d K N pc : Nat} {L : List (Nat × Value)} {S : List Value} {σ : Sto} {k w : Nat} {Q : Option Value → Sto → Prop}
theorem J_getI {idx ci kf h n0 : Nat} {ty : FieldType} {fin : Bool} {rs : List (Option Nat)} {v : Int32} (hF : FLD μ.1.cls idx ci kf ty fin) (hd : decode μ.2.1 pc = .ok (.getfield idx, 3)) (hc : cel σ h = some (ci, n0, rs)) (hr : isRf ci kf = false) (hv : σ.2.1 h kf = v)
    (kk : J g μ d K N (pc + 3) L (.int v :: S) σ k w Q) : J g μ d K N pc L (.ref h :: S) σ k w Q := by
  intro p e R s m args below meth c Z hC hR H locs ls hW hS hl hk hw
  obtain ⟨C, T, n, t0, ref, ⟨c1, c2, c3, c4, c5, c6⟩, f1, f2, f3, f5, f6⟩ := hF
  have hts := hC.2.2.2.2.1
  have hat := wl_at (g := g) hc
  rw [ce_obj c2] at hat
  refine va_get (D := gD g) (tys := tysG g) (ci := ci) (v := .int v) (C := C) (T := T) (N := n) hC.1 hC.2.1 hts c4 hC.2.2.2.1 hC.2.2.2.2.2.2.2.2.1.1 hW.1 (h - 5) hat c1 kf f1 (hts _ f5) (FLD.same (own := C) hts f6) ?_ hd (kk p e R s m args below meth c Z hC hR H locs ls hW hS hl hk hw)
  rw [List.getElem?_map, List.getElem?_range (by rw [← c3]; exact f1), Option.map_some, fv_int hr, hv]
theorem J_getR {idx ci kf h n0 r : Nat} {ty : FieldType} {fin : Bool} {rs : List (Option Nat)} (hF : FLD μ.1.cls idx ci kf ty fin) (hd : decode μ.2.1 pc = .ok (.getfield idx, 3)) (hc : cel σ h = some (ci, n0, rs)) (hr : isRf ci kf = true) (hv : rs[kf]? = some (some r))
    (kk : J g μ d K N (pc + 3) L (.ref r :: S) σ k w Q) : J g μ d K N pc L (.ref h :: S) σ k w Q := by
  intro p e R s m args below meth c Z hC hR H locs ls hW hS hl hk hw
  obtain ⟨C, T, n, t0, ref, ⟨c1, c2, c3, c4, c5, c6⟩, f1, f2, f3, f5, f6⟩ := hF
  have hts := hC.2.2.2.2.1
  have hat := wl_at (g := g) hc
  rw [ce_obj c2] at hat
  refine va_get (D := gD g) (tys := tysG g) (ci := ci) (v := .ref (ad g r)) (C := C) (T := T) (N := n) hC.1 hC.2.1 hts c4 hC.2.2.2.1 hC.2.2.2.2.2.2.2.2.1.1 hW.1 (h - 5) hat c1 kf f1 (hts _ f5) (FLD.same (own := C) hts f6) ?_ hd (kk p e R s m args below meth c Z hC hR H locs ls hW hS hl hk hw)
  rw [List.getElem?_map, List.getElem?_range (by rw [← c3]; exact f1), Option.map_some, fv_ref hr hv]
theorem J_putI {idx ci kf h n0 : Nat} {ty : FieldType} {rs : List (Option Nat)} {v : Int32} (hF : FLD μ.1.cls idx ci kf ty false) (hd : decode μ.2.1 pc = .ok (.putfield idx, 3)) (hc : cel σ h = some (ci, n0, rs)) (hr : isRf ci kf = false) (hn : narrow ty (.int v) = .int v) (hf : fits ty (.int v) = true)
    (kk : J g μ d K N (pc + 3) L S (σ.1, up2 σ.2.1 h kf v, σ.2.2) k w Q) : J g μ d K N pc L (.int v :: .ref h :: S) σ k w Q := by
  intro p e R s m args below meth c Z hC hR H locs ls hW hS hl hk hw
  obtain ⟨C, T, n, t0, ref, ⟨c1, c2, c3, c4, c5, c6⟩, f1, f2, f3, f5, f6⟩ := hF
  have hts := hC.2.2.2.2.1
  have hat := wl_at (g := g) hc
  rw [ce_obj c2] at hat
  refine va_put (D := gD g) (tys := tysG g) (ci := ci) (v := .int v) (C := C) (T := T) (N := n) (A := AA g) hC.1 hC.2.1 hts c4 t0 c5 c6 hC.2.2.2.1 hC.2.2.2.2.2.2.2.2.1.1 hW.1 (wl_D g σ) hS (h - 5) hat c1 kf f1 (hts _ f5) (FLD.same (own := C) hts f6) f3 (by rw [c5 kf f1, f2]) hn hf (by rw [List.length_map, List.length_range, ← c3]; exact f1) hd (fun H1 locs1 hP1 hD1 hS1 => ?_)
  refine kk p e R s m args below meth c Z hC hR H1 locs1 ls ⟨?_, hW.2⟩ hS1 hl hk hw
  rw [fv_setI hr (by rw [← c3]; exact f1), ← ce_obj (ml := σ.2.2) (n := n0) c2] at hP1
  unfold World
  rw [← wl_set (σ' := (σ.1, up2 σ.2.1 h kf v, σ.2.2)) hc (rsame (cel_ge hc).2) (fun x hx => up2_ne hx) (fun _ _ => rfl)]
  exact hP1
theorem J_putR {idx ci kf h n0 r : Nat} {ty : FieldType} {rs : List (Option Nat)} (hF : FLD μ.1.cls idx ci kf ty false) (hd : decode μ.2.1 pc = .ok (.putfield idx, 3)) (hc : cel σ h = some (ci, n0, rs)) (hr : isRf ci kf = true) (hn : ∀ a, narrow ty (.ref a) = .ref a) (hf : ∀ a, fits ty (.ref a) = true) (hl0 : kf < rs.length)
    (kk : J g μ d K N (pc + 3) L S (σ.1.set (h - 5) (ci, n0, rs.set kf (some r)), σ.2.1, σ.2.2) k w Q) : J g μ d K N pc L (.ref r :: .ref h :: S) σ k w Q := by
  intro p e R s m args below meth c Z hC hR H locs ls hW hS hl hk hw
  obtain ⟨C, T, n, t0, ref, ⟨c1, c2, c3, c4, c5, c6⟩, f1, f2, f3, f5, f6⟩ := hF
  have hts := hC.2.2.2.2.1
  have hat := wl_at (g := g) hc
  rw [ce_obj c2] at hat
  refine va_put (D := gD g) (tys := tysG g) (ci := ci) (v := .ref (ad g r)) (C := C) (T := T) (N := n) (A := AA g) hC.1 hC.2.1 hts c4 t0 c5 c6 hC.2.2.2.1 hC.2.2.2.2.2.2.2.2.1.1 hW.1 (wl_D g σ) hS (h - 5) hat c1 kf f1 (hts _ f5) (FLD.same (own := C) hts f6) f3 (by rw [c5 kf f1, f2]) (hn _) (hf _) (by rw [List.length_map, List.length_range, ← c3]; exact f1) hd (fun H1 locs1 hP1 hD1 hS1 => ?_)
  refine kk p e R s m args below meth c Z hC hR H1 locs1 ls ⟨?_, by rw [List.length_set]; exact hW.2⟩ hS1 hl hk hw
  rw [fv_setR hr (by rw [← c3]; exact f1) hl0, ← ce_obj (ml := σ.2.2) (n := n0) c2] at hP1
  unfold World
  rw [← wl_set (σ' := (σ.1.set (h - 5) (ci, n0, rs.set kf (some r)), σ.2.1, σ.2.2)) hc (rset (cel_ge hc).2 _) (fun _ _ => rfl) (fun _ _ => rfl)]
  exact hP1
theorem J_putF {idx ci kf h n0 r : Nat} {ty : FieldType} {rs : List (Option Nat)} (hF : FLD μ.1.cls idx ci kf ty true) (hcl4 : ∀ C T n, vwCl[ci]? = some (C, T, n) → (T kf).1 = μ.1.cls) (hin : μ.1.name = "<init>") (hd : decode μ.2.1 pc = .ok (.putfield idx, 3)) (hc : cel σ h = some (ci, n0, rs)) (hr : isRf ci kf = true) (hn : ∀ a, narrow ty (.ref a) = .ref a) (hf : ∀ a, fits ty (.ref a) = true) (hl0 : kf < rs.length)
    (kk : J g μ d K N (pc + 3) L S (σ.1.set (h - 5) (ci, n0, rs.set kf (some r)), σ.2.1, σ.2.2) k w Q) : J g μ d K N pc L (.ref r :: .ref h :: S) σ k w Q := by
  intro p e R s m args below meth c Z hC hR H locs ls hW hS hl hk hw
  obtain ⟨C, T, n, t0, ref, ⟨c1, c2, c3, c4, c5, c6⟩, f1, f2, f3, f5, f6⟩ := hF
  have hts := hC.2.2.2.2.1
  have hat := wl_at (g := g) hc
  rw [ce_obj c2] at hat
  refine va_putF (D := gD g) (tys := tysG g) (ci := ci) (v := .ref (ad g r)) (C := C) (T := T) (N := n) (A := AA g) hC.1 hC.2.1 hts c4 t0 c5 c6 hC.2.2.2.1 hC.2.2.2.2.2.2.2.2.1.1 hW.1 (wl_D g σ) hS (h - 5) hat c1 kf f1 (hts _ f5) (FLD.same (own := C) hts f6) f3 (hC.2.2.2.2.2.2.2.1 hin) (hcl4 C T n c1) (by rw [c5 kf f1, f2]) (hn _) (hf _) (by rw [List.length_map, List.length_range, ← c3]; exact f1) hd (fun H1 locs1 hP1 hD1 hS1 => ?_)
  refine kk p e R s m args below meth c Z hC hR H1 locs1 ls ⟨?_, by rw [List.length_set]; exact hW.2⟩ hS1 hl hk hw
  rw [fv_setR hr (by rw [← c3]; exact f1) hl0, ← ce_obj (ml := σ.2.2) (n := n0) c2] at hP1
  unfold World
  rw [← wl_set (σ' := (σ.1.set (h - 5) (ci, n0, rs.set kf (some r)), σ.2.1, σ.2.2)) hc (rset (cel_ge hc).2 _) (fun _ _ => rfl) (fun _ _ => rfl)]
  exact hP1
theorem J_iald {h n0 : Nat} {rs : List (Option Nat)} {i v : Int32} (hd : decode μ.2.1 pc = .ok (.iaload, 1)) (hc : cel σ h = some (100, n0, rs)) (hi : vp_in i n0) (hv : σ.2.1 h i.toNatClampNeg = v)
    (kk : J g μ d K N (pc + 1) L (.int v :: S) σ k w Q) : J g μ d K N pc L (.int i :: .ref h :: S) σ k w Q := by
  intro p e R s m args below meth c Z hC hR H locs ls hW hS hl hk hw
  have hat := wl_at (g := g) hc
  rw [ce_int] at hat
  subst hv
  exact va_iald (D := gD g) (tys := tysG g) hC.1 hC.2.1 hC.2.2.2.2.2.2.2.2.1.1 hW.1 (h - 5) 0 hat rfl hi hd (kk p e R s m args below meth c Z hC hR H locs ls hW hS hl hk hw)
theorem J_lald {h n0 : Nat} {rs : List (Option Nat)} {i : Int32} {v : Int64} (hd : decode μ.2.1 pc = .ok (.laload, 1)) (hc : cel σ h = some (101, n0, rs)) (hi : vp_in i n0) (hv : σ.2.2 h i.toNatClampNeg = v)
    (kk : J g μ d K N (pc + 1) L (.long v :: S) σ k w Q) : J g μ d K N pc L (.int i :: .ref h :: S) σ k w Q := by
  intro p e R s m args below meth c Z hC hR H locs ls hW hS hl hk hw
  have hat := wl_at (g := g) hc
  rw [ce_long] at hat
  subst hv
  exact va_lald (D := gD g) (tys := tysG g) hC.1 hC.2.1 hC.2.2.2.2.2.2.2.2.1.1 hW.1 (h - 5) 1 hat rfl hi hd (kk p e R s m args below meth c Z hC hR H locs ls hW hS hl hk hw)
theorem J_iast {h n0 : Nat} {rs : List (Option Nat)} {i x : Int32} (hd : decode μ.2.1 pc = .ok (.iastore, 1)) (hc : cel σ h = some (100, n0, rs)) (hi : vp_in i n0)
    (kk : J g μ d K N (pc + 1) L S (σ.1, up2 σ.2.1 h i.toNatClampNeg x, σ.2.2) k w Q) : J g μ d K N pc L (.int x :: .int i :: .ref h :: S) σ k w Q := by
  intro p e R s m args below meth c Z hC hR H locs ls hW hS hl hk hw
  have hat := wl_at (g := g) hc
  rw [ce_int] at hat
  refine va_iast (D := gD g) (tys := tysG g) (A := AA g) hC.1 hC.2.1 hC.2.2.2.2.2.2.2.2.1.1 hW.1 (wl_D g σ) hS (h - 5) 0 hat rfl hi hd (fun H1 locs1 hP1 hD1 hS1 => ?_)
  refine kk p e R s m args below meth c Z hC hR H1 locs1 ls ⟨?_, hW.2⟩ hS1 hl hk hw
  have e2 : upd (σ.2.1 h) i.toNatClampNeg x = up2 σ.2.1 h i.toNatClampNeg x h := by rw [up2_at]; rfl
  rw [e2, ← ce_int (ml := σ.2.2) (rs := rs)] at hP1
  unfold World
  rw [← wl_set (σ' := (σ.1, up2 σ.2.1 h i.toNatClampNeg x, σ.2.2)) hc (rsame (cel_ge hc).2) (fun _ hx => up2_ne hx) (fun _ _ => rfl)]
  exact hP1
theorem J_last {h n0 : Nat} {rs : List (Option Nat)} {i : Int32} {x : Int64} (hd : decode μ.2.1 pc = .ok (.lastore, 1)) (hc : cel σ h = some (101, n0, rs)) (hi : vp_in i n0)
    (kk : J g μ d K N (pc + 1) L S (σ.1, σ.2.1, up2 σ.2.2 h i.toNatClampNeg x) k w Q) : J g μ d K N pc L (.long x :: .int i :: .ref h :: S) σ k w Q := by
  intro p e R s m args below meth c Z hC hR H locs ls hW hS hl hk hw
  have hat := wl_at (g := g) hc
  rw [ce_long] at hat
  refine va_last (D := gD g) (tys := tysG g) (A := AA g) hC.1 hC.2.1 hC.2.2.2.2.2.2.2.2.1.1 hW.1 (wl_D g σ) hS (h - 5) 1 hat rfl hi hd (fun H1 locs1 hP1 hD1 hS1 => ?_)
  refine kk p e R s m args below meth c Z hC hR H1 locs1 ls ⟨?_, hW.2⟩ hS1 hl hk hw
  have e2 : vp_updL (σ.2.2 h) i.toNatClampNeg x = up2 σ.2.2 h i.toNatClampNeg x h := by rw [up2_at]; rfl
  rw [e2, ← ce_long (mi := σ.2.1) (rs := rs)] at hP1
  unfold World
  rw [← wl_set (σ' := (σ.1, σ.2.1, up2 σ.2.2 h i.toNatClampNeg x)) hc (rsame (cel_ge hc).2) (fun _ _ => rfl) (fun _ hx => up2_ne hx)]
  exact hP1
theorem J_aald {kd h n0 r : Nat} {rs : List (Option Nat)} {i : Int32} (hkd : kd = 102 ∨ kd = 103) (hd : decode μ.2.1 pc = .ok (.aaload, 1)) (hc : cel σ h = some (kd, n0, rs)) (hi : vp_in i n0) (hv : rs[i.toNatClampNeg]? = some (some r))
    (kk : J g μ d K N (pc + 1) L (.ref r :: S) σ k w Q) : J g μ d K N pc L (.int i :: .ref h :: S) σ k w Q := by
  intro p e R s m args below meth c Z hC hR H locs ls hW hS hl hk hw
  have hat := wl_at (g := g) hc
  have hlt : i.toNatClampNeg < n0 := Nat.not_le.mp fun q => hi (Or.inr q)
  have hval : va_rf ((rs.getD i.toNatClampNeg none).map (ad g)) = .ref (ad g r) := by simp [List.getD, hv, va_rf]
  have hK := hC.2.2.2.2.2.2.2.2.1.1
  rcases hkd with rfl | rfl
  · rw [ce_102] at hat
    refine W.aald (v := va_rf ((rs.getD i.toNatClampNeg none).map (ad g))) (ty := .array .int) hC.1 hC.2.1 (hW.1 _ _ hat) ((hK.2 2 _ rfl).1 n0 (fun j => va_rf ((rs.getD j none).map (ad g)))) rfl (fun q => by cases q) (by show ¬ (i < 0 ∨ (arrV _ _ _).slots.size ≤ _); rw [arrV_size]; exact hi) (by show (arrV _ _ _).slots[_]? = _; rw [arrV_read _ _ hlt]) rfl rfl hd ?_
    rw [hval]
    exact kk p e R s m args below meth c Z hC hR H locs ls hW hS hl hk hw
  · rw [ce_103] at hat
    refine W.aald (v := va_rf ((rs.getD i.toNatClampNeg none).map (ad g))) (ty := .object "WithOneHand$Shelf") hC.1 hC.2.1 (hW.1 _ _ hat) ((hK.2 3 _ rfl).1 n0 (fun j => va_rf ((rs.getD j none).map (ad g)))) rfl (fun q => by cases q) (by show ¬ (i < 0 ∨ (arrV _ _ _).slots.size ≤ _); rw [arrV_size]; exact hi) (by show (arrV _ _ _).slots[_]? = _; rw [arrV_read _ _ hlt]) rfl rfl hd ?_
    rw [hval]
    exact kk p e R s m args below meth c Z hC hR H locs ls hW hS hl hk hw
theorem J_aast {h n0 v n1 : Nat} {rs rs1 : List (Option Nat)} {i : Int32} (hd : decode μ.2.1 pc = .ok (.aastore, 1)) (hc : cel σ h = some (103, n0, rs)) (hc1 : cel σ v = some (5, n1, rs1)) (hi : vp_in i n0) (hl0 : rs.length = n0)
    (kk : J g μ d K N (pc + 1) L S (σ.1.set (h - 5) (103, n0, rs.set i.toNatClampNeg (some v)), σ.2.1, σ.2.2) k w Q) : J g μ d K N pc L (.ref v :: .int i :: .ref h :: S) σ k w Q := by
  intro p e R s m args below meth c Z hC hR H locs ls hW hS hl hk hw
  have hat := wl_at (g := g) hc
  have hat1 := wl_at (g := g) hc1
  rw [ce_103] at hat
  rw [ce_obj (by decide)] at hat1
  have hlt : i.toNatClampNeg < n0 := Nat.not_le.mp fun q => hi (Or.inr q)
  refine va_astq (D := gD g) (tys := tysG g) (A := AA g) (ci := 5) (r := (RX6, TX6, 4)) hC.1 hC.2.1 hC.2.2.2.2.2.2.2.2.1.1 hW.1 (wl_D g σ) hS (h - 5) 3 (v - 5) hat rfl hat1 rfl hi hd (fun H1 locs1 hP1 hD1 hS1 => ?_)
  refine kk p e R s m args below meth c Z hC hR H1 locs1 ls ⟨?_, by rw [List.length_set]; exact hW.2⟩ hS1 hl hk hw
  have e2 : va_up (fun i => (rs.getD i none).map (ad g)) i.toNatClampNeg (some (ad g v)) = (fun j => ((rs.set i.toNatClampNeg (some v)).getD j none).map (ad g)) := by
    funext j
    show (if j = i.toNatClampNeg then some (ad g v) else (rs.getD j none).map (ad g)) = ((rs.set i.toNatClampNeg (some v)).getD j none).map (ad g)
    by_cases e : j = i.toNatClampNeg
    · subst e
      simp [List.getD, List.getElem?_set, hl0, hlt]
    · have e3 : ¬ i.toNatClampNeg = j := fun q => e q.symm
      simp [List.getD, List.getElem?_set, e, e3]
  rw [e2, ← ce_103 (mi := σ.2.1) (ml := σ.2.2) (h := h)] at hP1
  unfold World
  rw [← wl_set (σ' := (σ.1.set (h - 5) (103, n0, rs.set i.toNatClampNeg (some v)), σ.2.1, σ.2.2)) hc (rset (cel_ge hc).2 _) (fun _ _ => rfl) (fun _ _ => rfl)]
  exact hP1
theorem J_alenI {h n0 : Nat} {rs : List (Option Nat)} {v : Int32} (hd : decode μ.2.1 pc = .ok (.arraylength, 1)) (hc : cel σ h = some (100, n0, rs)) (hv : Int32.ofNat n0 = v)
    (kk : J g μ d K N (pc + 1) L (.int v :: S) σ k w Q) : J g μ d K N pc L (.ref h :: S) σ k w Q := by
  intro p e R s m args below meth c Z hC hR H locs ls hW hS hl hk hw
  have hat := wl_at (g := g) hc
  rw [ce_int] at hat
  exact va_alen (D := gD g) (tys := tysG g) hC.1 hC.2.1 hC.2.2.2.2.2.2.2.2.1.1 hW.1 (h - 5) 0 hat rfl hv hd (kk p e R s m args below meth c Z hC hR H locs ls hW hS hl hk hw)
theorem J_alenL {h n0 : Nat} {rs : List (Option Nat)} {v : Int32} (hd : decode μ.2.1 pc = .ok (.arraylength, 1)) (hc : cel σ h = some (101, n0, rs)) (hv : Int32.ofNat n0 = v)
    (kk : J g μ d K N (pc + 1) L (.int v :: S) σ k w Q) : J g μ d K N pc L (.ref h :: S) σ k w Q := by
  intro p e R s m args below meth c Z hC hR H locs ls hW hS hl hk hw
  have hat := wl_at (g := g) hc
  rw [ce_long] at hat
  exact va_alen (D := gD g) (tys := tysG g) hC.1 hC.2.1 hC.2.2.2.2.2.2.2.2.1.1 hW.1 (h - 5) 1 hat rfl hv hd (kk p e R s m args below meth c Z hC hR H locs ls hW hS hl hk hw)
theorem ad_lt {g : GC} {j : Nat} (h : j < 5) : ad g j = gS g j := if_pos h
theorem J_gets {idx j : Nat} (hj : j < 4) (hw0 : Cond.fieldLink μ.1.cls idx (SC j).1 (SC j).2 "[I" ∈ TB) (hd : decode μ.2.1 pc = .ok (.getstatic idx, 3))
    (kk : J g μ d K N (pc + 3) L (.ref j :: S) σ k w Q) : J g μ d K N pc L S σ k w Q := by
  intro p e R s m args below meth c Z hC hR H locs ls hW hS hl hk hw
  have hk2 := kk p e R s m args below meth c Z hC hR H locs ls hW hS hl hk hw
  refine va_gets hC.1 hC.2.1 (hC.2.2.2.2.2.2.2.2.1.2.2.1 j hj) hS hC.2.2.2.1 (hC.2.2.2.2.1 _ hw0) (fun _ h9 => h9) hd ?_
  rw [← ad_lt (g := g) (show j < 5 by omega)]
  exact hk2
theorem J_ialdS {j : Nat} {i v : Int32} (hj : j < 4) (hd : decode μ.2.1 pc = .ok (.iaload, 1)) (hi : vp_in i (SA j).length) (hv : (SA j).getD i.toNatClampNeg 0 = v)
    (kk : J g μ d K N (pc + 1) L (.int v :: S) σ k w Q) : J g μ d K N pc L (.int i :: .ref j :: S) σ k w Q := by
  intro p e R s m args below meth c Z hC hR H locs ls hW hS hl hk hw
  show W p (gL g) e R s m args below meth c H locs k w Z (F0 m pc ls (.int i :: .ref (ad g j) :: S.map (rv g)))
  rw [ad_lt (show j < 5 by omega)]
  exact va_ti hC.1 hC.2.1 (hC.2.2.2.2.2.2.2.2.1.2.2.2.1 j hj) hS hi (by rw [hv]; rfl) hd (kk p e R s m args below meth c Z hC hR H locs ls hW hS hl hk hw)
theorem J_alenS {j : Nat} {v : Int32} (hj : j < 4) (hd : decode μ.2.1 pc = .ok (.arraylength, 1)) (hv : Int32.ofNat (SA j).length = v)
    (kk : J g μ d K N (pc + 1) L (.int v :: S) σ k w Q) : J g μ d K N pc L (.ref j :: S) σ k w Q := by
  intro p e R s m args below meth c Z hC hR H locs ls hW hS hl hk hw
  show W p (gL g) e R s m args below meth c H locs k w Z (F0 m pc ls (.ref (ad g j) :: S.map (rv g)))
  rw [ad_lt (show j < 5 by omega)]
  exact va_tlen hC.1 hC.2.1 (hC.2.2.2.2.2.2.2.2.1.2.2.2.1 j hj) hS hv hd (kk p e R s m args below meth c Z hC hR H locs ls hW hS hl hk hw)
theorem J_ialdX {i v : Int32} (hd : decode μ.2.1 pc = .ok (.iaload, 1)) (hi : vp_in i (gN g)) (hv : gX g i.toNatClampNeg = v)
    (kk : J g μ d K N (pc + 1) L (.int v :: S) σ k w Q) : J g μ d K N pc L (.int i :: .ref 4 :: S) σ k w Q := by
  intro p e R s m args below meth c Z hC hR H locs ls hW hS hl hk hw
  show W p (gL g) e R s m args below meth c H locs k w Z (F0 m pc ls (.int i :: .ref (ad g 4) :: S.map (rv g)))
  rw [ad_lt (by decide)]
  obtain ⟨-, e2, -, -, e5, e6, -⟩ := hC.2.2.2.2.2.2.2.2.1
  subst hv
  exact va_sld hC.1 hC.2.1 e5 (Nat.lt_of_lt_of_le e6 e2) (show ¬ gz g ≤ gS g 4 from Nat.not_le.mpr e6) hS hi hd (kk p e R s m args below meth c Z hC hR H locs ls hW hS hl hk hw)
theorem J_alenX {v : Int32} (hd : decode μ.2.1 pc = .ok (.arraylength, 1)) (hv : Int32.ofNat (gN g) = v)
    (kk : J g μ d K N (pc + 1) L (.int v :: S) σ k w Q) : J g μ d K N pc L (.ref 4 :: S) σ k w Q := by
  intro p e R s m args below meth c Z hC hR H locs ls hW hS hl hk hw
  show W p (gL g) e R s m args below meth c H locs k w Z (F0 m pc ls (.ref (ad g 4) :: S.map (rv g)))
  rw [ad_lt (by decide)]
  obtain ⟨-, e2, -, -, e5, e6, -⟩ := hC.2.2.2.2.2.2.2.2.1
  subst hv
  exact va_slen hC.1 hC.2.1 e5 (Nat.lt_of_lt_of_le e6 e2) (show ¬ gz g ≤ gS g 4 from Nat.not_le.mpr e6) hS hd (kk p e R s m args below meth c Z hC hR H locs ls hW hS hl hk hw)
theorem J_copyI {idx h0 h1 n0 n1 : Nat} {rs0 rs1 : List (Option Nat)} {sp dp n : Int32} (hw0 : Cond.methodLink μ.1.cls idx arraycopyName ∈ TB) (hd : decode μ.2.1 pc = .ok (.invokestatic idx, 3)) (hc0 : cel σ h0 = some (100, n0, rs0)) (hc1 : cel σ h1 = some (100, n1, rs1))
    (a1 : ¬ sp < 0) (a2 : ¬ dp < 0) (a3 : ¬ n < 0) (a4 : sp.toNatClampNeg + n.toNatClampNeg ≤ n0) (a5 : dp.toNatClampNeg + n.toNatClampNeg ≤ n1) (hS8 : (S.map fun v => v.category).sum ≤ 8)
    (kk : J g μ d K N (pc + 3) L S (σ.1, rs2 σ.2.1 h1 (va_cpy (σ.2.1 h0) (σ.2.1 h1) sp.toNatClampNeg dp.toNatClampNeg n.toNatClampNeg), σ.2.2) k w Q) : J g μ d K N pc L (.int n :: .int dp :: .ref h1 :: .int sp :: .ref h0 :: S) σ k w Q := by
  intro p e R s m args below meth c Z hC hR H locs ls hW hS hl hk hw
  have hat0 := wl_at (g := g) hc0
  have hat1 := wl_at (g := g) hc1
  rw [ce_int] at hat0 hat1
  have hts := hC.2.2.2.2.1
  have hfr := hC.2.2.2.2.2.2.2.2.2
  refine va_copyi (D := gD g) (tys := tysG g) (A := AA g) (ty := .int) hC.1 hC.2.1 (hC.2.2.1.trans hl.1.symm) hC.2.2.2.1 (hts _ hw0) (hts _ (tb 427 (by decide +kernel))) (hts _ (tb 426 (by decide +kernel))) (hts _ (tb 113 (by decide +kernel))) hC.2.2.2.2.2.2.2.2.1.1 hW.1 (wl_D g σ) hS (h0 - 5) (h1 - 5) 0 0 hat0 hat1 rfl rfl rfl a1 a2 a3 a4 a5 (fun _ _ => rfl) (by omega) ?_ hd (fun H1 locs1 hP1 hD1 hS1 => ?_)
  · rw [rv_cats]
    have h9 : nativeFrameWords "java/lang/System" "arraycopy" 5 + 11 ≤ 32 := by decide +kernel
    omega
  · refine kk p e R s m args below meth c Z hC hR H1 locs1 ls ⟨?_, hW.2⟩ hS1 hl hk hw
    have e2 : va_cpy (σ.2.1 h0) (σ.2.1 h1) sp.toNatClampNeg dp.toNatClampNeg n.toNatClampNeg = rs2 σ.2.1 h1 (va_cpy (σ.2.1 h0) (σ.2.1 h1) sp.toNatClampNeg dp.toNatClampNeg n.toNatClampNeg) h1 := (if_pos rfl).symm
    rw [e2, ← ce_int (ml := σ.2.2) (rs := rs1)] at hP1
    unfold World
    rw [← wl_set (σ' := (σ.1, rs2 σ.2.1 h1 (va_cpy (σ.2.1 h0) (σ.2.1 h1) sp.toNatClampNeg dp.toNatClampNeg n.toNatClampNeg), σ.2.2)) hc1 (rsame (cel_ge hc1).2) (fun _ hx => if_neg hx) (fun _ _ => rfl)]
    exact hP1
theorem J_copyL {idx h0 h1 n0 n1 : Nat} {rs0 rs1 : List (Option Nat)} {sp dp n : Int32} (hw0 : Cond.methodLink μ.1.cls idx arraycopyName ∈ TB) (hd : decode μ.2.1 pc = .ok (.invokestatic idx, 3)) (hc0 : cel σ h0 = some (101, n0, rs0)) (hc1 : cel σ h1 = some (101, n1, rs1))
    (a1 : ¬ sp < 0) (a2 : ¬ dp < 0) (a3 : ¬ n < 0) (a4 : sp.toNatClampNeg + n.toNatClampNeg ≤ n0) (a5 : dp.toNatClampNeg + n.toNatClampNeg ≤ n1) (hS8 : (S.map fun v => v.category).sum ≤ 8)
    (kk : J g μ d K N (pc + 3) L S (σ.1, σ.2.1, rs2 σ.2.2 h1 (va_cpy (σ.2.2 h0) (σ.2.2 h1) sp.toNatClampNeg dp.toNatClampNeg n.toNatClampNeg)) k w Q) : J g μ d K N pc L (.int n :: .int dp :: .ref h1 :: .int sp :: .ref h0 :: S) σ k w Q := by
  intro p e R s m args below meth c Z hC hR H locs ls hW hS hl hk hw
  have hat0 := wl_at (g := g) hc0
  have hat1 := wl_at (g := g) hc1
  rw [ce_long] at hat0 hat1
  have hts := hC.2.2.2.2.1
  have hfr := hC.2.2.2.2.2.2.2.2.2
  refine va_copyl (D := gD g) (tys := tysG g) (A := AA g) (ty := .long) hC.1 hC.2.1 (hC.2.2.1.trans hl.1.symm) hC.2.2.2.1 (hts _ hw0) (hts _ (tb 427 (by decide +kernel))) (hts _ (tb 426 (by decide +kernel))) (hts _ (tb 113 (by decide +kernel))) hC.2.2.2.2.2.2.2.2.1.1 hW.1 (wl_D g σ) hS (h0 - 5) (h1 - 5) 1 1 hat0 hat1 rfl rfl rfl a1 a2 a3 a4 a5 (fun _ _ => rfl) (by omega) ?_ hd (fun H1 locs1 hP1 hD1 hS1 => ?_)
  · rw [rv_cats]
    have h9 : nativeFrameWords "java/lang/System" "arraycopy" 5 + 11 ≤ 32 := by decide +kernel
    omega
  · refine kk p e R s m args below meth c Z hC hR H1 locs1 ls ⟨?_, hW.2⟩ hS1 hl hk hw
    have e2 : va_cpy (σ.2.2 h0) (σ.2.2 h1) sp.toNatClampNeg dp.toNatClampNeg n.toNatClampNeg = rs2 σ.2.2 h1 (va_cpy (σ.2.2 h0) (σ.2.2 h1) sp.toNatClampNeg dp.toNatClampNeg n.toNatClampNeg) h1 := (if_pos rfl).symm
    rw [e2, ← ce_long (mi := σ.2.1) (rs := rs1)] at hP1
    unfold World
    rw [← wl_set (σ' := (σ.1, σ.2.1, rs2 σ.2.2 h1 (va_cpy (σ.2.2 h0) (σ.2.2 h1) sp.toNatClampNeg dp.toNatClampNeg n.toNatClampNeg))) hc1 (rsame (cel_ge hc1).2) (fun _ _ => rfl) (fun _ hx => if_neg hx)]
    exact hP1
end JF
