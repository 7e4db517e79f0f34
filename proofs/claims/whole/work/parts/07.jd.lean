section JD
variable {g : GC} {μ : MRec} {d K N pc : Nat} {L : List (Nat × Value)} {S : List Value} {σ : Sto} {k w : Nat} {Q : Option Value → Sto → Prop}
theorem J_callS {idx n d' K' N' : Nat} {As St : List Value} {ν : MRec} {Q1 : Option Value → Sto → Prop} (hlk : LKS μ.1.cls idx ν n) (hd : decode μ.2.1 pc = .ok (.invokestatic idx, 3)) (hM : JC g ν d' K' N' As σ Q1) (hdd : d' + 1 ≤ d) (hn : As.length = n)
    (hst : St = As.reverse ++ S) (hS8 : (S.map fun v => v.category).sum ≤ 8) (hK : k + K' ≤ K) (hN : w + N' ≤ N) (hlen : ∀ v σ1, Q1 v σ1 → σ1.1.length = σ.1.length + K') (kk : ∀ v σ1, Q1 v σ1 → J g μ d K N (pc + 3) L (v.toList ++ S) σ1 (k + K') (w + N') Q) : J g μ d K N pc L St σ k w Q := by
  intro p e R s m args below meth c Z hC hR H locs ls hW hS hl hk hw
  intro T0 hT0 X0
  have hE := hC.2.2.2.2.2.2.2.2.1
  have hsz := sz_eq hE hW.1 hW.2 hS hT0 X0
  obtain ⟨b1, b2, b3, b4⟩ := hC.2.2.2.2.2.2.2.2.2
  have hgoal : W p (gL g) e R s m args below meth c H locs k w Z (F0 m pc ls (St.map (rv g))) := by
    refine callG (va_runS (As := As.map (rv g)) (rest := S.map (rv g)) ⟨hC.1, hC.2.1, hC.2.2.1, hC.2.2.2.1, hC.2.2.2.2.1⟩ hM (va_cwS n hC.2.2.2.2.1 hlk.1 rfl rfl rfl hlk.2.1 ⟨?_, ?_⟩) ⟨PcG.blind, pre_env hE hW.1 hsz hS⟩ rfl (by rw [List.length_map]; exact hn) hl.1 ?_ (lv_room (by rw [rv_cats]; exact hS8)) hd ⟨by omega, by omega⟩) hS (fun v σ1 H1 locs1 hQ hW1 hS1 => ?_)
    · show d' + 1 + 1 ≤ R.frames
      omega
    · have := hlk.2.2
      show 8 + (ν.2.2.1 + 11) + 40 * (d' + 1) ≤ R.locals
      omega
    · subst hst
      show ((As.reverse ++ S).map (rv g)) = (As.map (rv g)).reverse ++ S.map (rv g)
      rw [List.map_append, List.map_reverse]
    · rw [rv_toList]
      have hl1 := hlen v σ1 hQ
      exact kk v σ1 hQ p e R s m args below meth c Z hC hR H1 locs1 ls ⟨hW1, by have := hW.2; omega⟩ hS1 hl hK hN
  exact hgoal T0 hT0 X0
theorem J_callU {idx h ci n0 n d' K' N' : Nat} {C owner : String} {x : MethodName} {T : u_T} {nf : Nat} {rs : List (Option Nat)} {As St : List Value} {ν : MRec} {Q1 : Option Value → Sto → Prop} (hlk : LKU μ.1.cls idx C owner x ν n) (hvw : vwCl[ci]? = some (C, T, nf)) (hci : ci < 9) (hd : decode μ.2.1 pc = .ok (.invokevirtual idx, 3)) (hc : cel σ h = some (ci, n0, rs)) (hM : JC g ν d' K' N' (.ref h :: As) σ Q1) (hdd : d' + 1 ≤ d) (hn : As.length = n)
    (hst : St = As.reverse ++ .ref h :: S) (hS8 : (S.map fun v => v.category).sum ≤ 8) (hK : k + K' ≤ K) (hN : w + N' ≤ N) (hlen : ∀ v σ1, Q1 v σ1 → σ1.1.length = σ.1.length + K') (kk : ∀ v σ1, Q1 v σ1 → J g μ d K N (pc + 3) L (v.toList ++ S) σ1 (k + K') (w + N') Q) : J g μ d K N pc L St σ k w Q := by
  intro p e R s m args below meth c Z hC hR H locs ls hW hS hl hk hw
  intro T0 hT0 X0
  have hE := hC.2.2.2.2.2.2.2.2.1
  have hsz := sz_eq hE hW.1 hW.2 hS hT0 X0
  obtain ⟨b1, b2, b3, b4⟩ := hC.2.2.2.2.2.2.2.2.2
  have hat := wl_at (g := g) hc
  rw [ce_obj hci] at hat
  have hgoal : W p (gL g) e R s m args below meth c H locs k w Z (F0 m pc ls (St.map (rv g))) := by
    refine callG (va_runU (As := As.map (rv g)) (rest := S.map (rv g)) (b := ad g h) ⟨hC.1, hC.2.1, hC.2.2.1, hC.2.2.2.1, hC.2.2.2.2.1⟩ hM (va_cwU n hC.2.2.2.2.1 hlk.1 rfl rfl rfl hlk.2.1 hlk.2.2.1 ⟨?_, ?_⟩) ⟨PcG.blind, va_recv hE.1 hW.1 hvw hat, pre_env hE hW.1 hsz hS⟩ rfl (by rw [List.length_map]; exact hn) hl.1 ?_ (lv_room (by rw [rv_cats]; exact hS8)) hd ⟨by omega, by omega⟩) hS (fun v σ1 H1 locs1 hQ hW1 hS1 => ?_)
    · show d' + 1 + 1 ≤ R.frames
      omega
    · have := hlk.2.2.2
      show 8 + (ν.2.2.1 + 11) + 40 * (d' + 1) ≤ R.locals
      omega
    · subst hst
      show ((As.reverse ++ Value.ref h :: S).map (rv g)) = (As.map (rv g)).reverse ++ .ref (ad g h) :: S.map (rv g)
      rw [List.map_append, List.map_reverse, List.map_cons]
      rfl
    · rw [rv_toList]
      have hl1 := hlen v σ1 hQ
      exact kk v σ1 hQ p e R s m args below meth c Z hC hR H1 locs1 ls ⟨hW1, by have := hW.2; omega⟩ hS1 hl hK hN
  exact hgoal T0 hT0 X0
def LKA (own : String) (idx : Nat) (C owner : String) (x : MethodName) (ν : MRec) (n : Nat) : Prop := GoodIn TB (va_wsU own idx C owner x ν.1 (wsOf ν)) ∧ (⟨owner, x.name, x.desc⟩ : MethodName) = dcl ∧ (owner ≠ "java/lang/invoke/MethodHandle" ∧ owner ≠ "java/lang/invoke/VarHandle" ∧ (parseMethodDescriptor x.desc).map (fun d => d.parameters.length) = some n) ∧ ν.2.2.1 ≤ 21
theorem J_callA {idx h ci n0 n d' K' N' : Nat} {C owner : String} {x : MethodName} {T : u_T} {nf : Nat} {rs : List (Option Nat)} {As St : List Value} {ν : MRec} {Q1 : Option Value → Sto → Prop} (hlk : LKA μ.1.cls idx C owner x ν n) (hvw : vwCl[ci]? = some (C, T, nf)) (hci : ci < 9) (hd : decode μ.2.1 pc = .ok (.invokevirtual idx, 3)) (hc : cel σ h = some (ci, n0, rs)) (hM : JC g ν d' K' N' (.ref h :: As) σ Q1) (hdd : d' + 1 ≤ d) (hn : As.length = n)
    (hst : St = As.reverse ++ .ref h :: S) (hS8 : (S.map fun v => v.category).sum ≤ 8) (hK : k + K' ≤ K) (hN : w + N' ≤ N) (hlen : ∀ v σ1, Q1 v σ1 → σ1.1.length = σ.1.length + K') (kk : ∀ v σ1, Q1 v σ1 → J g μ d K N (pc + 3) L (v.toList ++ S) σ1 (k + K') (w + N') Q) : J g μ d K N pc L St σ k w Q := by
  intro p e R s m args below meth c Z hC hR H locs ls hW hS hl hk hw
  intro T0 hT0 X0
  have hE := hC.2.2.2.2.2.2.2.2.1
  have hsz := sz_eq hE hW.1 hW.2 hS hT0 X0
  obtain ⟨b1, b2, b3, b4⟩ := hC.2.2.2.2.2.2.2.2.2
  have hat := wl_at (g := g) hc
  rw [ce_obj hci] at hat
  have hgoal : W p (gL g) e R s m args below meth c H locs k w Z (F0 m pc ls (St.map (rv g))) := by
    refine callG (va_runU (As := As.map (rv g)) (rest := S.map (rv g)) (b := ad g h) ⟨hC.1, hC.2.1, hC.2.2.1, hC.2.2.2.1, hC.2.2.2.2.1⟩ hM (va_cwA n hC.2.2.2.2.1 hlk.1 rfl rfl rfl (by rw [hlk.2.1]; exact hE.2.2.2.2.2.2.2.2.2) hlk.2.2.1 ⟨?_, ?_⟩) ⟨PcG.blind, va_recv hE.1 hW.1 hvw hat, pre_env hE hW.1 hsz hS⟩ rfl (by rw [List.length_map]; exact hn) hl.1 ?_ (lv_room (by rw [rv_cats]; exact hS8)) hd ⟨by omega, by omega⟩) hS (fun v σ1 H1 locs1 hQ hW1 hS1 => ?_)
    · show d' + 1 + 1 ≤ R.frames
      omega
    · have := hlk.2.2.2
      show 8 + (ν.2.2.1 + 11) + 40 * (d' + 1) ≤ R.locals
      omega
    · subst hst
      show ((As.reverse ++ Value.ref h :: S).map (rv g)) = (As.map (rv g)).reverse ++ .ref (ad g h) :: S.map (rv g)
      rw [List.map_append, List.map_reverse, List.map_cons]
      rfl
    · rw [rv_toList]
      have hl1 := hlen v σ1 hQ
      exact kk v σ1 hQ p e R s m args below meth c Z hC hR H1 locs1 ls ⟨hW1, by have := hW.2; omega⟩ hS1 hl hK hN
  exact hgoal T0 hT0 X0
/-- constructors: no arguments -/
theorem J_callI {idx h d' K' N' : Nat} {ν : MRec} {Q1 : Option Value → Sto → Prop} (hG : ∀ w ∈ [Cond.methodLink μ.1.cls idx ν.1, Cond.instanceMethod ν.1, Cond.initialized ν.1.cls, Cond.code ν.1 ν.2.1 ν.2.2.1 none], w ∈ TB) (hret : ν.2.2.2 = none) (hny : ν.1.name = "<init>") (hmh : ν.1.cls ≠ "java/lang/invoke/MethodHandle" ∧ ν.1.cls ≠ "java/lang/invoke/VarHandle" ∧ (parseMethodDescriptor ν.1.desc).map (fun d => d.parameters.length) = some 0) (hmx : ν.2.2.1 ≤ 21)
    (hd : decode μ.2.1 pc = .ok (.invokespecial idx, 3)) (hM : JC g ν d' K' N' [.ref h] σ Q1) (hdd : d' + 1 ≤ d)
    (hS8 : (S.map fun v => v.category).sum ≤ 8) (hK : k + K' ≤ K) (hN : w + N' ≤ N) (hlen : ∀ v σ1, Q1 v σ1 → σ1.1.length = σ.1.length + K') (kk : ∀ v σ1, Q1 v σ1 → J g μ d K N (pc + 3) L (v.toList ++ S) σ1 (k + K') (w + N') Q) : J g μ d K N pc L (.ref h :: S) σ k w Q := by
  intro p e R s m args below meth c Z hC hR H locs ls hW hS hl hk hw
  intro T0 hT0 X0
  have hE := hC.2.2.2.2.2.2.2.2.1
  have hsz := sz_eq hE hW.1 hW.2 hS hT0 X0
  obtain ⟨b1, b2, b3, b4⟩ := hC.2.2.2.2.2.2.2.2.2
  have hts := hC.2.2.2.2.1
  have hGw : GoodIn TB (wsOf ν) := good_ws (ws := []) (by rw [hret]; exact hG _ (by simp)) (fun _ h => absurd h List.not_mem_nil)
  have hgoal : W p (gL g) e R s m args below meth c H locs k w Z (F0 m pc ls ((.ref h :: S).map (rv g))) := by
    refine callG (va_runI (As := []) (rest := S.map (rv g)) (b := ad g h) ⟨hC.1, hC.2.1, hC.2.2.1, hC.2.2.2.1, hts⟩ hM (cwI 0 hts hGw (show wsOf ν = Cond.code ν.1 ν.2.1 ν.2.2.1 none :: TB by unfold wsOf; rw [hret]) rfl rfl (hts _ (hG _ (by simp))) (hts _ (hG _ (by simp))) (hts _ (hG _ (by simp))) hny hmh ⟨?_, ?_⟩) ⟨PcG.blind, pre_env (as := [.ref h]) hE hW.1 hsz hS⟩ rfl rfl hl.1 rfl (lv_room (by rw [rv_cats]; exact hS8)) hd ⟨by omega, by omega⟩) hS (fun v σ1 H1 locs1 hQ hW1 hS1 => ?_)
    · show d' + 1 + 1 ≤ R.frames
      omega
    · show 8 + (ν.2.2.1 + 11) + 40 * (d' + 1) ≤ R.locals
      omega
    · rw [rv_toList]
      have hl1 := hlen v σ1 hQ
      exact kk v σ1 hQ p e R s m args below meth c Z hC hR H1 locs1 ls ⟨hW1, by have := hW.2; omega⟩ hS1 hl hK hN
  exact hgoal T0 hT0 X0
theorem J_callIN {idx h d' K' N' : Nat} {host : String} {ν : MRec} {Q1 : Option Value → Sto → Prop} (hne : (μ.1.cls, idx, ν.1, host) ∈ nestL) (hG : ∀ w ∈ [Cond.instanceMethod ν.1, Cond.initialized ν.1.cls, Cond.code ν.1 ν.2.1 ν.2.2.1 none], w ∈ TB) (hret : ν.2.2.2 = none) (hny : ν.1.name = "<init>") (hmh : ν.1.cls ≠ "java/lang/invoke/MethodHandle" ∧ ν.1.cls ≠ "java/lang/invoke/VarHandle" ∧ (parseMethodDescriptor ν.1.desc).map (fun d => d.parameters.length) = some 0) (hmx : ν.2.2.1 ≤ 21)
    (hd : decode μ.2.1 pc = .ok (.invokespecial idx, 3)) (hM : JC g ν d' K' N' [.ref h] σ Q1) (hdd : d' + 1 ≤ d)
    (hS8 : (S.map fun v => v.category).sum ≤ 8) (hK : k + K' ≤ K) (hN : w + N' ≤ N) (hlen : ∀ v σ1, Q1 v σ1 → σ1.1.length = σ.1.length + K') (kk : ∀ v σ1, Q1 v σ1 → J g μ d K N (pc + 3) L (v.toList ++ S) σ1 (k + K') (w + N') Q) : J g μ d K N pc L (.ref h :: S) σ k w Q := by
  intro p e R s m args below meth c Z hC hR H locs ls hW hS hl hk hw
  intro T0 hT0 X0
  have hE := hC.2.2.2.2.2.2.2.2.1
  have hsz := sz_eq hE hW.1 hW.2 hS hT0 X0
  obtain ⟨b1, b2, b3, b4⟩ := hC.2.2.2.2.2.2.2.2.2
  have hts := hC.2.2.2.2.1
  have hGw : GoodIn TB (wsOf ν) := good_ws (ws := []) (by rw [hret]; exact hG _ (by simp)) (fun _ h => absurd h List.not_mem_nil)
  have hNw : va_Nw (.methodLinkNest μ.1.cls idx ν.1 host) s := hE.2.2.2.2.2.2.1 _ hne
  have hgoal : W p (gL g) e R s m args below meth c H locs k w Z (F0 m pc ls ((.ref h :: S).map (rv g))) := by
    refine callG (va_runIN (As := []) (rest := S.map (rv g)) (b := ad g h) (host := host) ⟨hC.1, hC.2.1, hC.2.2.1, hC.2.2.2.1, hts⟩ hM ⟨va_cnB 0 hts hGw (show wsOf ν = Cond.code ν.1 ν.2.1 ν.2.2.1 none :: TB by unfold wsOf; rw [hret]) rfl rfl hNw (hts _ (hG _ (by simp))) hmh ⟨?_, ?_⟩, hny, hts _ (hG _ (by simp))⟩ ⟨PcG.blind, pre_env (as := [.ref h]) hE hW.1 hsz hS⟩ rfl rfl hl.1 rfl (lv_room (by rw [rv_cats]; exact hS8)) hd ⟨by omega, by omega⟩) hS (fun v σ1 H1 locs1 hQ hW1 hS1 => ?_)
    · show d' + 1 + 1 ≤ R.frames
      omega
    · show 8 + (ν.2.2.1 + 11) + 40 * (d' + 1) ≤ R.locals
      omega
    · rw [rv_toList]
      have hl1 := hlen v σ1 hQ
      exact kk v σ1 hQ p e R s m args below meth c Z hC hR H1 locs1 ls ⟨hW1, by have := hW.2; omega⟩ hS1 hl hK hN
  exact hgoal T0 hT0 X0
theorem J_objInit {idx h : Nat} (hG : ∀ w ∈ [Cond.methodLink μ.1.cls idx Lib.objectInit, Cond.instanceMethod Lib.objectInit, Cond.code Lib.objectInit ⟨#[0xb1]⟩ 1 none], w ∈ TB) (hd : decode μ.2.1 pc = .ok (.invokespecial idx, 3)) (hS8 : (S.map fun v => v.category).sum ≤ 8) (kk : J g μ d K N (pc + 3) L S σ k w Q) : J g μ d K N pc L (.ref h :: S) σ k w Q := by
  intro p e R s m args below meth c Z hC hR H locs ls hW hS hl hk hw
  obtain ⟨b1, b2, b3, b4⟩ := hC.2.2.2.2.2.2.2.2.2
  have hts := hC.2.2.2.2.1
  have h8 : 2 * (F0 m pc ls ((.ref h :: S).map (rv g))).monitorRoom + ((S.map (rv g)).map fun v => v.category).sum ≤ 8 := lv_room (by rw [rv_cats]; exact hS8)
  exact W.objInit hC.1 hC.2.1 hC.2.2.2.1 (hts _ (hG _ (by simp))) (hts _ (hG _ (by simp))) (hts _ (hG _ (by simp))) rfl (hl.1.trans hC.2.2.1.symm) rfl hd (by omega) (by omega) (kk p e R s m args below meth c Z hC hR H locs ls hW hS hl hk hw)
/-- a new object, its fields at their default -/
theorem J_new {idx ci n : Nat} {C : String} {T : u_T} {t0 : Nat → FieldType} (hcl : CLS ci C T n t0) (hG : ∀ w ∈ [Cond.classLink μ.1.cls idx C, Cond.instantiable C n, Cond.initialized C], w ∈ TB) (hdef : ∀ j, j < n → defaultValue (t0 j) = if isRf ci j = true then .null else .int 0) (hd : decode μ.2.1 pc = .ok (.new idx, 3)) (hK : k + 1 ≤ K) (hN : w + n ≤ N)
    (kk : J g μ d K N (pc + 3) L (.ref (σ.1.length + 5) :: S) (σ.1 ++ [(ci, 0, List.replicate n none)], rsN σ.2.1 (σ.1.length + 5) 0, rsN σ.2.2 (σ.1.length + 5) 0) (k + 1) (w + n) Q) : J g μ d K N pc L S σ k w Q := by
  intro p e R s m args below meth c Z hC hR H locs ls hW hS hl hk hw
  intro T0 hT0 X0
  have hE := hC.2.2.2.2.2.2.2.2.1
  have hsz := sz_eq hE hW.1 hW.2 hS hT0 X0
  obtain ⟨b1, b2, b3, b4⟩ := hC.2.2.2.2.2.2.2.2.2
  have hts := hC.2.2.2.2.1
  obtain ⟨c1, c2, c3, c4, c5, c6⟩ := hcl
  have hKn := hE.1.1 ci _ c1
  have hgoal : W p (gL g) e R s m args below meth c H locs k w Z (F0 m pc ls (S.map (rv g))) := by
    refine W.newcK (C := C) (n := n) hC.1 hC.2.1 hC.2.2.2.1 (hts _ (hG _ (by simp))) (hts _ (hG _ (by simp))) (hts _ (hG _ (by simp))) rfl hd (by omega) (by omega) hKn.2.1 hsz fun H1 kC hkC e1 z1 o1 => ?_
    have hadr : ad g (σ.1.length + 5) = gz g + σ.1.length := by unfold ad; rw [if_neg (by omega)]; omega
    have hk2 : ∀ (j : Nat) (x : Nat × va_E), (wl g σ)[j]? = some x → H1[x.1]? = H[x.1]? := fun j x hx => o1 x.1 (by have := (hW.1 j x hx).lt; omega)
    have := kk p e R s m args below meth c Z hC hR H1 locs ls ⟨?_, ?_⟩ ?_ hl hK hN
    · rw [← hadr]
      exact this
    · unfold World
      rw [wl_push (σ := σ) (mi := rsN σ.2.1 (σ.1.length + 5) 0) (ml := rsN σ.2.2 (σ.1.length + 5) 0) _ (fun x hx => if_neg hx) (fun x hx => if_neg hx)]
      refine (hW.1.kept hk2).app (fun j x hx => ?_)
      have hz : j < 1 := (List.getElem?_eq_some_iff.mp hx).1
      rw [show j = 0 by omega] at hx
      cases hx
      rw [ce_obj c2]
      refine ⟨_, c1, (u_born t0 hts c4 hKn hkC e1 c5).to fun j hj => ?_⟩
      rw [hdef j hj]
      have hj2 : j < nF ci := by rw [← c3]; exact hj
      simp only [vp_V, List.getD, List.getElem?_map, List.getElem?_range hj2, Option.map_some, Option.getD_some]
      unfold fv
      split
      · simp [List.getD, List.getElem?_replicate, va_rf, hj]
      · simp [rsN, rs2]
    · rw [List.length_append]
      have := hW.2
      simp only [List.length_cons, List.length_nil]
      omega
    · refine ⟨Nat.le_trans hS.1 (by omega), fun x h1 h2 => (o1 x ?_).trans (hS.2.1 x h1 h2), hS.2.2⟩
      have := hS.1
      omega
  exact hgoal T0 hT0 X0
theorem J_newI {n : Int32} {n0 : Nat} (hn : ¬ n < 0) (hn0 : n.toNatClampNeg = n0) (hb : n0 ≤ 1000) (hd : decode μ.2.1 pc = .ok (.newarray .int, 2)) (hK : k + 1 ≤ K) (hN : w + n0 ≤ N)
    (kk : J g μ d K N (pc + 2) L (.ref (σ.1.length + 5) :: S) (σ.1 ++ [(100, n0, [])], rsN σ.2.1 (σ.1.length + 5) 0, rsN σ.2.2 (σ.1.length + 5) 0) (k + 1) (w + n0) Q) : J g μ d K N pc L (.int n :: S) σ k w Q := by
  intro p e R s m args below meth c Z hC hR H locs ls hW hS hl hk hw
  intro T0 hT0 X0
  have hE := hC.2.2.2.2.2.2.2.2.1
  have hsz := sz_eq hE hW.1 hW.2 hS hT0 X0
  obtain ⟨b1, b2, b3, b4⟩ := hC.2.2.2.2.2.2.2.2.2
  have hts := hC.2.2.2.2.1
  have hA0 : s.vm.findClass ("[" ++ FieldType.int.toString) = some (gA g 100) := (hE.1.2 0 _ rfl).2
  have hgoal : W p (gL g) e R s m args below meth c H locs k w Z (F0 m pc ls ((.int n :: S).map (rv g))) := by
    refine va_newaK (atype := .int) (N := n0) hC.1 hC.2.1 (hts (.arrayClass .int) (tb 157 (by decide +kernel))) rfl hd rfl hn hn0 (by show n0 * 4 ≤ 536870912; omega) (by omega) (by omega) hsz fun H1 cA e1 z1 o1 hAr hNm => ?_
    have ecA : cA = gA g 100 := Option.some.inj (hNm.symm.trans hA0)
    subst ecA
    have hadr : ad g (σ.1.length + 5) = gz g + σ.1.length := by unfold ad; rw [if_neg (by omega)]; omega
    have hk2 : ∀ (j : Nat) (x : Nat × va_E), (wl g σ)[j]? = some x → H1[x.1]? = H[x.1]? := fun j x hx => o1 x.1 (by have := (hW.1 j x hx).lt; omega)
    have := kk p e R s m args below meth c Z hC hR H1 locs ls ⟨?_, ?_⟩ ?_ hl hK hN
    · rw [← hadr]
      exact this
    · unfold World
      rw [wl_push (σ := σ) (mi := rsN σ.2.1 (σ.1.length + 5) 0) (ml := rsN σ.2.2 (σ.1.length + 5) 0) _ (fun x hx => if_neg hx) (fun x hx => if_neg hx)]
      refine (hW.1.kept hk2).app (fun j x hx => ?_)
      have hz : j < 1 := (List.getElem?_eq_some_iff.mp hx).1
      rw [show j = 0 by omega] at hx
      cases hx
      rw [ce_int]
      show H1[gz g + σ.1.length]? = some (vp_cell _ _)
      rw [show rsN σ.2.1 (σ.1.length + 5) 0 (σ.1.length + 5) = fun _ => (0 : Int32) from if_pos rfl]
      exact e1
    · rw [List.length_append]
      have := hW.2
      simp only [List.length_cons, List.length_nil]
      omega
    · refine ⟨Nat.le_trans hS.1 (by omega), fun x h1 h2 => (o1 x ?_).trans (hS.2.1 x h1 h2), hS.2.2⟩
      have := hS.1
      omega
  exact hgoal T0 hT0 X0
theorem J_newL {n : Int32} {n0 : Nat} (hn : ¬ n < 0) (hn0 : n.toNatClampNeg = n0) (hb : n0 ≤ 1000) (hd : decode μ.2.1 pc = .ok (.newarray .long, 2)) (hK : k + 1 ≤ K) (hN : w + n0 ≤ N)
    (kk : J g μ d K N (pc + 2) L (.ref (σ.1.length + 5) :: S) (σ.1 ++ [(101, n0, [])], rsN σ.2.1 (σ.1.length + 5) 0, rsN σ.2.2 (σ.1.length + 5) 0) (k + 1) (w + n0) Q) : J g μ d K N pc L (.int n :: S) σ k w Q := by
  intro p e R s m args below meth c Z hC hR H locs ls hW hS hl hk hw
  intro T0 hT0 X0
  have hE := hC.2.2.2.2.2.2.2.2.1
  have hsz := sz_eq hE hW.1 hW.2 hS hT0 X0
  obtain ⟨b1, b2, b3, b4⟩ := hC.2.2.2.2.2.2.2.2.2
  have hts := hC.2.2.2.2.1
  have hA0 : s.vm.findClass ("[" ++ FieldType.long.toString) = some (gA g 101) := (hE.1.2 1 _ rfl).2
  have hgoal : W p (gL g) e R s m args below meth c H locs k w Z (F0 m pc ls ((.int n :: S).map (rv g))) := by
    refine va_newaK (atype := .long) (N := n0) hC.1 hC.2.1 (hts (.arrayClass .long) (tb 306 (by decide +kernel))) rfl hd rfl hn hn0 (by show n0 * 8 ≤ 536870912; omega) (by omega) (by omega) hsz fun H1 cA e1 z1 o1 hAr hNm => ?_
    have ecA : cA = gA g 101 := Option.some.inj (hNm.symm.trans hA0)
    subst ecA
    have hadr : ad g (σ.1.length + 5) = gz g + σ.1.length := by unfold ad; rw [if_neg (by omega)]; omega
    have hk2 : ∀ (j : Nat) (x : Nat × va_E), (wl g σ)[j]? = some x → H1[x.1]? = H[x.1]? := fun j x hx => o1 x.1 (by have := (hW.1 j x hx).lt; omega)
    have := kk p e R s m args below meth c Z hC hR H1 locs ls ⟨?_, ?_⟩ ?_ hl hK hN
    · rw [← hadr]
      exact this
    · unfold World
      rw [wl_push (σ := σ) (mi := rsN σ.2.1 (σ.1.length + 5) 0) (ml := rsN σ.2.2 (σ.1.length + 5) 0) _ (fun x hx => if_neg hx) (fun x hx => if_neg hx)]
      refine (hW.1.kept hk2).app (fun j x hx => ?_)
      have hz : j < 1 := (List.getElem?_eq_some_iff.mp hx).1
      rw [show j = 0 by omega] at hx
      cases hx
      rw [ce_long]
      show H1[gz g + σ.1.length]? = some (vp_cell _ _)
      rw [show rsN σ.2.2 (σ.1.length + 5) 0 (σ.1.length + 5) = fun _ => (0 : Int64) from if_pos rfl]
      exact e1
    · rw [List.length_append]
      have := hW.2
      simp only [List.length_cons, List.length_nil]
      omega
    · refine ⟨Nat.le_trans hS.1 (by omega), fun x h1 h2 => (o1 x ?_).trans (hS.2.1 x h1 h2), hS.2.2⟩
      have := hS.1
      omega
  exact hgoal T0 hT0 X0
theorem J_anew {idx : Nat} {n : Int32} {n0 : Nat} (hw0 : Cond.classLink μ.1.cls idx "WithOneHand$Shelf" ∈ TB) (hn : ¬ n < 0) (hn0 : n.toNatClampNeg = n0) (hb : n0 ≤ 1000) (hd : decode μ.2.1 pc = .ok (.anewarray idx, 3)) (hK : k + 1 ≤ K) (hN : w + n0 ≤ N)
    (kk : J g μ d K N (pc + 3) L (.ref (σ.1.length + 5) :: S) (σ.1 ++ [(103, n0, List.replicate n0 none)], rsN σ.2.1 (σ.1.length + 5) 0, rsN σ.2.2 (σ.1.length + 5) 0) (k + 1) (w + n0) Q) : J g μ d K N pc L (.int n :: S) σ k w Q := by
  intro p e R s m args below meth c Z hC hR H locs ls hW hS hl hk hw
  intro T0 hT0 X0
  have hE := hC.2.2.2.2.2.2.2.2.1
  have hsz := sz_eq hE hW.1 hW.2 hS hT0 X0
  obtain ⟨b1, b2, b3, b4⟩ := hC.2.2.2.2.2.2.2.2.2
  have hts := hC.2.2.2.2.1
  obtain ⟨kA0, comp0, -, -, -, hA0⟩ := (hE.1.2 3 _ rfl).2
  subst hn0
  have hgoal : W p (gL g) e R s m args below meth c H locs k w Z (F0 m pc ls ((.int n :: S).map (rv g))) := by
    refine W.anew hC.1 hC.2.1 hC.2.2.2.1 (hts _ hw0) (va_AO.use hE.2.2.2.2.2.2.2.1) rfl hd rfl hn (by omega) (by omega) (by omega) fun cA kA comp f1 f2 f3 f4 => ?_
    have ecA : cA = gA g 103 := Option.some.inj (f1.symm.trans hA0)
    subst ecA
    generalize hH1 : H.push ({ cls := gA g 103, slots := Array.replicate n.toNatClampNeg .null, vm := .none } : Cell) = H1
    have z1 : H1.size = H.size + 1 := by rw [← hH1, Array.size_push]
    have e1 : H1[H.size]? = some (arrV (gA g 103) n.toNatClampNeg (fun _ => .null)) := by rw [← hH1, Array.getElem?_push_size, ← arrV_new]
    have o1 : ∀ q : Nat, q < H.size → H1[q]? = H[q]? := fun q hq => by rw [← hH1, Array.getElem?_push, if_neg (Nat.ne_of_lt hq)]
    have hadr : ad g (σ.1.length + 5) = H.size := by unfold ad; rw [if_neg (by omega)]; omega
    have hk2 : ∀ (j : Nat) (x : Nat × va_E), (wl g σ)[j]? = some x → H1[x.1]? = H[x.1]? := fun j x hx => o1 x.1 (hW.1 j x hx).lt
    have := kk p e R s m args below meth c Z hC hR H1 locs ls ⟨?_, ?_⟩ ?_ hl hK hN
    · rw [← hadr]
      exact this
    · unfold World
      rw [wl_push (σ := σ) (mi := rsN σ.2.1 (σ.1.length + 5) 0) (ml := rsN σ.2.2 (σ.1.length + 5) 0) _ (fun x hx => if_neg hx) (fun x hx => if_neg hx)]
      refine (hW.1.kept hk2).app (fun j x hx => ?_)
      have hz : j < 1 := (List.getElem?_eq_some_iff.mp hx).1
      rw [show j = 0 by omega] at hx
      cases hx
      rw [ce_103, show (fun i => ((List.replicate n.toNatClampNeg (none : Option Nat)).getD i none).map (ad g)) = fun _ => none by
        funext i
        have : ((List.replicate n.toNatClampNeg (none : Option Nat)).getD i none) = none := by
          simp only [List.getD, List.getElem?_replicate]
          split <;> rfl
        rw [this]
        rfl]
      show H1[gz g + σ.1.length]? = some (vp_cell _ _)
      rw [vp_cell_q, ← hsz]
      exact e1
    · rw [List.length_append]
      have := hW.2
      simp only [List.length_cons, List.length_nil]
      omega
    · refine ⟨Nat.le_trans hS.1 (by omega), fun x h1 h2 => (o1 x ?_).trans (hS.2.1 x h1 h2), hS.2.2⟩
      exact Nat.lt_of_lt_of_le h1 hS.1
  exact hgoal T0 hT0 X0
/-! switches: cases as a list -/
def swt (cs : List (Int32 × Nat)) (td : Nat) (x : Int32) : Nat := match cs with
  | [] => td
  | (c, t) :: r => if x = c then t else swt r td x
theorem swt_miss {cs : List (Int32 × Nat)} {td : Nat} {x : Int32} (h : ∀ q ∈ cs, x ≠ q.1) : swt cs td x = td := by
  induction cs with
  | nil => rfl
  | cons q r ih =>
    obtain ⟨c, t⟩ := q
    show (if x = c then t else swt r td x) = td
    rw [if_neg (h (c, t) List.mem_cons_self)]
    exact ih (fun q hq => h q (List.mem_cons_of_mem _ hq))
theorem J_tsw {dflt lo hi : Int} {offs : Array Int} {len td n : Nat} {cs : List (Int32 × Nat)} {x : Int32} (hd : decode μ.2.1 pc = .ok (.tableswitch dflt lo hi offs, len)) (htd : (pc : Int) + dflt = (td : Int)) (hn : hi = lo + n)
    (hin : ∀ i, i < n + 1 → (match offs[i]? with | some off => decide ((pc : Int) + off = ((swt cs td (Int32.ofInt (lo + i)) : Nat) : Int)) | none => false) = true) (hout : ∀ q ∈ cs, lo ≤ q.1.toInt ∧ q.1.toInt ≤ hi)
    (kk : J g μ d K N (swt cs td x) L S σ k w Q) : J g μ d K N pc L (.int x :: S) σ k w Q := by
  intro p e R s m args below meth c Z hC hR H locs ls hW hS hl hk hw
  by_cases h1 : x.toInt < lo ∨ hi < x.toInt
  · have e9 : swt cs td x = td := swt_miss (fun q hq e => by have := hout q hq; rw [← e] at this; omega)
    rw [e9] at kk
    exact lv_tableOut hC.1 hC.2.1 hd h1 htd (kk p e R s m args below meth c Z hC hR H locs ls hW hS hl hk hw)
  · have h2 : ¬ x.toInt < lo := fun q => h1 (Or.inl q)
    have h3 : ¬ hi < x.toInt := fun q => h1 (Or.inr q)
    have h4 := hin (x.toInt - lo).toNat (by omega)
    have e5 : lo + ((x.toInt - lo).toNat : Int) = x.toInt := by omega
    rw [e5, Int32.ofInt_toInt] at h4
    split at h4
    · rename_i off hoff
      exact lv_tableIn hC.1 hC.2.1 hd h2 h3 hoff (of_decide_eq_true h4) (kk p e R s m args below meth c Z hC hR H locs ls hW hS hl hk hw)
    · cases h4
theorem swt_lookup {pc td : Nat} {dflt : Int} (hdf : (pc : Int) + dflt = (td : Int)) (x : Int32) : ∀ (ps : List (Int × Int)) (cs : List (Int32 × Nat)), ps.length = cs.length → (∀ q ∈ ps.zip cs, q.1.1 = q.2.1.toInt ∧ (pc : Int) + q.1.2 = (q.2.2 : Int)) → (pc : Int) + Op.lookupswitch.offset ps dflt x.toInt = ((swt cs td x : Nat) : Int)
  | [], [], _, _ => by rw [Op.lookupswitch.offset_nil]; exact hdf
  | [], _ :: _, h, _ => by cases h
  | _ :: _, [], h, _ => by cases h
  | (a, o) :: ps, (c, t) :: cs, h, hz => by
    have h0 := hz ((a, o), (c, t)) (by simp)
    have ih := swt_lookup hdf x ps cs (by simpa using h) (fun q hq => hz q (by simp [hq]))
    rw [Op.lookupswitch.offset_cons]
    show _ = (((if x = c then t else swt cs td x) : Nat) : Int)
    obtain ⟨h1, h2⟩ := h0
    have h1' : a = c.toInt := h1
    have h2' : (pc : Int) + o = (t : Int) := h2
    by_cases e : x = c
    · subst e
      rw [if_pos h1', if_pos rfl]
      exact h2'
    · have e2 : ¬ a = x.toInt := fun q => e (Int32.toInt_inj.mp (by rw [← q, h1']))
      rw [if_neg e2, if_neg e]
      exact ih
theorem J_lsw {dflt : Int} {ps : Array (Int × Int)} {len td : Nat} {cs : List (Int32 × Nat)} {x : Int32} (hd : decode μ.2.1 pc = .ok (.lookupswitch dflt ps, len)) (hp : (ps.toList.zip (ps.toList.drop 1)).all (fun (a, next) => a.1 < next.1) = true) (htd : (pc : Int) + dflt = (td : Int))
    (hlen : ps.toList.length = cs.length) (hz : ∀ q ∈ ps.toList.zip cs, q.1.1 = q.2.1.toInt ∧ (pc : Int) + q.1.2 = (q.2.2 : Int)) (kk : J g μ d K N (swt cs td x) L S σ k w Q) : J g μ d K N pc L (.int x :: S) σ k w Q := by
  intro p e R s m args below meth c Z hC hR H locs ls hW hS hl hk hw
  exact lv_lookup hC.1 hC.2.1 hd hp rfl (swt_lookup htd x _ _ hlen hz) (kk p e R s m args below meth c Z hC hR H locs ls hW hS hl hk hw)
theorem J_sw {c : Int32} {t td : Nat} {r : List (Int32 × Nat)} {x : Int32} (h1 : x = c → J g μ d K N t L S σ k w Q) (h2 : ¬ x = c → J g μ d K N (swt r td x) L S σ k w Q) : J g μ d K N (swt ((c, t) :: r) td x) L S σ k w Q := by
  show J g μ d K N (if x = c then t else swt r td x) L S σ k w Q
  by_cases e : x = c
  · rw [if_pos e]; exact h1 e
  · rw [if_neg e]; exact h2 e
end JD
