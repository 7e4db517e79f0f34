/-! the two memories: the class (handles 5..79), the reference (80..110); r, c: the handles of the ruling and the coming law -/
def SKL (r c : Nat) : SK := [(7, 0, [some 6, some 20, some 25, some 28, some 31, some 32, some 41, some 51, some 54, some 55, some r, some c, none, none, none, none]),
  (102, 13, [some 7, some 8, some 9, some 10, some 11, some 12, some 13, some 14, some 15, some 16, some 17, some 18, some 19]),
  (100, 8, []),
  (100, 8, []),
  (100, 8, []),
  (100, 8, []),
  (100, 8, []),
  (100, 8, []),
  (100, 8, []),
  (100, 8, []),
  (100, 8, []),
  (100, 8, []),
  (100, 8, []),
  (100, 8, []),
  (100, 8, []),
  (1, 0, [some 21, some 22, some 23, some 24, none, none]),
  (100, 40, []),
  (100, 40, []),
  (100, 40, []),
  (100, 40, []),
  (0, 0, [some 26, some 27]),
  (100, 6, []),
  (100, 4, []),
  (0, 0, [some 29, some 30]),
  (100, 6, []),
  (100, 4, []),
  (100, 2, []),
  (4, 0, [some 33, some 40, none, none]),
  (102, 6, [some 34, some 35, some 36, some 37, some 38, some 39]),
  (100, 6, []),
  (100, 6, []),
  (100, 6, []),
  (100, 6, []),
  (100, 6, []),
  (100, 6, []),
  (100, 64, []),
  (6, 0, [some 42, some 49, none, none, some 50]),
  (102, 6, [some 43, some 44, some 45, some 46, some 47, some 48]),
  (100, 6, []),
  (100, 6, []),
  (100, 6, []),
  (100, 6, []),
  (100, 6, []),
  (100, 6, []),
  (100, 64, []),
  (100, 6, []),
  (2, 0, [some 52, some 53, none, none, none]),
  (100, 50, []),
  (100, 24, []),
  (103, 6, [some 68, some 70, some 72, some 74, some 76, some 78]),
  (100, 8, []),
  (3, 0, [some 57, some 58, some 59, some 60, none, none, none, some 61, none]),
  (100, 121, []),
  (100, 121, []),
  (100, 40, []),
  (100, 6, []),
  (100, 120, []),
  (3, 0, [some 63, some 64, some 65, some 66, none, none, none, some 67, none]),
  (100, 121, []),
  (100, 121, []),
  (100, 40, []),
  (100, 6, []),
  (100, 120, []),
  (5, 0, [some 69, none, none, none]),
  (101, 60, []),
  (5, 0, [some 71, none, none, none]),
  (101, 60, []),
  (5, 0, [some 73, none, none, none]),
  (101, 60, []),
  (5, 0, [some 75, none, none, none]),
  (101, 60, []),
  (5, 0, [some 77, none, none, none]),
  (101, 60, []),
  (5, 0, [some 79, none, none, none]),
  (101, 60, []),
  (8, 0, [none, none, none, none, none, none, none, none, none, none, some 81, some 82, some 83, some 84, some 85, some 86, some 87, some 88, some 89, some 90, some 91, some 92, some 93, some 94, some 95, some 96, some 97, some 98, none, none, none, none, none, some 99, some 100, some 101, none, none, none, none, none, some 102, none, some 103, some 104, some 105, some 106, some 107, some 108, some 109, some 110]),
  (100, 6, []),
  (100, 6, []),
  (100, 6, []),
  (100, 6, []),
  (100, 6, []),
  (100, 6, []),
  (100, 6, []),
  (100, 2, []),
  (100, 2, []),
  (100, 2, []),
  (100, 8, []),
  (100, 8, []),
  (100, 120, []),
  (100, 120, []),
  (100, 40, []),
  (100, 40, []),
  (100, 40, []),
  (100, 40, []),
  (100, 128, []),
  (100, 6, []),
  (100, 6, []),
  (100, 12, []),
  (100, 50, []),
  (100, 24, []),
  (100, 6, []),
  (100, 6, []),
  (100, 6, []),
  (100, 6, []),
  (101, 360, []),
  (101, 60, [])]
abbrev MX : Type := (Nat × Nat) × (Nat → Nat → Int32) × (Nat → Nat → Int64)
abbrev MM : Type := (Nat → Nat → Int32) × (Nat → Nat → Int64)
def cmb {α : Type} (f g : Nat → Nat → α) : Nat → Nat → α := fun h => if h < 80 then f h else g h
def ST (x : MX) (m : MM) : Sto := (SKL x.1.1 x.1.2, cmb x.2.1 m.1, cmb x.2.2 m.2)
def xi (x : MX) (h k : Nat) : Int32 := x.2.1 h k
def xl (x : MX) (h k : Nat) : Int64 := x.2.2 h k
def xs (x : MX) (h k : Nat) (v : Int32) : MX := (x.1, up2 x.2.1 h k v, x.2.2)
def xsl (x : MX) (h k : Nat) (v : Int64) : MX := (x.1, x.2.1, up2 x.2.2 h k v)
def xr (x : MX) (r c : Nat) : MX := ((r, c), x.2)
def xcp (x : MX) (a b sp dp n : Nat) : MX := (x.1, rs2 x.2.1 b (va_cpy (x.2.1 a) (x.2.1 b) sp dp n), x.2.2)
def xcpl (x : MX) (a b sp dp n : Nat) : MX := (x.1, x.2.1, rs2 x.2.2 b (va_cpy (x.2.2 a) (x.2.2 b) sp dp n))
def xfl (x : MX) (a n : Nat) (v : Int64) : MX := (x.1, x.2.1, rs2 x.2.2 a (fun k => if k < n then v else x.2.2 a k))
def mi (m : MM) (h k : Nat) : Int32 := m.1 h k
def ml (m : MM) (h k : Nat) : Int64 := m.2 h k
def ms (m : MM) (h k : Nat) (v : Int32) : MM := (up2 m.1 h k v, m.2)
def msl (m : MM) (h k : Nat) (v : Int64) : MM := (m.1, up2 m.2 h k v)
def ix (i : Int32) : Nat := i.toNatClampNeg
def inb (i : Int32) (n : Nat) : Bool := decide (0 ≤ i ∧ i.toNatClampNeg < n)
theorem inb_lt {i : Int32} {n : Nat} (h : inb i n = true) : ix i < n := (of_decide_eq_true h).2
theorem inb_vp {i : Int32} {n : Nat} (h : inb i n = true) : vp_in i n := by
  obtain ⟨h1, h2⟩ := of_decide_eq_true h
  intro q
  rcases q with q | q
  · exact absurd h1 (Int32.not_le.mpr q)
  · omega
def b2i (b : Bool) : Int32 := if b = true then 1 else 0
theorem nar_b2i (b : Bool) : narrow .boolean (.int (b2i b)) = .int (b2i b) := by cases b <;> rfl
def ob {α β : Type} (o : Option α) (f : α → Option β) : Option β := match o with
  | some a => f a
  | none => none
def ob2 {α β γ : Type} (o : Option (α × β)) (f : α → β → Option γ) : Option γ := match o with
  | some (a, b) => f a b
  | none => none
def letx {α β : Type} (a : α) (f : α → β) : β := f a
theorem ob_some {α β : Type} {o : Option α} {f : α → Option β} {R : β} (h : ob o f = some R) : ∃ a, o = some a ∧ f a = some R := by
  cases o with
  | none => cases h
  | some a => exact ⟨a, rfl, h⟩
theorem ob2_some {α β γ : Type} {o : Option (α × β)} {f : α → β → Option γ} {R : γ} (h : ob2 o f = some R) : ∃ a b, o = some (a, b) ∧ f a b = some R := by
  cases o with
  | none => cases h
  | some p => exact ⟨p.1, p.2, rfl, h⟩
theorem letx_eq {α β : Type} {a : α} {f : α → β} {R : β} (h : letx a f = R) : ∃ y, y = a ∧ f y = R := ⟨a, rfl, h⟩
theorem chk {α : Type} {c : Prop} {I : Decidable c} {a : Option α} {R : α} (h : @ite _ c I a none = some R) : c ∧ a = some R := by
  by_cases hc : c
  · rw [if_pos hc] at h; exact ⟨hc, h⟩
  · rw [if_neg hc] at h; cases h
theorem someP {α β : Type} {a r : α} {b z : β} (h : some (a, b) = some (r, z)) : a = r ∧ b = z := ⟨congrArg Prod.fst (Option.some.inj h), congrArg Prod.snd (Option.some.inj h)⟩
def LF : Nat := 5000
def RF : Nat := 100
def celX (x : MX) (h : Nat) (q : Nat × Nat × List (Option Nat)) : Prop := (∀ m : MM, cel (ST x m) h = some q) ∧ h < 80
def celM (h : Nat) (q : Nat × Nat × List (Option Nat)) : Prop := (∀ (x : MX) (m : MM), cel (ST x m) h = some q) ∧ 80 ≤ h
def isLaw (h : Nat) : Prop := h = 56 ∨ h = 62
def isLawB (h : Nat) : Bool := h == 56 || h == 62
theorem law_of {h : Nat} (e : isLawB h = true) : isLaw h := by
  unfold isLawB at e
  simp only [Bool.or_eq_true, beq_iff_eq] at e
  exact e
def isSh (h : Nat) : Prop := ∃ k, k < 6 ∧ h = 68 + 2 * k
theorem sh_of {k : Nat} (h : k < 6) : isSh (68 + 2 * k) := ⟨k, h, rfl⟩
theorem c_5 {x : MX} : celX x 5 (7, 0, [some 6, some 20, some 25, some 28, some 31, some 32, some 41, some 51, some 54, some 55, some x.1.1, some x.1.2, none, none, none, none]) := ⟨fun _ => rfl, by decide⟩
theorem c_6 {x : MX} : celX x 6 (102, 13, [some 7, some 8, some 9, some 10, some 11, some 12, some 13, some 14, some 15, some 16, some 17, some 18, some 19]) := ⟨fun _ => rfl, by decide⟩
theorem c_7 {x : MX} : celX x 7 (100, 8, []) := ⟨fun _ => rfl, by decide⟩
theorem c_8 {x : MX} : celX x 8 (100, 8, []) := ⟨fun _ => rfl, by decide⟩
theorem c_9 {x : MX} : celX x 9 (100, 8, []) := ⟨fun _ => rfl, by decide⟩
theorem c_10 {x : MX} : celX x 10 (100, 8, []) := ⟨fun _ => rfl, by decide⟩
theorem c_11 {x : MX} : celX x 11 (100, 8, []) := ⟨fun _ => rfl, by decide⟩
theorem c_12 {x : MX} : celX x 12 (100, 8, []) := ⟨fun _ => rfl, by decide⟩
theorem c_13 {x : MX} : celX x 13 (100, 8, []) := ⟨fun _ => rfl, by decide⟩
theorem c_14 {x : MX} : celX x 14 (100, 8, []) := ⟨fun _ => rfl, by decide⟩
theorem c_15 {x : MX} : celX x 15 (100, 8, []) := ⟨fun _ => rfl, by decide⟩
theorem c_16 {x : MX} : celX x 16 (100, 8, []) := ⟨fun _ => rfl, by decide⟩
theorem c_17 {x : MX} : celX x 17 (100, 8, []) := ⟨fun _ => rfl, by decide⟩
theorem c_18 {x : MX} : celX x 18 (100, 8, []) := ⟨fun _ => rfl, by decide⟩
theorem c_19 {x : MX} : celX x 19 (100, 8, []) := ⟨fun _ => rfl, by decide⟩
theorem c_20 {x : MX} : celX x 20 (1, 0, [some 21, some 22, some 23, some 24, none, none]) := ⟨fun _ => rfl, by decide⟩
theorem c_21 {x : MX} : celX x 21 (100, 40, []) := ⟨fun _ => rfl, by decide⟩
theorem c_22 {x : MX} : celX x 22 (100, 40, []) := ⟨fun _ => rfl, by decide⟩
theorem c_23 {x : MX} : celX x 23 (100, 40, []) := ⟨fun _ => rfl, by decide⟩
theorem c_24 {x : MX} : celX x 24 (100, 40, []) := ⟨fun _ => rfl, by decide⟩
theorem c_25 {x : MX} : celX x 25 (0, 0, [some 26, some 27]) := ⟨fun _ => rfl, by decide⟩
theorem c_26 {x : MX} : celX x 26 (100, 6, []) := ⟨fun _ => rfl, by decide⟩
theorem c_27 {x : MX} : celX x 27 (100, 4, []) := ⟨fun _ => rfl, by decide⟩
theorem c_28 {x : MX} : celX x 28 (0, 0, [some 29, some 30]) := ⟨fun _ => rfl, by decide⟩
theorem c_29 {x : MX} : celX x 29 (100, 6, []) := ⟨fun _ => rfl, by decide⟩
theorem c_30 {x : MX} : celX x 30 (100, 4, []) := ⟨fun _ => rfl, by decide⟩
theorem c_31 {x : MX} : celX x 31 (100, 2, []) := ⟨fun _ => rfl, by decide⟩
theorem c_32 {x : MX} : celX x 32 (4, 0, [some 33, some 40, none, none]) := ⟨fun _ => rfl, by decide⟩
theorem c_33 {x : MX} : celX x 33 (102, 6, [some 34, some 35, some 36, some 37, some 38, some 39]) := ⟨fun _ => rfl, by decide⟩
theorem c_34 {x : MX} : celX x 34 (100, 6, []) := ⟨fun _ => rfl, by decide⟩
theorem c_35 {x : MX} : celX x 35 (100, 6, []) := ⟨fun _ => rfl, by decide⟩
theorem c_36 {x : MX} : celX x 36 (100, 6, []) := ⟨fun _ => rfl, by decide⟩
theorem c_37 {x : MX} : celX x 37 (100, 6, []) := ⟨fun _ => rfl, by decide⟩
theorem c_38 {x : MX} : celX x 38 (100, 6, []) := ⟨fun _ => rfl, by decide⟩
theorem c_39 {x : MX} : celX x 39 (100, 6, []) := ⟨fun _ => rfl, by decide⟩
theorem c_40 {x : MX} : celX x 40 (100, 64, []) := ⟨fun _ => rfl, by decide⟩
theorem c_41 {x : MX} : celX x 41 (6, 0, [some 42, some 49, none, none, some 50]) := ⟨fun _ => rfl, by decide⟩
theorem c_42 {x : MX} : celX x 42 (102, 6, [some 43, some 44, some 45, some 46, some 47, some 48]) := ⟨fun _ => rfl, by decide⟩
theorem c_43 {x : MX} : celX x 43 (100, 6, []) := ⟨fun _ => rfl, by decide⟩
theorem c_44 {x : MX} : celX x 44 (100, 6, []) := ⟨fun _ => rfl, by decide⟩
theorem c_45 {x : MX} : celX x 45 (100, 6, []) := ⟨fun _ => rfl, by decide⟩
theorem c_46 {x : MX} : celX x 46 (100, 6, []) := ⟨fun _ => rfl, by decide⟩
theorem c_47 {x : MX} : celX x 47 (100, 6, []) := ⟨fun _ => rfl, by decide⟩
theorem c_48 {x : MX} : celX x 48 (100, 6, []) := ⟨fun _ => rfl, by decide⟩
theorem c_49 {x : MX} : celX x 49 (100, 64, []) := ⟨fun _ => rfl, by decide⟩
theorem c_50 {x : MX} : celX x 50 (100, 6, []) := ⟨fun _ => rfl, by decide⟩
theorem c_51 {x : MX} : celX x 51 (2, 0, [some 52, some 53, none, none, none]) := ⟨fun _ => rfl, by decide⟩
theorem c_52 {x : MX} : celX x 52 (100, 50, []) := ⟨fun _ => rfl, by decide⟩
theorem c_53 {x : MX} : celX x 53 (100, 24, []) := ⟨fun _ => rfl, by decide⟩
theorem c_54 {x : MX} : celX x 54 (103, 6, [some 68, some 70, some 72, some 74, some 76, some 78]) := ⟨fun _ => rfl, by decide⟩
theorem c_55 {x : MX} : celX x 55 (100, 8, []) := ⟨fun _ => rfl, by decide⟩
theorem c_56 {x : MX} : celX x 56 (3, 0, [some 57, some 58, some 59, some 60, none, none, none, some 61, none]) := ⟨fun _ => rfl, by decide⟩
theorem c_57 {x : MX} : celX x 57 (100, 121, []) := ⟨fun _ => rfl, by decide⟩
theorem c_58 {x : MX} : celX x 58 (100, 121, []) := ⟨fun _ => rfl, by decide⟩
theorem c_59 {x : MX} : celX x 59 (100, 40, []) := ⟨fun _ => rfl, by decide⟩
theorem c_60 {x : MX} : celX x 60 (100, 6, []) := ⟨fun _ => rfl, by decide⟩
theorem c_61 {x : MX} : celX x 61 (100, 120, []) := ⟨fun _ => rfl, by decide⟩
theorem c_62 {x : MX} : celX x 62 (3, 0, [some 63, some 64, some 65, some 66, none, none, none, some 67, none]) := ⟨fun _ => rfl, by decide⟩
theorem c_63 {x : MX} : celX x 63 (100, 121, []) := ⟨fun _ => rfl, by decide⟩
theorem c_64 {x : MX} : celX x 64 (100, 121, []) := ⟨fun _ => rfl, by decide⟩
theorem c_65 {x : MX} : celX x 65 (100, 40, []) := ⟨fun _ => rfl, by decide⟩
theorem c_66 {x : MX} : celX x 66 (100, 6, []) := ⟨fun _ => rfl, by decide⟩
theorem c_67 {x : MX} : celX x 67 (100, 120, []) := ⟨fun _ => rfl, by decide⟩
theorem c_68 {x : MX} : celX x 68 (5, 0, [some 69, none, none, none]) := ⟨fun _ => rfl, by decide⟩
theorem c_69 {x : MX} : celX x 69 (101, 60, []) := ⟨fun _ => rfl, by decide⟩
theorem c_70 {x : MX} : celX x 70 (5, 0, [some 71, none, none, none]) := ⟨fun _ => rfl, by decide⟩
theorem c_71 {x : MX} : celX x 71 (101, 60, []) := ⟨fun _ => rfl, by decide⟩
theorem c_72 {x : MX} : celX x 72 (5, 0, [some 73, none, none, none]) := ⟨fun _ => rfl, by decide⟩
theorem c_73 {x : MX} : celX x 73 (101, 60, []) := ⟨fun _ => rfl, by decide⟩
theorem c_74 {x : MX} : celX x 74 (5, 0, [some 75, none, none, none]) := ⟨fun _ => rfl, by decide⟩
theorem c_75 {x : MX} : celX x 75 (101, 60, []) := ⟨fun _ => rfl, by decide⟩
theorem c_76 {x : MX} : celX x 76 (5, 0, [some 77, none, none, none]) := ⟨fun _ => rfl, by decide⟩
theorem c_77 {x : MX} : celX x 77 (101, 60, []) := ⟨fun _ => rfl, by decide⟩
theorem c_78 {x : MX} : celX x 78 (5, 0, [some 79, none, none, none]) := ⟨fun _ => rfl, by decide⟩
theorem c_79 {x : MX} : celX x 79 (101, 60, []) := ⟨fun _ => rfl, by decide⟩
theorem c_80 : celM 80 (8, 0, [none, none, none, none, none, none, none, none, none, none, some 81, some 82, some 83, some 84, some 85, some 86, some 87, some 88, some 89, some 90, some 91, some 92, some 93, some 94, some 95, some 96, some 97, some 98, none, none, none, none, none, some 99, some 100, some 101, none, none, none, none, none, some 102, none, some 103, some 104, some 105, some 106, some 107, some 108, some 109, some 110]) := ⟨fun _ _ => rfl, by decide⟩
theorem c_81 : celM 81 (100, 6, []) := ⟨fun _ _ => rfl, by decide⟩
theorem c_82 : celM 82 (100, 6, []) := ⟨fun _ _ => rfl, by decide⟩
theorem c_83 : celM 83 (100, 6, []) := ⟨fun _ _ => rfl, by decide⟩
theorem c_84 : celM 84 (100, 6, []) := ⟨fun _ _ => rfl, by decide⟩
theorem c_85 : celM 85 (100, 6, []) := ⟨fun _ _ => rfl, by decide⟩
theorem c_86 : celM 86 (100, 6, []) := ⟨fun _ _ => rfl, by decide⟩
theorem c_87 : celM 87 (100, 6, []) := ⟨fun _ _ => rfl, by decide⟩
theorem c_88 : celM 88 (100, 2, []) := ⟨fun _ _ => rfl, by decide⟩
theorem c_89 : celM 89 (100, 2, []) := ⟨fun _ _ => rfl, by decide⟩
theorem c_90 : celM 90 (100, 2, []) := ⟨fun _ _ => rfl, by decide⟩
theorem c_91 : celM 91 (100, 8, []) := ⟨fun _ _ => rfl, by decide⟩
theorem c_92 : celM 92 (100, 8, []) := ⟨fun _ _ => rfl, by decide⟩
theorem c_93 : celM 93 (100, 120, []) := ⟨fun _ _ => rfl, by decide⟩
theorem c_94 : celM 94 (100, 120, []) := ⟨fun _ _ => rfl, by decide⟩
theorem c_95 : celM 95 (100, 40, []) := ⟨fun _ _ => rfl, by decide⟩
theorem c_96 : celM 96 (100, 40, []) := ⟨fun _ _ => rfl, by decide⟩
theorem c_97 : celM 97 (100, 40, []) := ⟨fun _ _ => rfl, by decide⟩
theorem c_98 : celM 98 (100, 40, []) := ⟨fun _ _ => rfl, by decide⟩
theorem c_99 : celM 99 (100, 128, []) := ⟨fun _ _ => rfl, by decide⟩
theorem c_100 : celM 100 (100, 6, []) := ⟨fun _ _ => rfl, by decide⟩
theorem c_101 : celM 101 (100, 6, []) := ⟨fun _ _ => rfl, by decide⟩
theorem c_102 : celM 102 (100, 12, []) := ⟨fun _ _ => rfl, by decide⟩
theorem c_103 : celM 103 (100, 50, []) := ⟨fun _ _ => rfl, by decide⟩
theorem c_104 : celM 104 (100, 24, []) := ⟨fun _ _ => rfl, by decide⟩
theorem c_105 : celM 105 (100, 6, []) := ⟨fun _ _ => rfl, by decide⟩
theorem c_106 : celM 106 (100, 6, []) := ⟨fun _ _ => rfl, by decide⟩
theorem c_107 : celM 107 (100, 6, []) := ⟨fun _ _ => rfl, by decide⟩
theorem c_108 : celM 108 (100, 6, []) := ⟨fun _ _ => rfl, by decide⟩
theorem c_109 : celM 109 (101, 360, []) := ⟨fun _ _ => rfl, by decide⟩
theorem c_110 : celM 110 (101, 60, []) := ⟨fun _ _ => rfl, by decide⟩
theorem cr_6 {x : MX} {k : Nat} (h : k < 13) : celX x (7 + k) (100, 8, []) := by
  match k, h with
  | 0, _ | 1, _ | 2, _ | 3, _ | 4, _ | 5, _ | 6, _ | 7, _ | 8, _ | 9, _ | 10, _ | 11, _ | 12, _ => exact ⟨fun _ => rfl, by decide⟩
theorem cr_33 {x : MX} {k : Nat} (h : k < 6) : celX x (34 + k) (100, 6, []) := by
  match k, h with
  | 0, _ | 1, _ | 2, _ | 3, _ | 4, _ | 5, _ => exact ⟨fun _ => rfl, by decide⟩
theorem cr_42 {x : MX} {k : Nat} (h : k < 6) : celX x (43 + k) (100, 6, []) := by
  match k, h with
  | 0, _ | 1, _ | 2, _ | 3, _ | 4, _ | 5, _ => exact ⟨fun _ => rfl, by decide⟩
theorem rw_6 : ∀ k : Nat, k < 13 → ([some 7, some 8, some 9, some 10, some 11, some 12, some 13, some 14, some 15, some 16, some 17, some 18, some 19] : List (Option Nat))[k]? = some (some (7 + k)) := by decide
theorem rw_33 : ∀ k : Nat, k < 6 → ([some 34, some 35, some 36, some 37, some 38, some 39] : List (Option Nat))[k]? = some (some (34 + k)) := by decide
theorem rw_42 : ∀ k : Nat, k < 6 → ([some 43, some 44, some 45, some 46, some 47, some 48] : List (Option Nat))[k]? = some (some (43 + k)) := by decide
theorem rw_54 : ∀ k : Nat, k < 6 → ([some 68, some 70, some 72, some 74, some 76, some 78] : List (Option Nat))[k]? = some (some (68 + 2 * k)) := by decide
theorem c_sh {x : MX} {h : Nat} (hs : isSh h) : celX x h (5, 0, [some (h + 1), none, none, none]) := by
  obtain ⟨k, hk, rfl⟩ := hs
  match k, hk with
  | 0, _ | 1, _ | 2, _ | 3, _ | 4, _ | 5, _ => exact ⟨fun _ => rfl, by decide⟩
theorem c_she {x : MX} {h : Nat} (hs : isSh h) : celX x (h + 1) (101, 60, []) := by
  obtain ⟨k, hk, rfl⟩ := hs
  match k, hk with
  | 0, _ | 1, _ | 2, _ | 3, _ | 4, _ | 5, _ => exact ⟨fun _ => rfl, by decide⟩
theorem c_law {x : MX} {h : Nat} (hs : isLaw h) : celX x h (3, 0, [some (h + 1), some (h + 2), some (h + 3), some (h + 4), none, none, none, some (h + 5), none]) := by
  rcases hs with rfl | rfl <;> exact ⟨fun _ => rfl, by decide⟩
theorem c_law1 {x : MX} {h : Nat} (hs : isLaw h) : celX x (h + 1) (100, 121, []) := by
  rcases hs with rfl | rfl <;> exact ⟨fun _ => rfl, by decide⟩
theorem c_law2 {x : MX} {h : Nat} (hs : isLaw h) : celX x (h + 2) (100, 121, []) := by
  rcases hs with rfl | rfl <;> exact ⟨fun _ => rfl, by decide⟩
theorem c_law3 {x : MX} {h : Nat} (hs : isLaw h) : celX x (h + 3) (100, 40, []) := by
  rcases hs with rfl | rfl <;> exact ⟨fun _ => rfl, by decide⟩
theorem c_law4 {x : MX} {h : Nat} (hs : isLaw h) : celX x (h + 4) (100, 6, []) := by
  rcases hs with rfl | rfl <;> exact ⟨fun _ => rfl, by decide⟩
theorem c_law5 {x : MX} {h : Nat} (hs : isLaw h) : celX x (h + 5) (100, 120, []) := by
  rcases hs with rfl | rfl <;> exact ⟨fun _ => rfl, by decide⟩
theorem cmb_lt {α : Type} {f g : Nat → Nat → α} {h : Nat} (e : h < 80) : cmb f g h = f h := if_pos e
theorem cmb_ge {α : Type} {f g : Nat → Nat → α} {h : Nat} (e : 80 ≤ h) : cmb f g h = g h := if_neg (by omega)
theorem cmb_up {α : Type} {f g : Nat → Nat → α} {h k : Nat} {v : α} (e : h < 80) : up2 (cmb f g) h k v = cmb (up2 f h k v) g := by
  funext a
  unfold up2 cmb
  by_cases q : a = h
  · subst q; simp [e]
  · simp [q]
theorem cmb_up' {α : Type} {f g : Nat → Nat → α} {h k : Nat} {v : α} (e : 80 ≤ h) : up2 (cmb f g) h k v = cmb f (up2 g h k v) := by
  funext a
  unfold up2 cmb
  by_cases q : a = h
  · subst q; simp [show ¬ a < 80 by omega]
  · simp [q]
theorem cmb_rs {α : Type} {f g : Nat → Nat → α} {h : Nat} {r : Nat → α} (e : h < 80) : rs2 (cmb f g) h r = cmb (rs2 f h r) g := by
  funext a
  unfold rs2 cmb
  by_cases q : a = h
  · subst q; simp [e]
  · simp [q]
section JX
variable {g : GC} {μ : MRec} {d pc K N k w : Nat} {L : List (Nat × Value)} {S : List Value} {x : MX} {m : MM} {Q : Option Value → Sto → Prop}
theorem JX_getI {idx ci kf h n0 : Nat} {ty : FieldType} {fin : Bool} {rs : List (Option Nat)} (hF : FLD μ.1.cls idx ci kf ty fin) (hd : decode μ.2.1 pc = .ok (.getfield idx, 3)) (hc : celX x h (ci, n0, rs)) (hr : isRf ci kf = false)
    (kk : J g μ d K N (pc + 3) L (.int (xi x h kf) :: S) (ST x m) k w Q) : J g μ d K N pc L (.ref h :: S) (ST x m) k w Q := J_getI hF hd (hc.1 m) hr (by show cmb _ _ h kf = _; rw [cmb_lt hc.2]; rfl) kk
theorem JX_getR {idx ci kf h n0 r : Nat} {ty : FieldType} {fin : Bool} {rs : List (Option Nat)} (hF : FLD μ.1.cls idx ci kf ty fin) (hd : decode μ.2.1 pc = .ok (.getfield idx, 3)) (hc : celX x h (ci, n0, rs)) (hr : isRf ci kf = true) (hv : rs[kf]? = some (some r))
    (kk : J g μ d K N (pc + 3) L (.ref r :: S) (ST x m) k w Q) : J g μ d K N pc L (.ref h :: S) (ST x m) k w Q := J_getR hF hd (hc.1 m) hr hv kk
theorem JX_putI {idx ci kf h n0 : Nat} {ty : FieldType} {rs : List (Option Nat)} {v : Int32} (hF : FLD μ.1.cls idx ci kf ty false) (hd : decode μ.2.1 pc = .ok (.putfield idx, 3)) (hc : celX x h (ci, n0, rs)) (hr : isRf ci kf = false) (hn : narrow ty (.int v) = .int v) (hf : fits ty (.int v) = true)
    (kk : J g μ d K N (pc + 3) L S (ST (xs x h kf v) m) k w Q) : J g μ d K N pc L (.int v :: .ref h :: S) (ST x m) k w Q := by
  refine J_putI hF hd (hc.1 m) hr hn hf ?_
  have e : (((ST x m).1, up2 (ST x m).2.1 h kf v, (ST x m).2.2) : Sto) = ST (xs x h kf v) m := by
    unfold ST xs
    simp only [cmb_up hc.2]
  rw [e]
  exact kk
theorem JX_iald {h n0 j : Nat} {rs : List (Option Nat)} {i : Int32} (hd : decode μ.2.1 pc = .ok (.iaload, 1)) (hc : celX x h (100, n0, rs)) (hi : vp_in i n0) (hj : i.toNatClampNeg = j)
    (kk : J g μ d K N (pc + 1) L (.int (xi x h j) :: S) (ST x m) k w Q) : J g μ d K N pc L (.int i :: .ref h :: S) (ST x m) k w Q := J_iald hd (hc.1 m) hi (by show cmb _ _ h _ = _; rw [cmb_lt hc.2, hj]; rfl) kk
theorem JX_lald {h n0 j : Nat} {rs : List (Option Nat)} {i : Int32} (hd : decode μ.2.1 pc = .ok (.laload, 1)) (hc : celX x h (101, n0, rs)) (hi : vp_in i n0) (hj : i.toNatClampNeg = j)
    (kk : J g μ d K N (pc + 1) L (.long (xl x h j) :: S) (ST x m) k w Q) : J g μ d K N pc L (.int i :: .ref h :: S) (ST x m) k w Q := J_lald hd (hc.1 m) hi (by show cmb _ _ h _ = _; rw [cmb_lt hc.2, hj]; rfl) kk
theorem JX_iast {h n0 j : Nat} {rs : List (Option Nat)} {i v : Int32} (hd : decode μ.2.1 pc = .ok (.iastore, 1)) (hc : celX x h (100, n0, rs)) (hi : vp_in i n0) (hj : i.toNatClampNeg = j)
    (kk : J g μ d K N (pc + 1) L S (ST (xs x h j v) m) k w Q) : J g μ d K N pc L (.int v :: .int i :: .ref h :: S) (ST x m) k w Q := by
  refine J_iast hd (hc.1 m) hi ?_
  have e : (((ST x m).1, up2 (ST x m).2.1 h i.toNatClampNeg v, (ST x m).2.2) : Sto) = ST (xs x h j v) m := by
    unfold ST xs
    simp only [cmb_up hc.2, hj]
  rw [e]
  exact kk
theorem JX_last {h n0 j : Nat} {rs : List (Option Nat)} {i : Int32} {v : Int64} (hd : decode μ.2.1 pc = .ok (.lastore, 1)) (hc : celX x h (101, n0, rs)) (hi : vp_in i n0) (hj : i.toNatClampNeg = j)
    (kk : J g μ d K N (pc + 1) L S (ST (xsl x h j v) m) k w Q) : J g μ d K N pc L (.long v :: .int i :: .ref h :: S) (ST x m) k w Q := by
  refine J_last hd (hc.1 m) hi ?_
  have e : (((ST x m).1, (ST x m).2.1, up2 (ST x m).2.2 h i.toNatClampNeg v) : Sto) = ST (xsl x h j v) m := by
    unfold ST xsl
    simp only [cmb_up hc.2, hj]
  rw [e]
  exact kk
theorem JX_aald {kd h n0 j r : Nat} {rs : List (Option Nat)} {i : Int32} (hkd : kd = 102 ∨ kd = 103) (hd : decode μ.2.1 pc = .ok (.aaload, 1)) (hc : celX x h (kd, n0, rs)) (hi : vp_in i n0) (hj : i.toNatClampNeg = j) (hv : rs[j]? = some (some r))
    (kk : J g μ d K N (pc + 1) L (.ref r :: S) (ST x m) k w Q) : J g μ d K N pc L (.int i :: .ref h :: S) (ST x m) k w Q := J_aald hkd hd (hc.1 m) hi (by rw [hj]; exact hv) kk
theorem JX_alenI {h n0 : Nat} {rs : List (Option Nat)} {v : Int32} (hd : decode μ.2.1 pc = .ok (.arraylength, 1)) (hc : celX x h (100, n0, rs)) (hv : Int32.ofNat n0 = v)
    (kk : J g μ d K N (pc + 1) L (.int v :: S) (ST x m) k w Q) : J g μ d K N pc L (.ref h :: S) (ST x m) k w Q := J_alenI hd (hc.1 m) hv kk
theorem JX_callVv {idx h ci n0 n nf : Nat} {C : String} {T : u_T} {rs : List (Option Nat)} {As St : List Value} {ν : MRec} {σ1 : Sto} (hlk : LKV μ.1.cls idx C ν n) (hvw : vwCl[ci]? = some (C, T, nf)) (hci : ci < 9) (hd : decode μ.2.1 pc = .ok (.invokevirtual idx, 3)) (hc : celX x h (ci, n0, rs)) (hM : JC g ν (d - 1) 0 0 (.ref h :: As) (ST x m) (EQ (none) σ1)) (hdd : 1 ≤ d) (hn : As.length = n)
    (hst : St = As.reverse ++ .ref h :: S) (hS8 : (S.map fun v => v.category).sum ≤ 8) (hlen : σ1.1.length = (ST x m).1.length) (kk : J g μ d K N (pc + 3) L (S) σ1 k w Q) : J g μ d K N pc L St (ST x m) k w Q :=
  fun p e R s mm args below meth c Z hC hR H locs ls hW hS hl hk hw => J_callV hlk hvw hci hd (hc.1 m) hM (by omega) hn hst hS8 hk hw (fun v σ2 q => by rw [q.2]; exact hlen) (fun v σ2 q => by rw [q.1, q.2]; exact kk) p e R s mm args below meth c Z hC hR H locs ls hW hS hl hk hw
theorem JX_callUv {idx h ci n0 n nf : Nat} {C owner : String} {z : MethodName} {T : u_T} {rs : List (Option Nat)} {As St : List Value} {ν : MRec} {σ1 : Sto} (hlk : LKU μ.1.cls idx C owner z ν n) (hvw : vwCl[ci]? = some (C, T, nf)) (hci : ci < 9) (hd : decode μ.2.1 pc = .ok (.invokevirtual idx, 3)) (hc : celX x h (ci, n0, rs)) (hM : JC g ν (d - 1) 0 0 (.ref h :: As) (ST x m) (EQ (none) σ1)) (hdd : 1 ≤ d) (hn : As.length = n)
    (hst : St = As.reverse ++ .ref h :: S) (hS8 : (S.map fun v => v.category).sum ≤ 8) (hlen : σ1.1.length = (ST x m).1.length) (kk : J g μ d K N (pc + 3) L (S) σ1 k w Q) : J g μ d K N pc L St (ST x m) k w Q :=
  fun p e R s mm args below meth c Z hC hR H locs ls hW hS hl hk hw => J_callU hlk hvw hci hd (hc.1 m) hM (by omega) hn hst hS8 hk hw (fun v σ2 q => by rw [q.2]; exact hlen) (fun v σ2 q => by rw [q.1, q.2]; exact kk) p e R s mm args below meth c Z hC hR H locs ls hW hS hl hk hw
theorem JX_callAv {idx h ci n0 n nf : Nat} {C owner : String} {z : MethodName} {T : u_T} {rs : List (Option Nat)} {As St : List Value} {ν : MRec} {σ1 : Sto} (hlk : LKA μ.1.cls idx C owner z ν n) (hvw : vwCl[ci]? = some (C, T, nf)) (hci : ci < 9) (hd : decode μ.2.1 pc = .ok (.invokevirtual idx, 3)) (hc : celX x h (ci, n0, rs)) (hM : JC g ν (d - 1) 0 0 (.ref h :: As) (ST x m) (EQ (none) σ1)) (hdd : 1 ≤ d) (hn : As.length = n)
    (hst : St = As.reverse ++ .ref h :: S) (hS8 : (S.map fun v => v.category).sum ≤ 8) (hlen : σ1.1.length = (ST x m).1.length) (kk : J g μ d K N (pc + 3) L (S) σ1 k w Q) : J g μ d K N pc L St (ST x m) k w Q :=
  fun p e R s mm args below meth c Z hC hR H locs ls hW hS hl hk hw => J_callA hlk hvw hci hd (hc.1 m) hM (by omega) hn hst hS8 hk hw (fun v σ2 q => by rw [q.2]; exact hlen) (fun v σ2 q => by rw [q.1, q.2]; exact kk) p e R s mm args below meth c Z hC hR H locs ls hW hS hl hk hw
theorem J_callSv {idx n : Nat} {As St : List Value} {ν : MRec} {σ σ1 : Sto} (hlk : LKS μ.1.cls idx ν n) (hd : decode μ.2.1 pc = .ok (.invokestatic idx, 3)) (hM : JC g ν (d - 1) 0 0 As σ (EQ (none) σ1)) (hdd : 1 ≤ d) (hn : As.length = n)
    (hst : St = As.reverse ++ S) (hS8 : (S.map fun v => v.category).sum ≤ 8) (hlen : σ1.1.length = σ.1.length) (kk : J g μ d K N (pc + 3) L (S) σ1 k w Q) : J g μ d K N pc L St σ k w Q :=
  fun p e R s mm args below meth c Z hC hR H locs ls hW hS hl hk hw => J_callS hlk hd hM (by omega) hn hst hS8 hk hw (fun v σ2 q => by rw [q.2]; exact hlen) (fun v σ2 q => by rw [q.1, q.2]; exact kk) p e R s mm args below meth c Z hC hR H locs ls hW hS hl hk hw
theorem JX_callVi {idx h ci n0 n nf : Nat} {C : String} {T : u_T} {rs : List (Option Nat)} {As St : List Value} {ν : MRec} {r1 : Int32} {σ1 : Sto} (hlk : LKV μ.1.cls idx C ν n) (hvw : vwCl[ci]? = some (C, T, nf)) (hci : ci < 9) (hd : decode μ.2.1 pc = .ok (.invokevirtual idx, 3)) (hc : celX x h (ci, n0, rs)) (hM : JC g ν (d - 1) 0 0 (.ref h :: As) (ST x m) (EQ (some (.int r1)) σ1)) (hdd : 1 ≤ d) (hn : As.length = n)
    (hst : St = As.reverse ++ .ref h :: S) (hS8 : (S.map fun v => v.category).sum ≤ 8) (hlen : σ1.1.length = (ST x m).1.length) (kk : J g μ d K N (pc + 3) L (.int r1 :: S) σ1 k w Q) : J g μ d K N pc L St (ST x m) k w Q :=
  fun p e R s mm args below meth c Z hC hR H locs ls hW hS hl hk hw => J_callV hlk hvw hci hd (hc.1 m) hM (by omega) hn hst hS8 hk hw (fun v σ2 q => by rw [q.2]; exact hlen) (fun v σ2 q => by rw [q.1, q.2]; exact kk) p e R s mm args below meth c Z hC hR H locs ls hW hS hl hk hw
theorem JX_callUi {idx h ci n0 n nf : Nat} {C owner : String} {z : MethodName} {T : u_T} {rs : List (Option Nat)} {As St : List Value} {ν : MRec} {r1 : Int32} {σ1 : Sto} (hlk : LKU μ.1.cls idx C owner z ν n) (hvw : vwCl[ci]? = some (C, T, nf)) (hci : ci < 9) (hd : decode μ.2.1 pc = .ok (.invokevirtual idx, 3)) (hc : celX x h (ci, n0, rs)) (hM : JC g ν (d - 1) 0 0 (.ref h :: As) (ST x m) (EQ (some (.int r1)) σ1)) (hdd : 1 ≤ d) (hn : As.length = n)
    (hst : St = As.reverse ++ .ref h :: S) (hS8 : (S.map fun v => v.category).sum ≤ 8) (hlen : σ1.1.length = (ST x m).1.length) (kk : J g μ d K N (pc + 3) L (.int r1 :: S) σ1 k w Q) : J g μ d K N pc L St (ST x m) k w Q :=
  fun p e R s mm args below meth c Z hC hR H locs ls hW hS hl hk hw => J_callU hlk hvw hci hd (hc.1 m) hM (by omega) hn hst hS8 hk hw (fun v σ2 q => by rw [q.2]; exact hlen) (fun v σ2 q => by rw [q.1, q.2]; exact kk) p e R s mm args below meth c Z hC hR H locs ls hW hS hl hk hw
theorem JX_callAi {idx h ci n0 n nf : Nat} {C owner : String} {z : MethodName} {T : u_T} {rs : List (Option Nat)} {As St : List Value} {ν : MRec} {r1 : Int32} {σ1 : Sto} (hlk : LKA μ.1.cls idx C owner z ν n) (hvw : vwCl[ci]? = some (C, T, nf)) (hci : ci < 9) (hd : decode μ.2.1 pc = .ok (.invokevirtual idx, 3)) (hc : celX x h (ci, n0, rs)) (hM : JC g ν (d - 1) 0 0 (.ref h :: As) (ST x m) (EQ (some (.int r1)) σ1)) (hdd : 1 ≤ d) (hn : As.length = n)
    (hst : St = As.reverse ++ .ref h :: S) (hS8 : (S.map fun v => v.category).sum ≤ 8) (hlen : σ1.1.length = (ST x m).1.length) (kk : J g μ d K N (pc + 3) L (.int r1 :: S) σ1 k w Q) : J g μ d K N pc L St (ST x m) k w Q :=
  fun p e R s mm args below meth c Z hC hR H locs ls hW hS hl hk hw => J_callA hlk hvw hci hd (hc.1 m) hM (by omega) hn hst hS8 hk hw (fun v σ2 q => by rw [q.2]; exact hlen) (fun v σ2 q => by rw [q.1, q.2]; exact kk) p e R s mm args below meth c Z hC hR H locs ls hW hS hl hk hw
theorem J_callSi {idx n : Nat} {As St : List Value} {ν : MRec} {r1 : Int32} {σ σ1 : Sto} (hlk : LKS μ.1.cls idx ν n) (hd : decode μ.2.1 pc = .ok (.invokestatic idx, 3)) (hM : JC g ν (d - 1) 0 0 As σ (EQ (some (.int r1)) σ1)) (hdd : 1 ≤ d) (hn : As.length = n)
    (hst : St = As.reverse ++ S) (hS8 : (S.map fun v => v.category).sum ≤ 8) (hlen : σ1.1.length = σ.1.length) (kk : J g μ d K N (pc + 3) L (.int r1 :: S) σ1 k w Q) : J g μ d K N pc L St σ k w Q :=
  fun p e R s mm args below meth c Z hC hR H locs ls hW hS hl hk hw => J_callS hlk hd hM (by omega) hn hst hS8 hk hw (fun v σ2 q => by rw [q.2]; exact hlen) (fun v σ2 q => by rw [q.1, q.2]; exact kk) p e R s mm args below meth c Z hC hR H locs ls hW hS hl hk hw
theorem JX_callVl {idx h ci n0 n nf : Nat} {C : String} {T : u_T} {rs : List (Option Nat)} {As St : List Value} {ν : MRec} {r1 : Int64} {σ1 : Sto} (hlk : LKV μ.1.cls idx C ν n) (hvw : vwCl[ci]? = some (C, T, nf)) (hci : ci < 9) (hd : decode μ.2.1 pc = .ok (.invokevirtual idx, 3)) (hc : celX x h (ci, n0, rs)) (hM : JC g ν (d - 1) 0 0 (.ref h :: As) (ST x m) (EQ (some (.long r1)) σ1)) (hdd : 1 ≤ d) (hn : As.length = n)
    (hst : St = As.reverse ++ .ref h :: S) (hS8 : (S.map fun v => v.category).sum ≤ 8) (hlen : σ1.1.length = (ST x m).1.length) (kk : J g μ d K N (pc + 3) L (.long r1 :: S) σ1 k w Q) : J g μ d K N pc L St (ST x m) k w Q :=
  fun p e R s mm args below meth c Z hC hR H locs ls hW hS hl hk hw => J_callV hlk hvw hci hd (hc.1 m) hM (by omega) hn hst hS8 hk hw (fun v σ2 q => by rw [q.2]; exact hlen) (fun v σ2 q => by rw [q.1, q.2]; exact kk) p e R s mm args below meth c Z hC hR H locs ls hW hS hl hk hw
theorem JX_callUl {idx h ci n0 n nf : Nat} {C owner : String} {z : MethodName} {T : u_T} {rs : List (Option Nat)} {As St : List Value} {ν : MRec} {r1 : Int64} {σ1 : Sto} (hlk : LKU μ.1.cls idx C owner z ν n) (hvw : vwCl[ci]? = some (C, T, nf)) (hci : ci < 9) (hd : decode μ.2.1 pc = .ok (.invokevirtual idx, 3)) (hc : celX x h (ci, n0, rs)) (hM : JC g ν (d - 1) 0 0 (.ref h :: As) (ST x m) (EQ (some (.long r1)) σ1)) (hdd : 1 ≤ d) (hn : As.length = n)
    (hst : St = As.reverse ++ .ref h :: S) (hS8 : (S.map fun v => v.category).sum ≤ 8) (hlen : σ1.1.length = (ST x m).1.length) (kk : J g μ d K N (pc + 3) L (.long r1 :: S) σ1 k w Q) : J g μ d K N pc L St (ST x m) k w Q :=
  fun p e R s mm args below meth c Z hC hR H locs ls hW hS hl hk hw => J_callU hlk hvw hci hd (hc.1 m) hM (by omega) hn hst hS8 hk hw (fun v σ2 q => by rw [q.2]; exact hlen) (fun v σ2 q => by rw [q.1, q.2]; exact kk) p e R s mm args below meth c Z hC hR H locs ls hW hS hl hk hw
theorem JX_callAl {idx h ci n0 n nf : Nat} {C owner : String} {z : MethodName} {T : u_T} {rs : List (Option Nat)} {As St : List Value} {ν : MRec} {r1 : Int64} {σ1 : Sto} (hlk : LKA μ.1.cls idx C owner z ν n) (hvw : vwCl[ci]? = some (C, T, nf)) (hci : ci < 9) (hd : decode μ.2.1 pc = .ok (.invokevirtual idx, 3)) (hc : celX x h (ci, n0, rs)) (hM : JC g ν (d - 1) 0 0 (.ref h :: As) (ST x m) (EQ (some (.long r1)) σ1)) (hdd : 1 ≤ d) (hn : As.length = n)
    (hst : St = As.reverse ++ .ref h :: S) (hS8 : (S.map fun v => v.category).sum ≤ 8) (hlen : σ1.1.length = (ST x m).1.length) (kk : J g μ d K N (pc + 3) L (.long r1 :: S) σ1 k w Q) : J g μ d K N pc L St (ST x m) k w Q :=
  fun p e R s mm args below meth c Z hC hR H locs ls hW hS hl hk hw => J_callA hlk hvw hci hd (hc.1 m) hM (by omega) hn hst hS8 hk hw (fun v σ2 q => by rw [q.2]; exact hlen) (fun v σ2 q => by rw [q.1, q.2]; exact kk) p e R s mm args below meth c Z hC hR H locs ls hW hS hl hk hw
theorem J_callSl {idx n : Nat} {As St : List Value} {ν : MRec} {r1 : Int64} {σ σ1 : Sto} (hlk : LKS μ.1.cls idx ν n) (hd : decode μ.2.1 pc = .ok (.invokestatic idx, 3)) (hM : JC g ν (d - 1) 0 0 As σ (EQ (some (.long r1)) σ1)) (hdd : 1 ≤ d) (hn : As.length = n)
    (hst : St = As.reverse ++ S) (hS8 : (S.map fun v => v.category).sum ≤ 8) (hlen : σ1.1.length = σ.1.length) (kk : J g μ d K N (pc + 3) L (.long r1 :: S) σ1 k w Q) : J g μ d K N pc L St σ k w Q :=
  fun p e R s mm args below meth c Z hC hR H locs ls hW hS hl hk hw => J_callS hlk hd hM (by omega) hn hst hS8 hk hw (fun v σ2 q => by rw [q.2]; exact hlen) (fun v σ2 q => by rw [q.1, q.2]; exact kk) p e R s mm args below meth c Z hC hR H locs ls hW hS hl hk hw
theorem JM_getI {idx ci kf h n0 : Nat} {ty : FieldType} {fin : Bool} {rs : List (Option Nat)} (hF : FLD μ.1.cls idx ci kf ty fin) (hd : decode μ.2.1 pc = .ok (.getfield idx, 3)) (hc : celM h (ci, n0, rs)) (hr : isRf ci kf = false)
    (kk : J g μ d K N (pc + 3) L (.int (mi m h kf) :: S) (ST x m) k w Q) : J g μ d K N pc L (.ref h :: S) (ST x m) k w Q := J_getI hF hd (hc.1 x m) hr (by show cmb _ _ h kf = _; rw [cmb_ge hc.2]; rfl) kk
theorem JM_getR {idx ci kf h n0 r : Nat} {ty : FieldType} {fin : Bool} {rs : List (Option Nat)} (hF : FLD μ.1.cls idx ci kf ty fin) (hd : decode μ.2.1 pc = .ok (.getfield idx, 3)) (hc : celM h (ci, n0, rs)) (hr : isRf ci kf = true) (hv : rs[kf]? = some (some r))
    (kk : J g μ d K N (pc + 3) L (.ref r :: S) (ST x m) k w Q) : J g μ d K N pc L (.ref h :: S) (ST x m) k w Q := J_getR hF hd (hc.1 x m) hr hv kk
theorem JM_putI {idx ci kf h n0 : Nat} {ty : FieldType} {rs : List (Option Nat)} {v : Int32} (hF : FLD μ.1.cls idx ci kf ty false) (hd : decode μ.2.1 pc = .ok (.putfield idx, 3)) (hc : celM h (ci, n0, rs)) (hr : isRf ci kf = false) (hn : narrow ty (.int v) = .int v) (hf : fits ty (.int v) = true)
    (kk : J g μ d K N (pc + 3) L S (ST x (ms m h kf v)) k w Q) : J g μ d K N pc L (.int v :: .ref h :: S) (ST x m) k w Q := by
  refine J_putI hF hd (hc.1 x m) hr hn hf ?_
  have e : (((ST x m).1, up2 (ST x m).2.1 h kf v, (ST x m).2.2) : Sto) = ST x (ms m h kf v) := by
    unfold ST ms
    simp only [cmb_up' hc.2]
  rw [e]
  exact kk
theorem JM_iald {h n0 j : Nat} {rs : List (Option Nat)} {i : Int32} (hd : decode μ.2.1 pc = .ok (.iaload, 1)) (hc : celM h (100, n0, rs)) (hi : vp_in i n0) (hj : i.toNatClampNeg = j)
    (kk : J g μ d K N (pc + 1) L (.int (mi m h j) :: S) (ST x m) k w Q) : J g μ d K N pc L (.int i :: .ref h :: S) (ST x m) k w Q := J_iald hd (hc.1 x m) hi (by show cmb _ _ h _ = _; rw [cmb_ge hc.2, hj]; rfl) kk
theorem JM_lald {h n0 j : Nat} {rs : List (Option Nat)} {i : Int32} (hd : decode μ.2.1 pc = .ok (.laload, 1)) (hc : celM h (101, n0, rs)) (hi : vp_in i n0) (hj : i.toNatClampNeg = j)
    (kk : J g μ d K N (pc + 1) L (.long (ml m h j) :: S) (ST x m) k w Q) : J g μ d K N pc L (.int i :: .ref h :: S) (ST x m) k w Q := J_lald hd (hc.1 x m) hi (by show cmb _ _ h _ = _; rw [cmb_ge hc.2, hj]; rfl) kk
theorem JM_iast {h n0 j : Nat} {rs : List (Option Nat)} {i v : Int32} (hd : decode μ.2.1 pc = .ok (.iastore, 1)) (hc : celM h (100, n0, rs)) (hi : vp_in i n0) (hj : i.toNatClampNeg = j)
    (kk : J g μ d K N (pc + 1) L S (ST x (ms m h j v)) k w Q) : J g μ d K N pc L (.int v :: .int i :: .ref h :: S) (ST x m) k w Q := by
  refine J_iast hd (hc.1 x m) hi ?_
  have e : (((ST x m).1, up2 (ST x m).2.1 h i.toNatClampNeg v, (ST x m).2.2) : Sto) = ST x (ms m h j v) := by
    unfold ST ms
    simp only [cmb_up' hc.2, hj]
  rw [e]
  exact kk
theorem JM_last {h n0 j : Nat} {rs : List (Option Nat)} {i : Int32} {v : Int64} (hd : decode μ.2.1 pc = .ok (.lastore, 1)) (hc : celM h (101, n0, rs)) (hi : vp_in i n0) (hj : i.toNatClampNeg = j)
    (kk : J g μ d K N (pc + 1) L S (ST x (msl m h j v)) k w Q) : J g μ d K N pc L (.long v :: .int i :: .ref h :: S) (ST x m) k w Q := by
  refine J_last hd (hc.1 x m) hi ?_
  have e : (((ST x m).1, (ST x m).2.1, up2 (ST x m).2.2 h i.toNatClampNeg v) : Sto) = ST x (msl m h j v) := by
    unfold ST msl
    simp only [cmb_up' hc.2, hj]
  rw [e]
  exact kk
theorem JM_aald {kd h n0 j r : Nat} {rs : List (Option Nat)} {i : Int32} (hkd : kd = 102 ∨ kd = 103) (hd : decode μ.2.1 pc = .ok (.aaload, 1)) (hc : celM h (kd, n0, rs)) (hi : vp_in i n0) (hj : i.toNatClampNeg = j) (hv : rs[j]? = some (some r))
    (kk : J g μ d K N (pc + 1) L (.ref r :: S) (ST x m) k w Q) : J g μ d K N pc L (.int i :: .ref h :: S) (ST x m) k w Q := J_aald hkd hd (hc.1 x m) hi (by rw [hj]; exact hv) kk
theorem JM_alenI {h n0 : Nat} {rs : List (Option Nat)} {v : Int32} (hd : decode μ.2.1 pc = .ok (.arraylength, 1)) (hc : celM h (100, n0, rs)) (hv : Int32.ofNat n0 = v)
    (kk : J g μ d K N (pc + 1) L (.int v :: S) (ST x m) k w Q) : J g μ d K N pc L (.ref h :: S) (ST x m) k w Q := J_alenI hd (hc.1 x m) hv kk
theorem JM_callVv {idx h ci n0 n nf : Nat} {C : String} {T : u_T} {rs : List (Option Nat)} {As St : List Value} {ν : MRec} {σ1 : Sto} (hlk : LKV μ.1.cls idx C ν n) (hvw : vwCl[ci]? = some (C, T, nf)) (hci : ci < 9) (hd : decode μ.2.1 pc = .ok (.invokevirtual idx, 3)) (hc : celM h (ci, n0, rs)) (hM : JC g ν (d - 1) 0 0 (.ref h :: As) (ST x m) (EQ (none) σ1)) (hdd : 1 ≤ d) (hn : As.length = n)
    (hst : St = As.reverse ++ .ref h :: S) (hS8 : (S.map fun v => v.category).sum ≤ 8) (hlen : σ1.1.length = (ST x m).1.length) (kk : J g μ d K N (pc + 3) L (S) σ1 k w Q) : J g μ d K N pc L St (ST x m) k w Q :=
  fun p e R s mm args below meth c Z hC hR H locs ls hW hS hl hk hw => J_callV hlk hvw hci hd (hc.1 x m) hM (by omega) hn hst hS8 hk hw (fun v σ2 q => by rw [q.2]; exact hlen) (fun v σ2 q => by rw [q.1, q.2]; exact kk) p e R s mm args below meth c Z hC hR H locs ls hW hS hl hk hw
theorem JM_callUv {idx h ci n0 n nf : Nat} {C owner : String} {z : MethodName} {T : u_T} {rs : List (Option Nat)} {As St : List Value} {ν : MRec} {σ1 : Sto} (hlk : LKU μ.1.cls idx C owner z ν n) (hvw : vwCl[ci]? = some (C, T, nf)) (hci : ci < 9) (hd : decode μ.2.1 pc = .ok (.invokevirtual idx, 3)) (hc : celM h (ci, n0, rs)) (hM : JC g ν (d - 1) 0 0 (.ref h :: As) (ST x m) (EQ (none) σ1)) (hdd : 1 ≤ d) (hn : As.length = n)
    (hst : St = As.reverse ++ .ref h :: S) (hS8 : (S.map fun v => v.category).sum ≤ 8) (hlen : σ1.1.length = (ST x m).1.length) (kk : J g μ d K N (pc + 3) L (S) σ1 k w Q) : J g μ d K N pc L St (ST x m) k w Q :=
  fun p e R s mm args below meth c Z hC hR H locs ls hW hS hl hk hw => J_callU hlk hvw hci hd (hc.1 x m) hM (by omega) hn hst hS8 hk hw (fun v σ2 q => by rw [q.2]; exact hlen) (fun v σ2 q => by rw [q.1, q.2]; exact kk) p e R s mm args below meth c Z hC hR H locs ls hW hS hl hk hw
theorem JM_callAv {idx h ci n0 n nf : Nat} {C owner : String} {z : MethodName} {T : u_T} {rs : List (Option Nat)} {As St : List Value} {ν : MRec} {σ1 : Sto} (hlk : LKA μ.1.cls idx C owner z ν n) (hvw : vwCl[ci]? = some (C, T, nf)) (hci : ci < 9) (hd : decode μ.2.1 pc = .ok (.invokevirtual idx, 3)) (hc : celM h (ci, n0, rs)) (hM : JC g ν (d - 1) 0 0 (.ref h :: As) (ST x m) (EQ (none) σ1)) (hdd : 1 ≤ d) (hn : As.length = n)
    (hst : St = As.reverse ++ .ref h :: S) (hS8 : (S.map fun v => v.category).sum ≤ 8) (hlen : σ1.1.length = (ST x m).1.length) (kk : J g μ d K N (pc + 3) L (S) σ1 k w Q) : J g μ d K N pc L St (ST x m) k w Q :=
  fun p e R s mm args below meth c Z hC hR H locs ls hW hS hl hk hw => J_callA hlk hvw hci hd (hc.1 x m) hM (by omega) hn hst hS8 hk hw (fun v σ2 q => by rw [q.2]; exact hlen) (fun v σ2 q => by rw [q.1, q.2]; exact kk) p e R s mm args below meth c Z hC hR H locs ls hW hS hl hk hw
theorem JM_callVi {idx h ci n0 n nf : Nat} {C : String} {T : u_T} {rs : List (Option Nat)} {As St : List Value} {ν : MRec} {r1 : Int32} {σ1 : Sto} (hlk : LKV μ.1.cls idx C ν n) (hvw : vwCl[ci]? = some (C, T, nf)) (hci : ci < 9) (hd : decode μ.2.1 pc = .ok (.invokevirtual idx, 3)) (hc : celM h (ci, n0, rs)) (hM : JC g ν (d - 1) 0 0 (.ref h :: As) (ST x m) (EQ (some (.int r1)) σ1)) (hdd : 1 ≤ d) (hn : As.length = n)
    (hst : St = As.reverse ++ .ref h :: S) (hS8 : (S.map fun v => v.category).sum ≤ 8) (hlen : σ1.1.length = (ST x m).1.length) (kk : J g μ d K N (pc + 3) L (.int r1 :: S) σ1 k w Q) : J g μ d K N pc L St (ST x m) k w Q :=
  fun p e R s mm args below meth c Z hC hR H locs ls hW hS hl hk hw => J_callV hlk hvw hci hd (hc.1 x m) hM (by omega) hn hst hS8 hk hw (fun v σ2 q => by rw [q.2]; exact hlen) (fun v σ2 q => by rw [q.1, q.2]; exact kk) p e R s mm args below meth c Z hC hR H locs ls hW hS hl hk hw
theorem JM_callUi {idx h ci n0 n nf : Nat} {C owner : String} {z : MethodName} {T : u_T} {rs : List (Option Nat)} {As St : List Value} {ν : MRec} {r1 : Int32} {σ1 : Sto} (hlk : LKU μ.1.cls idx C owner z ν n) (hvw : vwCl[ci]? = some (C, T, nf)) (hci : ci < 9) (hd : decode μ.2.1 pc = .ok (.invokevirtual idx, 3)) (hc : celM h (ci, n0, rs)) (hM : JC g ν (d - 1) 0 0 (.ref h :: As) (ST x m) (EQ (some (.int r1)) σ1)) (hdd : 1 ≤ d) (hn : As.length = n)
    (hst : St = As.reverse ++ .ref h :: S) (hS8 : (S.map fun v => v.category).sum ≤ 8) (hlen : σ1.1.length = (ST x m).1.length) (kk : J g μ d K N (pc + 3) L (.int r1 :: S) σ1 k w Q) : J g μ d K N pc L St (ST x m) k w Q :=
  fun p e R s mm args below meth c Z hC hR H locs ls hW hS hl hk hw => J_callU hlk hvw hci hd (hc.1 x m) hM (by omega) hn hst hS8 hk hw (fun v σ2 q => by rw [q.2]; exact hlen) (fun v σ2 q => by rw [q.1, q.2]; exact kk) p e R s mm args below meth c Z hC hR H locs ls hW hS hl hk hw
theorem JM_callAi {idx h ci n0 n nf : Nat} {C owner : String} {z : MethodName} {T : u_T} {rs : List (Option Nat)} {As St : List Value} {ν : MRec} {r1 : Int32} {σ1 : Sto} (hlk : LKA μ.1.cls idx C owner z ν n) (hvw : vwCl[ci]? = some (C, T, nf)) (hci : ci < 9) (hd : decode μ.2.1 pc = .ok (.invokevirtual idx, 3)) (hc : celM h (ci, n0, rs)) (hM : JC g ν (d - 1) 0 0 (.ref h :: As) (ST x m) (EQ (some (.int r1)) σ1)) (hdd : 1 ≤ d) (hn : As.length = n)
    (hst : St = As.reverse ++ .ref h :: S) (hS8 : (S.map fun v => v.category).sum ≤ 8) (hlen : σ1.1.length = (ST x m).1.length) (kk : J g μ d K N (pc + 3) L (.int r1 :: S) σ1 k w Q) : J g μ d K N pc L St (ST x m) k w Q :=
  fun p e R s mm args below meth c Z hC hR H locs ls hW hS hl hk hw => J_callA hlk hvw hci hd (hc.1 x m) hM (by omega) hn hst hS8 hk hw (fun v σ2 q => by rw [q.2]; exact hlen) (fun v σ2 q => by rw [q.1, q.2]; exact kk) p e R s mm args below meth c Z hC hR H locs ls hW hS hl hk hw
theorem JM_callVl {idx h ci n0 n nf : Nat} {C : String} {T : u_T} {rs : List (Option Nat)} {As St : List Value} {ν : MRec} {r1 : Int64} {σ1 : Sto} (hlk : LKV μ.1.cls idx C ν n) (hvw : vwCl[ci]? = some (C, T, nf)) (hci : ci < 9) (hd : decode μ.2.1 pc = .ok (.invokevirtual idx, 3)) (hc : celM h (ci, n0, rs)) (hM : JC g ν (d - 1) 0 0 (.ref h :: As) (ST x m) (EQ (some (.long r1)) σ1)) (hdd : 1 ≤ d) (hn : As.length = n)
    (hst : St = As.reverse ++ .ref h :: S) (hS8 : (S.map fun v => v.category).sum ≤ 8) (hlen : σ1.1.length = (ST x m).1.length) (kk : J g μ d K N (pc + 3) L (.long r1 :: S) σ1 k w Q) : J g μ d K N pc L St (ST x m) k w Q :=
  fun p e R s mm args below meth c Z hC hR H locs ls hW hS hl hk hw => J_callV hlk hvw hci hd (hc.1 x m) hM (by omega) hn hst hS8 hk hw (fun v σ2 q => by rw [q.2]; exact hlen) (fun v σ2 q => by rw [q.1, q.2]; exact kk) p e R s mm args below meth c Z hC hR H locs ls hW hS hl hk hw
theorem JM_callUl {idx h ci n0 n nf : Nat} {C owner : String} {z : MethodName} {T : u_T} {rs : List (Option Nat)} {As St : List Value} {ν : MRec} {r1 : Int64} {σ1 : Sto} (hlk : LKU μ.1.cls idx C owner z ν n) (hvw : vwCl[ci]? = some (C, T, nf)) (hci : ci < 9) (hd : decode μ.2.1 pc = .ok (.invokevirtual idx, 3)) (hc : celM h (ci, n0, rs)) (hM : JC g ν (d - 1) 0 0 (.ref h :: As) (ST x m) (EQ (some (.long r1)) σ1)) (hdd : 1 ≤ d) (hn : As.length = n)
    (hst : St = As.reverse ++ .ref h :: S) (hS8 : (S.map fun v => v.category).sum ≤ 8) (hlen : σ1.1.length = (ST x m).1.length) (kk : J g μ d K N (pc + 3) L (.long r1 :: S) σ1 k w Q) : J g μ d K N pc L St (ST x m) k w Q :=
  fun p e R s mm args below meth c Z hC hR H locs ls hW hS hl hk hw => J_callU hlk hvw hci hd (hc.1 x m) hM (by omega) hn hst hS8 hk hw (fun v σ2 q => by rw [q.2]; exact hlen) (fun v σ2 q => by rw [q.1, q.2]; exact kk) p e R s mm args below meth c Z hC hR H locs ls hW hS hl hk hw
theorem JM_callAl {idx h ci n0 n nf : Nat} {C owner : String} {z : MethodName} {T : u_T} {rs : List (Option Nat)} {As St : List Value} {ν : MRec} {r1 : Int64} {σ1 : Sto} (hlk : LKA μ.1.cls idx C owner z ν n) (hvw : vwCl[ci]? = some (C, T, nf)) (hci : ci < 9) (hd : decode μ.2.1 pc = .ok (.invokevirtual idx, 3)) (hc : celM h (ci, n0, rs)) (hM : JC g ν (d - 1) 0 0 (.ref h :: As) (ST x m) (EQ (some (.long r1)) σ1)) (hdd : 1 ≤ d) (hn : As.length = n)
    (hst : St = As.reverse ++ .ref h :: S) (hS8 : (S.map fun v => v.category).sum ≤ 8) (hlen : σ1.1.length = (ST x m).1.length) (kk : J g μ d K N (pc + 3) L (.long r1 :: S) σ1 k w Q) : J g μ d K N pc L St (ST x m) k w Q :=
  fun p e R s mm args below meth c Z hC hR H locs ls hW hS hl hk hw => J_callA hlk hvw hci hd (hc.1 x m) hM (by omega) hn hst hS8 hk hw (fun v σ2 q => by rw [q.2]; exact hlen) (fun v σ2 q => by rw [q.1, q.2]; exact kk) p e R s mm args below meth c Z hC hR H locs ls hW hS hl hk hw
theorem JX_putRul {idx r : Nat} {ty : FieldType} (hF : FLD μ.1.cls idx 7 10 ty false) (hd : decode μ.2.1 pc = .ok (.putfield idx, 3)) (hn : ∀ a, narrow ty (.ref a) = .ref a) (hf : ∀ a, fits ty (.ref a) = true)
    (kk : J g μ d K N (pc + 3) L S (ST (xr x r x.1.2) m) k w Q) : J g μ d K N pc L (.ref r :: .ref 5 :: S) (ST x m) k w Q := J_putR hF hd (c_5.1 m) rfl hn hf (Nat.le_of_ble_eq_true rfl) kk
theorem JX_putCom {idx r : Nat} {ty : FieldType} (hF : FLD μ.1.cls idx 7 11 ty false) (hd : decode μ.2.1 pc = .ok (.putfield idx, 3)) (hn : ∀ a, narrow ty (.ref a) = .ref a) (hf : ∀ a, fits ty (.ref a) = true)
    (kk : J g μ d K N (pc + 3) L S (ST (xr x x.1.1 r) m) k w Q) : J g μ d K N pc L (.ref r :: .ref 5 :: S) (ST x m) k w Q := J_putR hF hd (c_5.1 m) rfl hn hf (Nat.le_of_ble_eq_true rfl) kk
theorem JX_copyI {idx h0 h1 n0 n1 a b n' : Nat} {rs0 rs1 : List (Option Nat)} {sp dp n : Int32} (hw0 : Cond.methodLink μ.1.cls idx arraycopyName ∈ TB) (hd : decode μ.2.1 pc = .ok (.invokestatic idx, 3)) (hc0 : celX x h0 (100, n0, rs0)) (hc1 : celX x h1 (100, n1, rs1))
    (a1 : ¬ sp < 0) (a2 : ¬ dp < 0) (a3 : ¬ n < 0) (ea : sp.toNatClampNeg = a) (eb : dp.toNatClampNeg = b) (en : n.toNatClampNeg = n') (a4 : a + n' ≤ n0) (a5 : b + n' ≤ n1) (hS8 : (S.map fun v => v.category).sum ≤ 8)
    (kk : J g μ d K N (pc + 3) L S (ST (xcp x h0 h1 a b n') m) k w Q) : J g μ d K N pc L (.int n :: .int dp :: .ref h1 :: .int sp :: .ref h0 :: S) (ST x m) k w Q := by
  subst ea; subst eb; subst en
  refine J_copyI hw0 hd (hc0.1 m) (hc1.1 m) a1 a2 a3 a4 a5 hS8 ?_
  have e : (((ST x m).1, rs2 (ST x m).2.1 h1 (va_cpy ((ST x m).2.1 h0) ((ST x m).2.1 h1) sp.toNatClampNeg dp.toNatClampNeg n.toNatClampNeg), (ST x m).2.2) : Sto) = ST (xcp x h0 h1 sp.toNatClampNeg dp.toNatClampNeg n.toNatClampNeg) m := by
    unfold ST xcp
    simp only [cmb_lt hc0.2, cmb_lt hc1.2, cmb_rs hc1.2]
  rw [e]
  exact kk
theorem JX_copyL {idx h0 h1 n0 n1 a b n' : Nat} {rs0 rs1 : List (Option Nat)} {sp dp n : Int32} (hw0 : Cond.methodLink μ.1.cls idx arraycopyName ∈ TB) (hd : decode μ.2.1 pc = .ok (.invokestatic idx, 3)) (hc0 : celX x h0 (101, n0, rs0)) (hc1 : celX x h1 (101, n1, rs1))
    (a1 : ¬ sp < 0) (a2 : ¬ dp < 0) (a3 : ¬ n < 0) (ea : sp.toNatClampNeg = a) (eb : dp.toNatClampNeg = b) (en : n.toNatClampNeg = n') (a4 : a + n' ≤ n0) (a5 : b + n' ≤ n1) (hS8 : (S.map fun v => v.category).sum ≤ 8)
    (kk : J g μ d K N (pc + 3) L S (ST (xcpl x h0 h1 a b n') m) k w Q) : J g μ d K N pc L (.int n :: .int dp :: .ref h1 :: .int sp :: .ref h0 :: S) (ST x m) k w Q := by
  subst ea; subst eb; subst en
  refine J_copyL hw0 hd (hc0.1 m) (hc1.1 m) a1 a2 a3 a4 a5 hS8 ?_
  have e : (((ST x m).1, (ST x m).2.1, rs2 (ST x m).2.2 h1 (va_cpy ((ST x m).2.2 h0) ((ST x m).2.2 h1) sp.toNatClampNeg dp.toNatClampNeg n.toNatClampNeg)) : Sto) = ST (xcpl x h0 h1 sp.toNatClampNeg dp.toNatClampNeg n.toNatClampNeg) m := by
    unfold ST xcpl
    simp only [cmb_lt hc0.2, cmb_lt hc1.2, cmb_rs hc1.2]
  rw [e]
  exact kk
theorem J_ifb_eq {σ : Sto} {b : Bool} {off : Int} {tgt : Nat} (hd : decode μ.2.1 pc = .ok (.ifCond .eq off, 3)) (ht : (pc : Int) + off = (tgt : Int)) (kt : ¬ b = true → J g μ d K N tgt L S σ k w Q) (kf : b = true → J g μ d K N (pc + 3) L S σ k w Q) : J g μ d K N pc L (.int (b2i b) :: S) σ k w Q := by
  refine J_if_eq hd ht (fun q => kt ?_) (fun q => kf ?_)
  · cases b
    · decide
    · exact absurd q (by decide)
  · cases b
    · exact absurd rfl q
    · rfl
theorem J_ifb_ne {σ : Sto} {b : Bool} {off : Int} {tgt : Nat} (hd : decode μ.2.1 pc = .ok (.ifCond .ne off, 3)) (ht : (pc : Int) + off = (tgt : Int)) (kt : b = true → J g μ d K N tgt L S σ k w Q) (kf : ¬ b = true → J g μ d K N (pc + 3) L S σ k w Q) : J g μ d K N pc L (.int (b2i b) :: S) σ k w Q := by
  refine J_if_ne hd ht (fun q => kt ?_) (fun q => kf ?_)
  · cases b
    · exact absurd rfl q
    · rfl
  · cases b
    · decide
    · exact absurd q (by decide)
theorem J_swd {σ : Sto} {td : Nat} {v : Int32} (h : J g μ d K N td L S σ k w Q) : J g μ d K N (swt [] td v) L S σ k w Q := h
end JX
theorem cls_0 : CLS 0 RX0 TX0 2 tyX0 := ⟨rfl, by decide, by decide +kernel, memb [171, 173] (by decide +kernel), tyX0_ok, nmX0⟩
theorem cls_1 : CLS 1 RX1 TX1 6 tyX1 := ⟨rfl, by decide, by decide +kernel, memb [144, 146, 148, 150, 152, 154] (by decide +kernel), tyX1_ok, nmX1⟩
theorem cls_2 : CLS 2 RX2 TX2 5 tyX2 := ⟨rfl, by decide, by decide +kernel, memb [235, 237, 239, 241, 243] (by decide +kernel), tyX2_ok, nmX2⟩
theorem cls_3 : CLS 3 RX3 TX3 9 tyX3 := ⟨rfl, by decide, by decide +kernel, memb [265, 267, 269, 271, 273, 275, 277, 279, 281] (by decide +kernel), tyX3_ok, nmX3⟩
theorem cls_4 : CLS 4 RX4 TX4 4 tyX4 := ⟨rfl, by decide, by decide +kernel, memb [196, 198, 200, 202] (by decide +kernel), tyX4_ok, nmX4⟩
theorem cls_5 : CLS 5 RX6 TX6 4 tyX6 := ⟨rfl, by decide, by decide +kernel, memb [297, 299, 301, 303] (by decide +kernel), tyX6_ok, nmX6⟩
theorem cls_6 : CLS 6 RX7 TX7 5 tyX7 := ⟨rfl, by decide, by decide +kernel, memb [215, 216, 217, 218, 213] (by decide +kernel), tyX7_ok, nmX7⟩
theorem cls_7 : CLS 7 RX8 TX8 16 tyX8 := ⟨rfl, by decide, by decide +kernel, memb [323, 325, 327, 329, 331, 333, 335, 337, 339, 341, 343, 345, 347, 349, 351, 353] (by decide +kernel), tyX8_ok, nmX8⟩
theorem cls_8 : CLS 8 RX9 TX9 51 tyX9 := ⟨rfl, by decide, by decide +kernel, memb [950, 952, 954, 956, 958, 960, 962, 964, 966, 968, 970, 972, 974, 976, 978, 980, 982, 984, 986, 988, 990, 992, 994, 996, 998, 1000, 1002, 1004, 1006, 1008, 1010, 1012, 1014, 1016, 1018, 1020, 1022, 1024, 1026, 1028, 1030, 1032, 1034, 1036, 1038, 1040, 1042, 1044, 1046, 1048, 1050] (by decide +kernel), tyX9_ok, nmX9⟩
