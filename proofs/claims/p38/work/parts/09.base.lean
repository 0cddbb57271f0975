/-! THE STORE: every cell of both systems has a number (0 .. 111); its contents are a row of ints. 5 j (j < 5): structures (0 is the class's own, the others its history's), 25 + 5 i (i < 8): formulas, 65 .. 86 the class's other cells, 87 .. 111 the reference. -/
abbrev St : Type := Nat → Nat → Int32
abbrev cG : Type := va_G × (ClassId × ClassId × ClassId) × (Nat → Nat)
def gA (g : cG) (k : Nat) : Nat := g.2.2 k
def up (σ : St) (k j : Nat) (v : Int32) : St := va_up σ k (upd (σ k) j v)
def bI (b : Bool) : Int32 := if b then 1 else 0
def rfV (g : cG) (o : Option Nat) : Value := va_rf (o.map (gA g))
def isF (t : Nat) : Bool := t == 25 || t == 30 || t == 35 || t == 40 || t == 45 || t == 50 || t == 55 || t == 60
def isS (t : Nat) : Bool := t == 0 || t == 5 || t == 10 || t == 15 || t == 20
def dF (c : Int32) : Option Nat := if isF c.toNatClampNeg then some c.toNatClampNeg else none
def rfF (g : cG) (c : Int32) : Value := rfV g (dF c)
def cStr (g : cG) (b j : Nat) (f : Nat → Int32) : va_E := match j with
  | 0 => .inr (6, [.int (f 0), .int (f 1), .int (f 2), .ref (gA g (b + 1)), .ref (gA g (b + 2)), .ref (gA g (b + 3)), .ref (gA g (b + 4)), .int (f 7)])
  | 1 => .inl (g.2.1.1, 12, .inl f)
  | 2 => .inl (g.2.1.1, 48, .inl f)
  | 3 => .inl (g.2.1.1, 48, .inl f)
  | _ => .inl (g.2.1.1, 972, .inl f)
def cFml (g : cG) (b j : Nat) (f : Nat → Int32) : va_E := match j with
  | 0 => .inr (0, [.ref (gA g (b + 1)), .ref (gA g (b + 2)), .ref (gA g (b + 3)), .ref (gA g (b + 4)), .int (f 4)])
  | _ => .inl (g.2.1.1, 60, .inl f)

def cOne (g : cG) (k : Nat) (f : Nat → Int32) : va_E := match k with
  | 65 => .inr (8, [.ref (gA g 0), .ref (gA g 67), .ref (gA g 69), .ref (gA g 73), .ref (gA g 78), .ref (gA g 81), .ref (gA g 82), .ref (gA g 66), .int (f 8)])
  | 66 => .inl (g.2.1.2.1, 8, .inr (.inr (.inr (.inr (fun i => if i < 8 then some (gA g (25 + 5 * i)) else none)))))
  | 67 => .inr (1, [.ref (gA g 68), .int (f 1), .int (f 2)])
  | 68 => .inl (g.2.1.2.2, 4, .inr (.inr (.inr (.inr (fun i => if i < 4 then some (gA g (5 + 5 * i)) else none)))))
  | 69 => .inr (5, [.ref (gA g 0), .ref (gA g 70), .ref (gA g 71), .ref (gA g 72)])
  | 70 => .inl (g.2.1.1, 1296, .inl f)
  | 71 => .inl (g.2.1.1, 12, .inl f)
  | 72 => .inl (g.2.1.1, 81, .inl f)
  | 73 => .inr (4, [.int (f 0), .ref (gA g 74), .ref (gA g 75), .ref (gA g 76), .ref (gA g 77), .int (f 5), .int (f 6), .int (f 7), .int (f 8), .int (f 9), .int (f 10), rfF g (f 11)])
  | 74 => .inl (g.2.1.1, 60, .inl f)
  | 75 => .inl (g.2.1.1, 60, .inl f)
  | 76 => .inl (g.2.1.1, 60, .inl f)
  | 77 => .inl (g.2.1.1, 60, .inl f)
  | 78 => .inr (3, [.ref (gA g 0), .ref (gA g 69), .ref (gA g 79), .ref (gA g 80)])
  | 79 => .inl (g.2.1.1, 60, .inl f)
  | 80 => .inl (g.2.1.1, 12, .inl f)
  | 81 => .inr (7, [.ref (gA g 0), .ref (gA g 69), .ref (gA g 78), .int (f 3)])
  | 82 => .inr (2, [.ref (gA g 0), .ref (gA g 69), .ref (gA g 83), .ref (gA g 84), .ref (gA g 85), .ref (gA g 86)])
  | 83 => .inl (g.2.1.1, 12, .inl f)
  | 84 => .inl (g.2.1.1, 12, .inl f)
  | 85 => .inl (g.2.1.1, 81, .inl f)
  | _ => .inl (g.2.1.1, 81, .inl f)
def cE (g : cG) (k : Nat) (f : Nat → Int32) : va_E := if k < 25 then cStr g (k / 5 * 5) (k % 5) f else if k < 65 then cFml g (k / 5 * 5) (k % 5) f else cOne g k f
theorem cE_0 (g : cG) (f : Nat → Int32) : cE g 0 f = .inr (6, [.int (f 0), .int (f 1), .int (f 2), .ref (gA g 1), .ref (gA g 2), .ref (gA g 3), .ref (gA g 4), .int (f 7)]) := rfl
theorem cE_1 (g : cG) (f : Nat → Int32) : cE g 1 f = .inl (g.2.1.1, 12, .inl f) := rfl
theorem cE_2 (g : cG) (f : Nat → Int32) : cE g 2 f = .inl (g.2.1.1, 48, .inl f) := rfl
theorem cE_3 (g : cG) (f : Nat → Int32) : cE g 3 f = .inl (g.2.1.1, 48, .inl f) := rfl
theorem cE_4 (g : cG) (f : Nat → Int32) : cE g 4 f = .inl (g.2.1.1, 972, .inl f) := rfl
theorem cE_5 (g : cG) (f : Nat → Int32) : cE g 5 f = .inr (6, [.int (f 0), .int (f 1), .int (f 2), .ref (gA g 6), .ref (gA g 7), .ref (gA g 8), .ref (gA g 9), .int (f 7)]) := rfl
theorem cE_6 (g : cG) (f : Nat → Int32) : cE g 6 f = .inl (g.2.1.1, 12, .inl f) := rfl
theorem cE_7 (g : cG) (f : Nat → Int32) : cE g 7 f = .inl (g.2.1.1, 48, .inl f) := rfl
theorem cE_8 (g : cG) (f : Nat → Int32) : cE g 8 f = .inl (g.2.1.1, 48, .inl f) := rfl
theorem cE_9 (g : cG) (f : Nat → Int32) : cE g 9 f = .inl (g.2.1.1, 972, .inl f) := rfl
theorem cE_10 (g : cG) (f : Nat → Int32) : cE g 10 f = .inr (6, [.int (f 0), .int (f 1), .int (f 2), .ref (gA g 11), .ref (gA g 12), .ref (gA g 13), .ref (gA g 14), .int (f 7)]) := rfl
theorem cE_11 (g : cG) (f : Nat → Int32) : cE g 11 f = .inl (g.2.1.1, 12, .inl f) := rfl
theorem cE_12 (g : cG) (f : Nat → Int32) : cE g 12 f = .inl (g.2.1.1, 48, .inl f) := rfl
theorem cE_13 (g : cG) (f : Nat → Int32) : cE g 13 f = .inl (g.2.1.1, 48, .inl f) := rfl
theorem cE_14 (g : cG) (f : Nat → Int32) : cE g 14 f = .inl (g.2.1.1, 972, .inl f) := rfl
theorem cE_15 (g : cG) (f : Nat → Int32) : cE g 15 f = .inr (6, [.int (f 0), .int (f 1), .int (f 2), .ref (gA g 16), .ref (gA g 17), .ref (gA g 18), .ref (gA g 19), .int (f 7)]) := rfl
theorem cE_16 (g : cG) (f : Nat → Int32) : cE g 16 f = .inl (g.2.1.1, 12, .inl f) := rfl
theorem cE_17 (g : cG) (f : Nat → Int32) : cE g 17 f = .inl (g.2.1.1, 48, .inl f) := rfl
theorem cE_18 (g : cG) (f : Nat → Int32) : cE g 18 f = .inl (g.2.1.1, 48, .inl f) := rfl
theorem cE_19 (g : cG) (f : Nat → Int32) : cE g 19 f = .inl (g.2.1.1, 972, .inl f) := rfl
theorem cE_20 (g : cG) (f : Nat → Int32) : cE g 20 f = .inr (6, [.int (f 0), .int (f 1), .int (f 2), .ref (gA g 21), .ref (gA g 22), .ref (gA g 23), .ref (gA g 24), .int (f 7)]) := rfl
theorem cE_21 (g : cG) (f : Nat → Int32) : cE g 21 f = .inl (g.2.1.1, 12, .inl f) := rfl
theorem cE_22 (g : cG) (f : Nat → Int32) : cE g 22 f = .inl (g.2.1.1, 48, .inl f) := rfl
theorem cE_23 (g : cG) (f : Nat → Int32) : cE g 23 f = .inl (g.2.1.1, 48, .inl f) := rfl
theorem cE_24 (g : cG) (f : Nat → Int32) : cE g 24 f = .inl (g.2.1.1, 972, .inl f) := rfl
theorem cE_25 (g : cG) (f : Nat → Int32) : cE g 25 f = .inr (0, [.ref (gA g 26), .ref (gA g 27), .ref (gA g 28), .ref (gA g 29), .int (f 4)]) := rfl
theorem cE_26 (g : cG) (f : Nat → Int32) : cE g 26 f = .inl (g.2.1.1, 60, .inl f) := rfl
theorem cE_27 (g : cG) (f : Nat → Int32) : cE g 27 f = .inl (g.2.1.1, 60, .inl f) := rfl
theorem cE_28 (g : cG) (f : Nat → Int32) : cE g 28 f = .inl (g.2.1.1, 60, .inl f) := rfl
theorem cE_29 (g : cG) (f : Nat → Int32) : cE g 29 f = .inl (g.2.1.1, 60, .inl f) := rfl
theorem cE_30 (g : cG) (f : Nat → Int32) : cE g 30 f = .inr (0, [.ref (gA g 31), .ref (gA g 32), .ref (gA g 33), .ref (gA g 34), .int (f 4)]) := rfl
theorem cE_31 (g : cG) (f : Nat → Int32) : cE g 31 f = .inl (g.2.1.1, 60, .inl f) := rfl
theorem cE_32 (g : cG) (f : Nat → Int32) : cE g 32 f = .inl (g.2.1.1, 60, .inl f) := rfl
theorem cE_33 (g : cG) (f : Nat → Int32) : cE g 33 f = .inl (g.2.1.1, 60, .inl f) := rfl
theorem cE_34 (g : cG) (f : Nat → Int32) : cE g 34 f = .inl (g.2.1.1, 60, .inl f) := rfl
theorem cE_35 (g : cG) (f : Nat → Int32) : cE g 35 f = .inr (0, [.ref (gA g 36), .ref (gA g 37), .ref (gA g 38), .ref (gA g 39), .int (f 4)]) := rfl
theorem cE_36 (g : cG) (f : Nat → Int32) : cE g 36 f = .inl (g.2.1.1, 60, .inl f) := rfl
theorem cE_37 (g : cG) (f : Nat → Int32) : cE g 37 f = .inl (g.2.1.1, 60, .inl f) := rfl
theorem cE_38 (g : cG) (f : Nat → Int32) : cE g 38 f = .inl (g.2.1.1, 60, .inl f) := rfl
theorem cE_39 (g : cG) (f : Nat → Int32) : cE g 39 f = .inl (g.2.1.1, 60, .inl f) := rfl
theorem cE_40 (g : cG) (f : Nat → Int32) : cE g 40 f = .inr (0, [.ref (gA g 41), .ref (gA g 42), .ref (gA g 43), .ref (gA g 44), .int (f 4)]) := rfl
theorem cE_41 (g : cG) (f : Nat → Int32) : cE g 41 f = .inl (g.2.1.1, 60, .inl f) := rfl
theorem cE_42 (g : cG) (f : Nat → Int32) : cE g 42 f = .inl (g.2.1.1, 60, .inl f) := rfl
theorem cE_43 (g : cG) (f : Nat → Int32) : cE g 43 f = .inl (g.2.1.1, 60, .inl f) := rfl
theorem cE_44 (g : cG) (f : Nat → Int32) : cE g 44 f = .inl (g.2.1.1, 60, .inl f) := rfl
theorem cE_45 (g : cG) (f : Nat → Int32) : cE g 45 f = .inr (0, [.ref (gA g 46), .ref (gA g 47), .ref (gA g 48), .ref (gA g 49), .int (f 4)]) := rfl
theorem cE_46 (g : cG) (f : Nat → Int32) : cE g 46 f = .inl (g.2.1.1, 60, .inl f) := rfl
theorem cE_47 (g : cG) (f : Nat → Int32) : cE g 47 f = .inl (g.2.1.1, 60, .inl f) := rfl
theorem cE_48 (g : cG) (f : Nat → Int32) : cE g 48 f = .inl (g.2.1.1, 60, .inl f) := rfl
theorem cE_49 (g : cG) (f : Nat → Int32) : cE g 49 f = .inl (g.2.1.1, 60, .inl f) := rfl
theorem cE_50 (g : cG) (f : Nat → Int32) : cE g 50 f = .inr (0, [.ref (gA g 51), .ref (gA g 52), .ref (gA g 53), .ref (gA g 54), .int (f 4)]) := rfl
theorem cE_51 (g : cG) (f : Nat → Int32) : cE g 51 f = .inl (g.2.1.1, 60, .inl f) := rfl
theorem cE_52 (g : cG) (f : Nat → Int32) : cE g 52 f = .inl (g.2.1.1, 60, .inl f) := rfl
theorem cE_53 (g : cG) (f : Nat → Int32) : cE g 53 f = .inl (g.2.1.1, 60, .inl f) := rfl
theorem cE_54 (g : cG) (f : Nat → Int32) : cE g 54 f = .inl (g.2.1.1, 60, .inl f) := rfl
theorem cE_55 (g : cG) (f : Nat → Int32) : cE g 55 f = .inr (0, [.ref (gA g 56), .ref (gA g 57), .ref (gA g 58), .ref (gA g 59), .int (f 4)]) := rfl
theorem cE_56 (g : cG) (f : Nat → Int32) : cE g 56 f = .inl (g.2.1.1, 60, .inl f) := rfl
theorem cE_57 (g : cG) (f : Nat → Int32) : cE g 57 f = .inl (g.2.1.1, 60, .inl f) := rfl
theorem cE_58 (g : cG) (f : Nat → Int32) : cE g 58 f = .inl (g.2.1.1, 60, .inl f) := rfl
theorem cE_59 (g : cG) (f : Nat → Int32) : cE g 59 f = .inl (g.2.1.1, 60, .inl f) := rfl
theorem cE_60 (g : cG) (f : Nat → Int32) : cE g 60 f = .inr (0, [.ref (gA g 61), .ref (gA g 62), .ref (gA g 63), .ref (gA g 64), .int (f 4)]) := rfl
theorem cE_61 (g : cG) (f : Nat → Int32) : cE g 61 f = .inl (g.2.1.1, 60, .inl f) := rfl
theorem cE_62 (g : cG) (f : Nat → Int32) : cE g 62 f = .inl (g.2.1.1, 60, .inl f) := rfl
theorem cE_63 (g : cG) (f : Nat → Int32) : cE g 63 f = .inl (g.2.1.1, 60, .inl f) := rfl
theorem cE_64 (g : cG) (f : Nat → Int32) : cE g 64 f = .inl (g.2.1.1, 60, .inl f) := rfl
theorem cE_65 (g : cG) (f : Nat → Int32) : cE g 65 f = .inr (8, [.ref (gA g 0), .ref (gA g 67), .ref (gA g 69), .ref (gA g 73), .ref (gA g 78), .ref (gA g 81), .ref (gA g 82), .ref (gA g 66), .int (f 8)]) := rfl
theorem cE_66 (g : cG) (f : Nat → Int32) : cE g 66 f = .inl (g.2.1.2.1, 8, .inr (.inr (.inr (.inr (fun i => if i < 8 then some (gA g (25 + 5 * i)) else none))))) := rfl
theorem cE_67 (g : cG) (f : Nat → Int32) : cE g 67 f = .inr (1, [.ref (gA g 68), .int (f 1), .int (f 2)]) := rfl
theorem cE_68 (g : cG) (f : Nat → Int32) : cE g 68 f = .inl (g.2.1.2.2, 4, .inr (.inr (.inr (.inr (fun i => if i < 4 then some (gA g (5 + 5 * i)) else none))))) := rfl
theorem cE_69 (g : cG) (f : Nat → Int32) : cE g 69 f = .inr (5, [.ref (gA g 0), .ref (gA g 70), .ref (gA g 71), .ref (gA g 72)]) := rfl
theorem cE_70 (g : cG) (f : Nat → Int32) : cE g 70 f = .inl (g.2.1.1, 1296, .inl f) := rfl
theorem cE_71 (g : cG) (f : Nat → Int32) : cE g 71 f = .inl (g.2.1.1, 12, .inl f) := rfl
theorem cE_72 (g : cG) (f : Nat → Int32) : cE g 72 f = .inl (g.2.1.1, 81, .inl f) := rfl
theorem cE_73 (g : cG) (f : Nat → Int32) : cE g 73 f = .inr (4, [.int (f 0), .ref (gA g 74), .ref (gA g 75), .ref (gA g 76), .ref (gA g 77), .int (f 5), .int (f 6), .int (f 7), .int (f 8), .int (f 9), .int (f 10), rfF g (f 11)]) := rfl
theorem cE_74 (g : cG) (f : Nat → Int32) : cE g 74 f = .inl (g.2.1.1, 60, .inl f) := rfl
theorem cE_75 (g : cG) (f : Nat → Int32) : cE g 75 f = .inl (g.2.1.1, 60, .inl f) := rfl
theorem cE_76 (g : cG) (f : Nat → Int32) : cE g 76 f = .inl (g.2.1.1, 60, .inl f) := rfl
theorem cE_77 (g : cG) (f : Nat → Int32) : cE g 77 f = .inl (g.2.1.1, 60, .inl f) := rfl
theorem cE_78 (g : cG) (f : Nat → Int32) : cE g 78 f = .inr (3, [.ref (gA g 0), .ref (gA g 69), .ref (gA g 79), .ref (gA g 80)]) := rfl
theorem cE_79 (g : cG) (f : Nat → Int32) : cE g 79 f = .inl (g.2.1.1, 60, .inl f) := rfl
theorem cE_80 (g : cG) (f : Nat → Int32) : cE g 80 f = .inl (g.2.1.1, 12, .inl f) := rfl
theorem cE_81 (g : cG) (f : Nat → Int32) : cE g 81 f = .inr (7, [.ref (gA g 0), .ref (gA g 69), .ref (gA g 78), .int (f 3)]) := rfl
theorem cE_82 (g : cG) (f : Nat → Int32) : cE g 82 f = .inr (2, [.ref (gA g 0), .ref (gA g 69), .ref (gA g 83), .ref (gA g 84), .ref (gA g 85), .ref (gA g 86)]) := rfl
theorem cE_83 (g : cG) (f : Nat → Int32) : cE g 83 f = .inl (g.2.1.1, 12, .inl f) := rfl
theorem cE_84 (g : cG) (f : Nat → Int32) : cE g 84 f = .inl (g.2.1.1, 12, .inl f) := rfl
theorem cE_85 (g : cG) (f : Nat → Int32) : cE g 85 f = .inl (g.2.1.1, 81, .inl f) := rfl
theorem cE_86 (g : cG) (f : Nat → Int32) : cE g 86 f = .inl (g.2.1.1, 81, .inl f) := rfl
theorem isS_cases {t : Nat} (h : isS t = true) : t = 0 ∨ t = 5 ∨ t = 10 ∨ t = 15 ∨ t = 20 := by
  simp only [isS, Bool.or_eq_true, beq_iff_eq] at h
  omega
theorem isF_cases {t : Nat} (h : isF t = true) : t = 25 ∨ t = 30 ∨ t = 35 ∨ t = 40 ∨ t = 45 ∨ t = 50 ∨ t = 55 ∨ t = 60 := by
  simp only [isF, Bool.or_eq_true, beq_iff_eq] at h
  omega
theorem isS_lt {t : Nat} (h : isS t = true) : t < 87 := by
  have := isS_cases h
  omega
theorem isF_lt {t : Nat} (h : isF t = true) : t < 87 := by
  have := isF_cases h
  omega
theorem cE_S {t : Nat} (h : isS t = true) (g : cG) (f : Nat → Int32) : cE g t f = .inr (6, [.int (f 0), .int (f 1), .int (f 2), .ref (gA g (t + 1)), .ref (gA g (t + 2)), .ref (gA g (t + 3)), .ref (gA g (t + 4)), .int (f 7)]) := by
  rcases isS_cases h with rfl | rfl | rfl | rfl | rfl <;> rfl
theorem cE_F {t : Nat} (h : isF t = true) (g : cG) (f : Nat → Int32) : cE g t f = .inr (0, [.ref (gA g (t + 1)), .ref (gA g (t + 2)), .ref (gA g (t + 3)), .ref (gA g (t + 4)), .int (f 4)]) := by
  rcases isF_cases h with rfl | rfl | rfl | rfl | rfl | rfl | rfl | rfl <;> rfl
/-- cell k is a row of n ints -/
def isA (k n : Nat) : Prop := k < 87 ∧ n < 2 ^ 31 ∧ ∀ (g : cG) (f : Nat → Int32), cE g k f = .inl (g.2.1.1, n, .inl f)
theorem a_S1 {t : Nat} (h : isS t = true) : isA (t + 1) 12 := by
  rcases isS_cases h with rfl | rfl | rfl | rfl | rfl <;> exact ⟨by decide, by decide, fun _ _ => rfl⟩
theorem a_S2 {t : Nat} (h : isS t = true) : isA (t + 2) 48 := by
  rcases isS_cases h with rfl | rfl | rfl | rfl | rfl <;> exact ⟨by decide, by decide, fun _ _ => rfl⟩
theorem a_S3 {t : Nat} (h : isS t = true) : isA (t + 3) 48 := by
  rcases isS_cases h with rfl | rfl | rfl | rfl | rfl <;> exact ⟨by decide, by decide, fun _ _ => rfl⟩
theorem a_S4 {t : Nat} (h : isS t = true) : isA (t + 4) 972 := by
  rcases isS_cases h with rfl | rfl | rfl | rfl | rfl <;> exact ⟨by decide, by decide, fun _ _ => rfl⟩
theorem a_F1 {t : Nat} (h : isF t = true) : isA (t + 1) 60 := by
  rcases isF_cases h with rfl | rfl | rfl | rfl | rfl | rfl | rfl | rfl <;> exact ⟨by decide, by decide, fun _ _ => rfl⟩
theorem a_F2 {t : Nat} (h : isF t = true) : isA (t + 2) 60 := by
  rcases isF_cases h with rfl | rfl | rfl | rfl | rfl | rfl | rfl | rfl <;> exact ⟨by decide, by decide, fun _ _ => rfl⟩
theorem a_F3 {t : Nat} (h : isF t = true) : isA (t + 3) 60 := by
  rcases isF_cases h with rfl | rfl | rfl | rfl | rfl | rfl | rfl | rfl <;> exact ⟨by decide, by decide, fun _ _ => rfl⟩
theorem a_F4 {t : Nat} (h : isF t = true) : isA (t + 4) 60 := by
  rcases isF_cases h with rfl | rfl | rfl | rfl | rfl | rfl | rfl | rfl <;> exact ⟨by decide, by decide, fun _ _ => rfl⟩
/-! THE WORLD: all cells -/
def wl (g : cG) (σ : St) : va_W := (List.range 87).map (fun k => (gA g k, cE g k (σ k)))
theorem wl_get (g : cG) (σ : St) {k : Nat} (hk : k < 87) : (wl g σ)[k]? = some (gA g k, cE g k (σ k)) := by
  simp [wl, hk]
theorem wl_some {g : cG} {σ : St} {k : Nat} {q : Nat × va_E} (h : (wl g σ)[k]? = some q) : k < 87 ∧ q = (gA g k, cE g k (σ k)) := by
  by_cases hk : k < 87
  · rw [wl_get g σ hk] at h
    exact ⟨hk, (Option.some.inj h).symm⟩
  · have : (wl g σ)[k]? = none := by
      apply List.getElem?_eq_none
      simp [wl]
      omega
    rw [this] at h
    cases h
theorem wl_len (g : cG) (σ : St) : (wl g σ).length = 87 := by simp [wl]
theorem wl_set (g : cG) (σ : St) {k : Nat} (f : Nat → Int32) {e : va_E} (he : e = cE g k f) : (wl g σ).set k (gA g k, e) = wl g (va_up σ k f) := by
  subst he
  apply List.ext_getElem?
  intro j
  by_cases hj : j < 87
  · rw [wl_get g _ hj, List.getElem?_set, wl_len]
    by_cases hkj : k = j
    · subst hkj
      simp [hj, va_up]
    · rw [if_neg hkj, wl_get g σ hj, va_up_ne _ _ (Ne.symm hkj)]
  · have h1 : ((wl g σ).set k (gA g k, cE g k f))[j]? = none := by
      apply List.getElem?_eq_none
      rw [List.length_set, wl_len]
      omega
    have h2 : (wl g (va_up σ k f))[j]? = none := by
      apply List.getElem?_eq_none
      rw [wl_len]
      omega
    rw [h1, h2]
def gInj (g : cG) : Prop := ∀ i j : Nat, i < 87 → j < 87 → gA g i = gA g j → i = j
def cA (g : cG) : Nat → Prop := fun q => ∃ k : Nat, k < 87 ∧ q = gA g k
theorem wl_D {g : cG} (hi : gInj g) (σ : St) : va_D (cA g) (wl g σ) := by
  refine ⟨fun i j p q hp hq he => ?_, fun k q hq => ?_⟩
  · obtain ⟨h1, rfl⟩ := wl_some hp
    obtain ⟨h2, rfl⟩ := wl_some hq
    exact hi i j h1 h2 he
  · obtain ⟨h1, rfl⟩ := wl_some hq
    exact ⟨k, h1, rfl⟩
def wW (g : cG) (σ : St) (H : Heap) : Prop := va_P g.1 vwCl (wl g σ) H
def gTys (g : cG) : List (ClassId × FieldType) := [(g.2.1.1, .int), (g.2.1.2.1, .object "CoalitionChecker$Formula"), (g.2.1.2.2, .object "CoalitionChecker$Structure")]
def XPre (g : cG) (σ : St) (U : State) : Prop := wW g σ U.heap ∧ va_K g.1 vwCl (gTys g) U
def XQ (g : cG) (rv : Option Value) (σ : St) : Array Value → State → Outcome → State → Prop := fun _ st oc t => oc = .returned rv ∧ wW g σ t.heap ∧ va_F (cA g) st t
def XQp (rv : Option Value) : Array Value → State → Outcome → State → Prop := fun _ st oc t => oc = .returned rv ∧ t.heap = st.heap
/-! THE PLACE: program, launch, environment, room, start, method, arguments, frames below, method record, code; cells and slots made; words of locals; what may change -/
abbrev XC : Type := Program × Launch × Env × Room × State × MethodId × Array Value × List Frame × Method × Code × Nat × Nat × Nat × (Nat → Prop)
def Xs (C : XC) (Wd : St → Heap → Prop) (Q : State → Prop) (σ : St) (pc : Nat) (lv : List (Nat × Value)) (st : List Value) : Prop :=
  ∀ (H : Heap) (locs : List Loc) (ls : Array Slot), Wd σ H → va_S C.2.2.2.2.2.2.2.2.2.2.2.2.2 C.2.2.2.2.1.heap H locs → lv_has ls C.2.2.2.2.2.2.2.2.2.2.2.2.1 lv →
    W C.1 C.2.1 C.2.2.1 C.2.2.2.1 C.2.2.2.2.1 C.2.2.2.2.2.1 C.2.2.2.2.2.2.1 C.2.2.2.2.2.2.2.1 C.2.2.2.2.2.2.2.2.1 C.2.2.2.2.2.2.2.2.2.1 H locs C.2.2.2.2.2.2.2.2.2.2.1 C.2.2.2.2.2.2.2.2.2.2.2.1 Q (F0 C.2.2.2.2.2.1 pc ls st)
def XOk (C : XC) (cc : ByteArray) (own : String) (Ts : List Cond) (R0 : Room) : Prop :=
  C.1.tables.exec = Jvm.exec ∧ C.2.2.2.2.2.2.2.2.2.1.code = cc ∧ C.2.2.2.2.2.2.2.2.2.1.maxLocals = C.2.2.2.2.2.2.2.2.2.2.2.2.1 ∧ C.2.2.2.2.1.vm.findClass own = some C.2.2.2.2.2.1.cls ∧ (∀ w ∈ Ts, w.before C.2.2.2.2.2.2.1 C.2.2.2.2.1 = true) ∧ C.2.2.2.1 = R0 ∧ C.2.2.2.2.2.2.2.2.2.2.1 ≤ R0.cells ∧ C.2.2.2.2.2.2.2.2.2.2.2.1 ≤ R0.slots
def XG (C : XC) (g : cG) : Prop := va_K g.1 vwCl (gTys g) C.2.2.2.2.1 ∧ gInj g ∧ C.2.2.2.2.2.2.2.2.2.2.2.2.2 = cA g
/-- the end of a method -/
def XEnd (C : XC) (ret : Option FieldType) (Q : State → Prop) (Qc : Array Value → State → Outcome → State → Prop) (free : Nat → Prop) : Prop :=
  C.2.2.2.2.2.2.2.2.1.sig.returnType = ret ∧ C.2.2.2.2.2.2.2.2.1.locks = false ∧ Q = MQ C.2.2.2.2.2.2.2.1 Qc C.2.2.2.2.2.2.1 C.2.2.2.2.1 C.2.2.2.2.2.2.2.2.2.2.1 C.2.2.2.2.2.2.2.2.2.2.2.1 free ∧ C.2.2.2.2.2.2.2.2.2.2.2.2.2 = free
/-! loops -/
def loopF {S O : Type} (step : (S → Option O) → S → Option O) : Nat → S → Option O
  | 0, _ => none
  | n + 1, z => step (loopF step n) z
theorem loopF_ind {S O : Type} {step : (S → Option O) → S → Option O} {o : O} {P : S → Prop} (hs : ∀ k : S → Option O, (∀ z, k z = some o → P z) → ∀ z, step k z = some o → P z) : ∀ (n : Nat) (z : S), loopF step n z = some o → P z
  | 0, _, h => by cases h
  | n + 1, z, h => hs (loopF step n) (loopF_ind hs n) z h
def cFu : Nat := 100000
def oF {α : Type} (o : Option Nat) (a : Option α) (f : Nat → Option α) : Option α := match o with
  | none => a
  | some t => if isF t then f t else none
def oS {α : Type} (o : Option Nat) (a : Option α) (f : Nat → Option α) : Option α := match o with
  | none => a
  | some t => if isS t then f t else none
def chk {α : Type} (i : Int32) (n : Nat) (a : Option α) : Option α := if i < 0 ∨ n ≤ i.toNatClampNeg then none else a
theorem chk_inv {α : Type} {i : Int32} {n : Nat} {a : Option α} {o : α} (h : chk i n a = some o) : vp_in i n ∧ a = some o := by
  unfold chk at h
  split at h
  · cases h
  · exact ⟨by assumption, h⟩
theorem oF_inv {α : Type} {o : Option Nat} {a : Option α} {f : Nat → Option α} {r : α} (h : oF o a f = some r) : (o = none ∧ a = some r) ∨ ∃ t, o = some t ∧ isF t = true ∧ f t = some r := by
  cases o with
  | none => exact Or.inl ⟨rfl, h⟩
  | some t =>
    refine Or.inr ⟨t, rfl, ?_⟩
    have h : (if isF t then f t else none) = some r := h
    split at h
    · exact ⟨by assumption, h⟩
    · cases h
theorem oS_inv {α : Type} {o : Option Nat} {a : Option α} {f : Nat → Option α} {r : α} (h : oS o a f = some r) : (o = none ∧ a = some r) ∨ ∃ t, o = some t ∧ isS t = true ∧ f t = some r := by
  cases o with
  | none => exact Or.inl ⟨rfl, h⟩
  | some t =>
    refine Or.inr ⟨t, rfl, ?_⟩
    have h : (if isS t then f t else none) = some r := h
    split at h
    · exact ⟨by assumption, h⟩
    · cases h
/-- a boolean answer out of an int -/
def rtB {α : Type} (v : Int32) (f : Bool → Option α) : Option α := if v = 0 then f false else if v = 1 then f true else none
theorem rtB_inv {α : Type} {v : Int32} {f : Bool → Option α} {r : α} (h : rtB v f = some r) : ∃ b, v = bI b ∧ f b = some r := by
  unfold rtB at h
  split at h
  · exact ⟨false, by assumption, h⟩
  · split at h
    · exact ⟨true, by assumption, h⟩
    · cases h
/-- a divisor -/
def dvz {α : Type} (y : Int32) (a : Option α) : Option α := if y = 0 then none else a
theorem dvz_inv {α : Type} {y : Int32} {a : Option α} {r : α} (h : dvz y a = some r) : ¬ y = 0 ∧ a = some r := by
  unfold dvz at h
  split at h
  · cases h
  · exact ⟨by assumption, h⟩
theorem bnd_inv {α β : Type} {x : Option α} {f : α → Option β} {r : β} (h : x.bind f = some r) : ∃ u, x = some u ∧ f u = some r := by
  cases x with
  | none => cases h
  | some u => exact ⟨u, rfl, h⟩
theorem rfV_cat (g : cG) (o : Option Nat) : (rfV g o).category = 1 := by cases o <;> rfl
theorem bI_z (b : Bool) : narrow .boolean (.int (bI b)) = .int (bI b) := by cases b <;> rfl
section XR
variable {C : XC} {cc : ByteArray} {own : String} {Ts : List Cond} {R0 : Room} {g : cG} {Wd : St → Heap → Prop} {Q : State → Prop} {σ : St} {lv lv' : List (Nat × Value)} {rest : List Value} {pc q : Nat} {x y : Int32}
theorem x_iconst {n : Int} {v : Int32} (h : XOk C cc own Ts R0) (hdg : decode cc pc = .ok (.iconst n, 1)) (hv : Int32.ofInt n = v) (hq : pc + 1 = q) (k : Xs C Wd Q σ q lv (.int v :: rest)) : Xs C Wd Q σ pc lv rest := by
  subst hq; exact fun H locs ls hW hS hl => lv_iconst h.1 h.2.1 hdg hv (k H locs ls hW hS hl)
theorem x_bipush {n : Int} {v : Int32} (h : XOk C cc own Ts R0) (hdg : decode cc pc = .ok (.bipush n, 2)) (hv : (Int8.ofInt n).toInt32 = v) (hq : pc + 2 = q) (k : Xs C Wd Q σ q lv (.int v :: rest)) : Xs C Wd Q σ pc lv rest := by
  subst hq; exact fun H locs ls hW hS hl => lv_bipush h.1 h.2.1 hdg hv (k H locs ls hW hS hl)
theorem x_sipush {n : Int} {v : Int32} (h : XOk C cc own Ts R0) (hdg : decode cc pc = .ok (.sipush n, 3)) (hv : (Int16.ofInt n).toInt32 = v) (hq : pc + 3 = q) (k : Xs C Wd Q σ q lv (.int v :: rest)) : Xs C Wd Q σ pc lv rest := by
  subst hq; exact fun H locs ls hW hS hl => lv_sipush h.1 h.2.1 hdg hv (k H locs ls hW hS hl)
theorem x_ldc {index : Nat} {v : Int32} (h : XOk C cc own Ts R0) (hc : Jvm.Cond.constant own index v ∈ Ts) (hdg : decode cc pc = .ok (.ldc index, 2)) (hq : pc + 2 = q) (k : Xs C Wd Q σ q lv (.int v :: rest)) : Xs C Wd Q σ pc lv rest := by
  subst hq; exact fun H locs ls hW hS hl => lv_ldc h.1 h.2.1 h.2.2.2.1 (h.2.2.2.2.1 _ hc) hdg (k H locs ls hW hS hl)
theorem x_ldcw {index : Nat} {v : Int32} (h : XOk C cc own Ts R0) (hc : Jvm.Cond.constant own index v ∈ Ts) (hdg : decode cc pc = .ok (.ldc_w index, 3)) (hq : pc + 3 = q) (k : Xs C Wd Q σ q lv (.int v :: rest)) : Xs C Wd Q σ pc lv rest := by
  subst hq; exact fun H locs ls hW hS hl => lv_ldcw h.1 h.2.1 h.2.2.2.1 (h.2.2.2.2.1 _ hc) hdg (k H locs ls hW hS hl)
theorem x_ldc2 {index : Nat} {v : Int64} (h : XOk C cc own Ts R0) (hc : Jvm.Cond.constantLong own index v ∈ Ts) (hdg : decode cc pc = .ok (.ldc2_w index, 3)) (hq : pc + 3 = q) (k : Xs C Wd Q σ q lv (.long v :: rest)) : Xs C Wd Q σ pc lv rest := by
  subst hq; exact fun H locs ls hW hS hl => lv_ldc2 h.1 h.2.1 h.2.2.2.1 (h.2.2.2.2.1 _ hc) hdg (k H locs ls hW hS hl)
theorem x_iload_n {kk : Fin 4} {i : Nat} (h : XOk C cc own Ts R0) (hdg : decode cc pc = .ok (.iload_n kk, 1)) (hi : (kk : Nat) = i) (j : Nat) (hj : lv[j]? = some (i, .int x)) (hq : pc + 1 = q) (k : Xs C Wd Q σ q lv (.int x :: rest)) : Xs C Wd Q σ pc lv rest := by
  subst hq; exact fun H locs ls hW hS hl => lv_iload_n h.1 h.2.1 hdg hi (lv_at hl j hj) (k H locs ls hW hS hl)
theorem x_iload {i : Nat} (h : XOk C cc own Ts R0) (hdg : decode cc pc = .ok (.iload i, 2)) (j : Nat) (hj : lv[j]? = some (i, .int x)) (hq : pc + 2 = q) (k : Xs C Wd Q σ q lv (.int x :: rest)) : Xs C Wd Q σ pc lv rest := by
  subst hq; exact fun H locs ls hW hS hl => lv_iload h.1 h.2.1 hdg (lv_at hl j hj) (k H locs ls hW hS hl)
theorem x_lload_n {kk : Fin 4} {i : Nat} {z : Int64} (h : XOk C cc own Ts R0) (hdg : decode cc pc = .ok (.lload_n kk, 1)) (hi : (kk : Nat) = i) (j : Nat) (hj : lv[j]? = some (i, .long z)) (hq : pc + 1 = q) (k : Xs C Wd Q σ q lv (.long z :: rest)) : Xs C Wd Q σ pc lv rest := by
  subst hq; exact fun H locs ls hW hS hl => lv_lload_n h.1 h.2.1 hdg hi (lv_at hl j hj) (k H locs ls hW hS hl)
theorem x_aload_n {kk : Fin 4} {i a : Nat} (h : XOk C cc own Ts R0) (hdg : decode cc pc = .ok (.aload_n kk, 1)) (hi : (kk : Nat) = i) (j : Nat) (hj : lv[j]? = some (i, .ref a)) (hq : pc + 1 = q) (k : Xs C Wd Q σ q lv (.ref a :: rest)) : Xs C Wd Q σ pc lv rest := by
  subst hq; exact fun H locs ls hW hS hl => lv_aload_n h.1 h.2.1 hdg hi (lv_at hl j hj) (k H locs ls hW hS hl)
theorem x_aload {i a : Nat} (h : XOk C cc own Ts R0) (hdg : decode cc pc = .ok (.aload i, 2)) (j : Nat) (hj : lv[j]? = some (i, .ref a)) (hq : pc + 2 = q) (k : Xs C Wd Q σ q lv (.ref a :: rest)) : Xs C Wd Q σ pc lv rest := by
  subst hq; exact fun H locs ls hW hS hl => lv_aload h.1 h.2.1 hdg (lv_at hl j hj) (k H locs ls hW hS hl)
theorem x_aload_nq {kk : Fin 4} {i : Nat} {o : Option Nat} (h : XOk C cc own Ts R0) (hdg : decode cc pc = .ok (.aload_n kk, 1)) (hi : (kk : Nat) = i) (j : Nat) (hj : lv[j]? = some (i, rfV g o)) (hq : pc + 1 = q) (k : Xs C Wd Q σ q lv (rfV g o :: rest)) : Xs C Wd Q σ pc lv rest := by
  subst hq
  intro H locs ls hW hS hl
  have k := k H locs ls hW hS hl
  have hj := lv_at hl j hj
  cases o with
  | none => exact lv_aload_nN h.1 h.2.1 hdg hi hj k
  | some t => exact lv_aload_n h.1 h.2.1 hdg hi hj k
theorem x_istore_n {kk : Fin 4} {i : Nat} (h : XOk C cc own Ts R0) (hdg : decode cc pc = .ok (.istore_n kk, 1)) (hi : (kk : Nat) = i) {nL : Nat} (hL : C.2.2.2.2.2.2.2.2.2.2.2.2.1 = nL) (hn : i < nL) (hl : (i, Value.int x) :: lv.filter (fun q => !(q.1 == i) && !(q.1 + 1 == i && q.2.category == 2)) = lv') (hq : pc + 1 = q) (k : Xs C Wd Q σ q lv' rest) : Xs C Wd Q σ pc lv (.int x :: rest) := by
  subst hq; subst hL; exact fun H locs ls hW hS hl' => lv_istore_n h.1 h.2.1 hdg hi hl' hn hl (fun ls' h' => k H locs ls' hW hS h')
theorem x_istore {i : Nat} (h : XOk C cc own Ts R0) (hdg : decode cc pc = .ok (.istore i, 2)) {nL : Nat} (hL : C.2.2.2.2.2.2.2.2.2.2.2.2.1 = nL) (hn : i < nL) (hl : (i, Value.int x) :: lv.filter (fun q => !(q.1 == i) && !(q.1 + 1 == i && q.2.category == 2)) = lv') (hq : pc + 2 = q) (k : Xs C Wd Q σ q lv' rest) : Xs C Wd Q σ pc lv (.int x :: rest) := by
  subst hq; subst hL; exact fun H locs ls hW hS hl' => lv_istore h.1 h.2.1 hdg hl' hn hl (fun ls' h' => k H locs ls' hW hS h')
theorem x_lstore_n {kk : Fin 4} {i : Nat} {z : Int64} (h : XOk C cc own Ts R0) (hdg : decode cc pc = .ok (.lstore_n kk, 1)) (hi : (kk : Nat) = i) {nL : Nat} (hL : C.2.2.2.2.2.2.2.2.2.2.2.2.1 = nL) (hn : i + 1 < nL) (hl : (i, Value.long z) :: lv.filter (fun q => !(q.1 == i) && (!(q.1 == i + 1) && !(q.1 + 1 == i && q.2.category == 2))) = lv') (hq : pc + 1 = q) (k : Xs C Wd Q σ q lv' rest) : Xs C Wd Q σ pc lv (.long z :: rest) := by
  subst hq; subst hL; exact fun H locs ls hW hS hl' => lv_lstore_n h.1 h.2.1 hdg hi hl' hn hl (fun ls' h' => k H locs ls' hW hS h')
theorem x_astore_n {kk : Fin 4} {i a : Nat} (h : XOk C cc own Ts R0) (hdg : decode cc pc = .ok (.astore_n kk, 1)) (hi : (kk : Nat) = i) {nL : Nat} (hL : C.2.2.2.2.2.2.2.2.2.2.2.2.1 = nL) (hn : i < nL) (hl : (i, Value.ref a) :: lv.filter (fun q => !(q.1 == i) && !(q.1 + 1 == i && q.2.category == 2)) = lv') (hq : pc + 1 = q) (k : Xs C Wd Q σ q lv' rest) : Xs C Wd Q σ pc lv (.ref a :: rest) := by
  subst hq; subst hL; exact fun H locs ls hW hS hl' => lv_astore_n h.1 h.2.1 hdg hi hl' hn hl (fun ls' h' => k H locs ls' hW hS h')
theorem x_astore_nq {kk : Fin 4} {i : Nat} {o : Option Nat} (h : XOk C cc own Ts R0) (hdg : decode cc pc = .ok (.astore_n kk, 1)) (hi : (kk : Nat) = i) {nL : Nat} (hL : C.2.2.2.2.2.2.2.2.2.2.2.2.1 = nL) (hn : i < nL) (hl : (i, rfV g o) :: lv.filter (fun q => !(q.1 == i) && !(q.1 + 1 == i && q.2.category == 2)) = lv') (hq : pc + 1 = q) (k : Xs C Wd Q σ q lv' rest) : Xs C Wd Q σ pc lv (rfV g o :: rest) := by
  subst hq; subst hL
  cases o with
  | none => exact fun H locs ls hW hS hl' => lv_astore_nN h.1 h.2.1 hdg hi hl' hn hl (fun ls' h' => k H locs ls' hW hS h')
  | some t => exact fun H locs ls hW hS hl' => lv_astore_n h.1 h.2.1 hdg hi hl' hn hl (fun ls' h' => k H locs ls' hW hS h')
theorem x_astoreq {i : Nat} {o : Option Nat} (h : XOk C cc own Ts R0) (hdg : decode cc pc = .ok (.astore i, 2)) {nL : Nat} (hL : C.2.2.2.2.2.2.2.2.2.2.2.2.1 = nL) (hn : i < nL) (hl : (i, rfV g o) :: lv.filter (fun q => !(q.1 == i) && !(q.1 + 1 == i && q.2.category == 2)) = lv') (hq : pc + 2 = q) (k : Xs C Wd Q σ q lv' rest) : Xs C Wd Q σ pc lv (rfV g o :: rest) := by
  subst hq; subst hL
  cases o with
  | none => exact fun H locs ls hW hS hl' => lv_astoreN h.1 h.2.1 hdg hl' hn hl (fun ls' h' => k H locs ls' hW hS h')
  | some t => exact fun H locs ls hW hS hl' => lv_astore h.1 h.2.1 hdg hl' hn hl (fun ls' h' => k H locs ls' hW hS h')
theorem x_aloadq {i : Nat} {o : Option Nat} (h : XOk C cc own Ts R0) (hdg : decode cc pc = .ok (.aload i, 2)) (j : Nat) (hj : lv[j]? = some (i, rfV g o)) (hq : pc + 2 = q) (k : Xs C Wd Q σ q lv (rfV g o :: rest)) : Xs C Wd Q σ pc lv rest := by
  subst hq
  intro H locs ls hW hS hl
  have k := k H locs ls hW hS hl
  have hj := lv_at hl j hj
  cases o with
  | none => exact lv_aloadN h.1 h.2.1 hdg hj k
  | some t => exact lv_aload h.1 h.2.1 hdg hj k
theorem x_iinc {i j : Nat} {n : Int} {v : Int32} (h : XOk C cc own Ts R0) (hdg : decode cc pc = .ok (.iinc i n, 3)) (hj : lv[j]? = some (i, .int x)) (hv : x + Int32.ofInt n = v) {nL : Nat} (hL : C.2.2.2.2.2.2.2.2.2.2.2.2.1 = nL) (hn : i < nL) (hl : (i, Value.int v) :: lv.filter (fun q => !(q.1 == i) && !(q.1 + 1 == i && q.2.category == 2)) = lv') (hq : pc + 3 = q) (k : Xs C Wd Q σ q lv' rest) : Xs C Wd Q σ pc lv rest := by
  subst hq; subst hL; exact fun H locs ls hW hS hl' => lv_iinc h.1 h.2.1 hdg hl' hj hv hn hl (fun ls' h' => k H locs ls' hW hS h')
theorem x_iadd (h : XOk C cc own Ts R0) (hdg : decode cc pc = .ok (.iadd, 1)) (hq : pc + 1 = q) (k : Xs C Wd Q σ q lv (.int (x + y) :: rest)) : Xs C Wd Q σ pc lv (.int y :: .int x :: rest) := by
  subst hq; exact fun H locs ls hW hS hl => lv_iadd h.1 h.2.1 hdg (k H locs ls hW hS hl)
theorem x_isub (h : XOk C cc own Ts R0) (hdg : decode cc pc = .ok (.isub, 1)) (hq : pc + 1 = q) (k : Xs C Wd Q σ q lv (.int (x - y) :: rest)) : Xs C Wd Q σ pc lv (.int y :: .int x :: rest) := by
  subst hq; exact fun H locs ls hW hS hl => lv_isub h.1 h.2.1 hdg (k H locs ls hW hS hl)
theorem x_imul (h : XOk C cc own Ts R0) (hdg : decode cc pc = .ok (.imul, 1)) (hq : pc + 1 = q) (k : Xs C Wd Q σ q lv (.int (x * y) :: rest)) : Xs C Wd Q σ pc lv (.int y :: .int x :: rest) := by
  subst hq; exact fun H locs ls hW hS hl => lv_imul h.1 h.2.1 hdg (k H locs ls hW hS hl)
theorem x_iand (h : XOk C cc own Ts R0) (hdg : decode cc pc = .ok (.iand, 1)) (hq : pc + 1 = q) (k : Xs C Wd Q σ q lv (.int (x &&& y) :: rest)) : Xs C Wd Q σ pc lv (.int y :: .int x :: rest) := by
  subst hq; exact fun H locs ls hW hS hl => lv_iand h.1 h.2.1 hdg (k H locs ls hW hS hl)
theorem x_ior (h : XOk C cc own Ts R0) (hdg : decode cc pc = .ok (.ior, 1)) (hq : pc + 1 = q) (k : Xs C Wd Q σ q lv (.int (x ||| y) :: rest)) : Xs C Wd Q σ pc lv (.int y :: .int x :: rest) := by
  subst hq; exact fun H locs ls hW hS hl => lv_ior h.1 h.2.1 hdg (k H locs ls hW hS hl)
theorem x_ixor (h : XOk C cc own Ts R0) (hdg : decode cc pc = .ok (.ixor, 1)) (hq : pc + 1 = q) (k : Xs C Wd Q σ q lv (.int (x ^^^ y) :: rest)) : Xs C Wd Q σ pc lv (.int y :: .int x :: rest) := by
  subst hq; exact fun H locs ls hW hS hl => lv_ixor h.1 h.2.1 hdg (k H locs ls hW hS hl)
theorem x_ishl (h : XOk C cc own Ts R0) (hdg : decode cc pc = .ok (.ishl, 1)) (hq : pc + 1 = q) (k : Xs C Wd Q σ q lv (.int (x <<< (y &&& 31)) :: rest)) : Xs C Wd Q σ pc lv (.int y :: .int x :: rest) := by
  subst hq; exact fun H locs ls hW hS hl => lv_ishl h.1 h.2.1 hdg (k H locs ls hW hS hl)
theorem x_ishr (h : XOk C cc own Ts R0) (hdg : decode cc pc = .ok (.ishr, 1)) (hq : pc + 1 = q) (k : Xs C Wd Q σ q lv (.int (x >>> (y &&& 31)) :: rest)) : Xs C Wd Q σ pc lv (.int y :: .int x :: rest) := by
  subst hq; exact fun H locs ls hW hS hl => lv_ishr h.1 h.2.1 hdg (k H locs ls hW hS hl)
theorem x_iushr (h : XOk C cc own Ts R0) (hdg : decode cc pc = .ok (.iushr, 1)) (hq : pc + 1 = q) (k : Xs C Wd Q σ q lv (.int (x.toUInt32 >>> (y.toUInt32 &&& Int32.toUInt32 31)).toInt32 :: rest)) : Xs C Wd Q σ pc lv (.int y :: .int x :: rest) := by
  subst hq; exact fun H locs ls hW hS hl => lv_iushr h.1 h.2.1 hdg rfl (k H locs ls hW hS hl)
theorem x_idiv (h : XOk C cc own Ts R0) (hne : ¬ y = 0) (hdg : decode cc pc = .ok (.idiv, 1)) (hq : pc + 1 = q) (k : Xs C Wd Q σ q lv (.int (x / y) :: rest)) : Xs C Wd Q σ pc lv (.int y :: .int x :: rest) := by
  subst hq; exact fun H locs ls hW hS hl => lv_idiv h.1 h.2.1 hdg hne (k H locs ls hW hS hl)
theorem x_irem (h : XOk C cc own Ts R0) (hne : ¬ y = 0) (hdg : decode cc pc = .ok (.irem, 1)) (hq : pc + 1 = q) (k : Xs C Wd Q σ q lv (.int (x - x / y * y) :: rest)) : Xs C Wd Q σ pc lv (.int y :: .int x :: rest) := by
  subst hq; exact fun H locs ls hW hS hl => lv_irem h.1 h.2.1 hdg hne (k H locs ls hW hS hl)
theorem x_i2l (h : XOk C cc own Ts R0) (hdg : decode cc pc = .ok (.i2l, 1)) (hq : pc + 1 = q) (k : Xs C Wd Q σ q lv (.long x.toInt64 :: rest)) : Xs C Wd Q σ pc lv (.int x :: rest) := by
  subst hq; exact fun H locs ls hW hS hl => lv_i2l h.1 h.2.1 hdg rfl (k H locs ls hW hS hl)
theorem x_ladd {a b : Int64} (h : XOk C cc own Ts R0) (hdg : decode cc pc = .ok (.ladd, 1)) (hq : pc + 1 = q) (k : Xs C Wd Q σ q lv (.long (a + b) :: rest)) : Xs C Wd Q σ pc lv (.long b :: .long a :: rest) := by
  subst hq; exact fun H locs ls hW hS hl => lv_ladd h.1 h.2.1 hdg (k H locs ls hW hS hl)
theorem x_lmul {a b : Int64} (h : XOk C cc own Ts R0) (hdg : decode cc pc = .ok (.lmul, 1)) (hq : pc + 1 = q) (k : Xs C Wd Q σ q lv (.long (a * b) :: rest)) : Xs C Wd Q σ pc lv (.long b :: .long a :: rest) := by
  subst hq; exact fun H locs ls hW hS hl => lv_lmul h.1 h.2.1 hdg (k H locs ls hW hS hl)
theorem x_lcmp {a b : Int64} (h : XOk C cc own Ts R0) (hdg : decode cc pc = .ok (.lcmp, 1)) (hq : pc + 1 = q) (k : Xs C Wd Q σ q lv (.int (lg_cmp a b) :: rest)) : Xs C Wd Q σ pc lv (.long b :: .long a :: rest) := by
  subst hq; exact fun H locs ls hW hS hl => W.lcmp h.1 h.2.1 hdg (k H locs ls hW hS hl)
theorem x_dup {va : Value} (h : XOk C cc own Ts R0) (hdg : decode cc pc = .ok (.dup, 1)) (hva : va.category = 1) (hq : pc + 1 = q) (k : Xs C Wd Q σ q lv (va :: va :: rest)) : Xs C Wd Q σ pc lv (va :: rest) := by
  subst hq; exact fun H locs ls hW hS hl => lv_dup h.1 h.2.1 hdg hva (k H locs ls hW hS hl)
theorem x_pop {va : Value} (h : XOk C cc own Ts R0) (hdg : decode cc pc = .ok (.pop, 1)) (hva : va.category = 1) (hq : pc + 1 = q) (k : Xs C Wd Q σ q lv rest) : Xs C Wd Q σ pc lv (va :: rest) := by
  subst hq; exact fun H locs ls hW hS hl => lv_pop h.1 h.2.1 hdg hva (k H locs ls hW hS hl)
theorem x_dup2 {va vb : Value} (h : XOk C cc own Ts R0) (hdg : decode cc pc = .ok (.dup2, 1)) (hva : va.category = 1) (hvb : vb.category = 1) (hq : pc + 1 = q) (k : Xs C Wd Q σ q lv (va :: vb :: va :: vb :: rest)) : Xs C Wd Q σ pc lv (va :: vb :: rest) := by
  subst hq; exact fun H locs ls hW hS hl => lv_dup2_11 h.1 h.2.1 hdg hva hvb (k H locs ls hW hS hl)
theorem x_goto {off : Int} (h : XOk C cc own Ts R0) (hdg : decode cc pc = .ok (.goto off, 3)) (ht : (pc : Int) + off = (q : Int)) (k : Xs C Wd Q σ q lv rest) : Xs C Wd Q σ pc lv rest :=
  fun H locs ls hW hS hl => lv_goto h.1 h.2.1 hdg ht (k H locs ls hW hS hl)
theorem x_null (h : XOk C cc own Ts R0) (hdg : decode cc pc = .ok (.aconst_null, 1)) (hq : pc + 1 = q) (k : Xs C Wd Q σ q lv (rfV g none :: rest)) : Xs C Wd Q σ pc lv rest := by
  subst hq; exact fun H locs ls hW hS hl => lv_null h.1 h.2.1 hdg (k H locs ls hW hS hl)
theorem x_ifnonnull {a tgt : Nat} {off : Int} (h : XOk C cc own Ts R0) (hdg : decode cc pc = .ok (.ifnonnull off, 3)) (ht : (pc : Int) + off = (tgt : Int)) (k : Xs C Wd Q σ tgt lv rest) : Xs C Wd Q σ pc lv (.ref a :: rest) :=
  fun H locs ls hW hS hl => lv_ifnonnull h.1 h.2.1 hdg ht (k H locs ls hW hS hl)
theorem x_ifnull {a : Nat} {off : Int} (h : XOk C cc own Ts R0) (hdg : decode cc pc = .ok (.ifnull off, 3)) (hq : pc + 3 = q) (k : Xs C Wd Q σ q lv rest) : Xs C Wd Q σ pc lv (.ref a :: rest) := by
  subst hq; exact fun H locs ls hW hS hl => lv_ifnull h.1 h.2.1 hdg (k H locs ls hW hS hl)
theorem x_ifnonnullN {off : Int} (h : XOk C cc own Ts R0) (hdg : decode cc pc = .ok (.ifnonnull off, 3)) (hq : pc + 3 = q) (k : Xs C Wd Q σ q lv rest) : Xs C Wd Q σ pc lv (rfV g none :: rest) := by
  subst hq; exact fun H locs ls hW hS hl => lv_ifnonnullN h.1 h.2.1 hdg (k H locs ls hW hS hl)
theorem x_ifnullN {tgt : Nat} {off : Int} (h : XOk C cc own Ts R0) (hdg : decode cc pc = .ok (.ifnull off, 3)) (ht : (pc : Int) + off = (tgt : Int)) (k : Xs C Wd Q σ tgt lv rest) : Xs C Wd Q σ pc lv (rfV g none :: rest) :=
  fun H locs ls hW hS hl => lv_ifnullN h.1 h.2.1 hdg ht (k H locs ls hW hS hl)
/-- the same world, fewer or reordered locals -/
theorem x_sub (is : List Nat) (hl : lv_pick lv is = lv') (k : Xs C Wd Q σ pc lv' rest) : Xs C Wd Q σ pc lv rest :=
  fun H locs ls hW hS h => k H locs ls hW hS (lv_sub h is hl)
theorem x_if_eq {α : Type} {a b o : α} {off : Int} {tgt : Nat} (h : XOk C cc own Ts R0) (hdg : decode cc pc = .ok (.ifCond .eq off, 3)) (ht : (pc : Int) + off = (tgt : Int)) (hq : pc + 3 = q) (hf : (if x = 0 then a else b) = o) (kt : x = 0 → a = o → Xs C Wd Q σ tgt lv rest) (kf : ¬ x = 0 → b = o → Xs C Wd Q σ q lv rest) : Xs C Wd Q σ pc lv (.int x :: rest) := by
  subst hq; exact fun H locs ls hW hS hl => lv_if_eq h.1 h.2.1 hdg ht (fun hc => kt hc ((if_pos hc).symm.trans hf) H locs ls hW hS hl) (fun hc => kf hc ((if_neg hc).symm.trans hf) H locs ls hW hS hl)
theorem x_icmp_eq {α : Type} {a b o : α} {off : Int} {tgt : Nat} (h : XOk C cc own Ts R0) (hdg : decode cc pc = .ok (.if_icmp .eq off, 3)) (ht : (pc : Int) + off = (tgt : Int)) (hq : pc + 3 = q) (hf : (if x = y then a else b) = o) (kt : x = y → a = o → Xs C Wd Q σ tgt lv rest) (kf : ¬ x = y → b = o → Xs C Wd Q σ q lv rest) : Xs C Wd Q σ pc lv (.int y :: .int x :: rest) := by
  subst hq; exact fun H locs ls hW hS hl => lv_icmp_eq h.1 h.2.1 hdg ht (fun hc => kt hc ((if_pos hc).symm.trans hf) H locs ls hW hS hl) (fun hc => kf hc ((if_neg hc).symm.trans hf) H locs ls hW hS hl)
theorem x_if_lt {α : Type} {a b o : α} {off : Int} {tgt : Nat} (h : XOk C cc own Ts R0) (hdg : decode cc pc = .ok (.ifCond .lt off, 3)) (ht : (pc : Int) + off = (tgt : Int)) (hq : pc + 3 = q) (hf : (if x < 0 then a else b) = o) (kt : x < 0 → a = o → Xs C Wd Q σ tgt lv rest) (kf : ¬ x < 0 → b = o → Xs C Wd Q σ q lv rest) : Xs C Wd Q σ pc lv (.int x :: rest) := by
  subst hq; exact fun H locs ls hW hS hl => lv_if_lt h.1 h.2.1 hdg ht (fun hc => kt hc ((if_pos hc).symm.trans hf) H locs ls hW hS hl) (fun hc => kf hc ((if_neg hc).symm.trans hf) H locs ls hW hS hl)
theorem x_icmp_lt {α : Type} {a b o : α} {off : Int} {tgt : Nat} (h : XOk C cc own Ts R0) (hdg : decode cc pc = .ok (.if_icmp .lt off, 3)) (ht : (pc : Int) + off = (tgt : Int)) (hq : pc + 3 = q) (hf : (if x < y then a else b) = o) (kt : x < y → a = o → Xs C Wd Q σ tgt lv rest) (kf : ¬ x < y → b = o → Xs C Wd Q σ q lv rest) : Xs C Wd Q σ pc lv (.int y :: .int x :: rest) := by
  subst hq; exact fun H locs ls hW hS hl => lv_icmp_lt h.1 h.2.1 hdg ht (fun hc => kt hc ((if_pos hc).symm.trans hf) H locs ls hW hS hl) (fun hc => kf hc ((if_neg hc).symm.trans hf) H locs ls hW hS hl)
theorem x_if_ge {α : Type} {a b o : α} {off : Int} {tgt : Nat} (h : XOk C cc own Ts R0) (hdg : decode cc pc = .ok (.ifCond .ge off, 3)) (ht : (pc : Int) + off = (tgt : Int)) (hq : pc + 3 = q) (hf : (if 0 ≤ x then a else b) = o) (kt : 0 ≤ x → a = o → Xs C Wd Q σ tgt lv rest) (kf : ¬ 0 ≤ x → b = o → Xs C Wd Q σ q lv rest) : Xs C Wd Q σ pc lv (.int x :: rest) := by
  subst hq; exact fun H locs ls hW hS hl => lv_if_ge h.1 h.2.1 hdg ht (fun hc => kt hc ((if_pos hc).symm.trans hf) H locs ls hW hS hl) (fun hc => kf hc ((if_neg hc).symm.trans hf) H locs ls hW hS hl)
theorem x_icmp_ge {α : Type} {a b o : α} {off : Int} {tgt : Nat} (h : XOk C cc own Ts R0) (hdg : decode cc pc = .ok (.if_icmp .ge off, 3)) (ht : (pc : Int) + off = (tgt : Int)) (hq : pc + 3 = q) (hf : (if y ≤ x then a else b) = o) (kt : y ≤ x → a = o → Xs C Wd Q σ tgt lv rest) (kf : ¬ y ≤ x → b = o → Xs C Wd Q σ q lv rest) : Xs C Wd Q σ pc lv (.int y :: .int x :: rest) := by
  subst hq; exact fun H locs ls hW hS hl => lv_icmp_ge h.1 h.2.1 hdg ht (fun hc => kt hc ((if_pos hc).symm.trans hf) H locs ls hW hS hl) (fun hc => kf hc ((if_neg hc).symm.trans hf) H locs ls hW hS hl)
theorem x_if_gt {α : Type} {a b o : α} {off : Int} {tgt : Nat} (h : XOk C cc own Ts R0) (hdg : decode cc pc = .ok (.ifCond .gt off, 3)) (ht : (pc : Int) + off = (tgt : Int)) (hq : pc + 3 = q) (hf : (if 0 < x then a else b) = o) (kt : 0 < x → a = o → Xs C Wd Q σ tgt lv rest) (kf : ¬ 0 < x → b = o → Xs C Wd Q σ q lv rest) : Xs C Wd Q σ pc lv (.int x :: rest) := by
  subst hq; exact fun H locs ls hW hS hl => lv_if_gt h.1 h.2.1 hdg ht (fun hc => kt hc ((if_pos hc).symm.trans hf) H locs ls hW hS hl) (fun hc => kf hc ((if_neg hc).symm.trans hf) H locs ls hW hS hl)
theorem x_icmp_gt {α : Type} {a b o : α} {off : Int} {tgt : Nat} (h : XOk C cc own Ts R0) (hdg : decode cc pc = .ok (.if_icmp .gt off, 3)) (ht : (pc : Int) + off = (tgt : Int)) (hq : pc + 3 = q) (hf : (if y < x then a else b) = o) (kt : y < x → a = o → Xs C Wd Q σ tgt lv rest) (kf : ¬ y < x → b = o → Xs C Wd Q σ q lv rest) : Xs C Wd Q σ pc lv (.int y :: .int x :: rest) := by
  subst hq; exact fun H locs ls hW hS hl => lv_icmp_gt h.1 h.2.1 hdg ht (fun hc => kt hc ((if_pos hc).symm.trans hf) H locs ls hW hS hl) (fun hc => kf hc ((if_neg hc).symm.trans hf) H locs ls hW hS hl)
theorem x_if_le {α : Type} {a b o : α} {off : Int} {tgt : Nat} (h : XOk C cc own Ts R0) (hdg : decode cc pc = .ok (.ifCond .le off, 3)) (ht : (pc : Int) + off = (tgt : Int)) (hq : pc + 3 = q) (hf : (if x ≤ 0 then a else b) = o) (kt : x ≤ 0 → a = o → Xs C Wd Q σ tgt lv rest) (kf : ¬ x ≤ 0 → b = o → Xs C Wd Q σ q lv rest) : Xs C Wd Q σ pc lv (.int x :: rest) := by
  subst hq; exact fun H locs ls hW hS hl => lv_if_le h.1 h.2.1 hdg ht (fun hc => kt hc ((if_pos hc).symm.trans hf) H locs ls hW hS hl) (fun hc => kf hc ((if_neg hc).symm.trans hf) H locs ls hW hS hl)
theorem x_icmp_le {α : Type} {a b o : α} {off : Int} {tgt : Nat} (h : XOk C cc own Ts R0) (hdg : decode cc pc = .ok (.if_icmp .le off, 3)) (ht : (pc : Int) + off = (tgt : Int)) (hq : pc + 3 = q) (hf : (if x ≤ y then a else b) = o) (kt : x ≤ y → a = o → Xs C Wd Q σ tgt lv rest) (kf : ¬ x ≤ y → b = o → Xs C Wd Q σ q lv rest) : Xs C Wd Q σ pc lv (.int y :: .int x :: rest) := by
  subst hq; exact fun H locs ls hW hS hl => lv_icmp_le h.1 h.2.1 hdg ht (fun hc => kt hc ((if_pos hc).symm.trans hf) H locs ls hW hS hl) (fun hc => kf hc ((if_neg hc).symm.trans hf) H locs ls hW hS hl)
theorem x_if_ne {α : Type} {a b o : α} {off : Int} {tgt : Nat} (h : XOk C cc own Ts R0) (hdg : decode cc pc = .ok (.ifCond .ne off, 3)) (ht : (pc : Int) + off = (tgt : Int)) (hq : pc + 3 = q) (hf : (if x = 0 then a else b) = o) (kt : ¬ x = 0 → b = o → Xs C Wd Q σ tgt lv rest) (kf : x = 0 → a = o → Xs C Wd Q σ q lv rest) : Xs C Wd Q σ pc lv (.int x :: rest) := by
  subst hq; exact fun H locs ls hW hS hl => lv_if_ne h.1 h.2.1 hdg ht (fun hc => kt hc ((if_neg hc).symm.trans hf) H locs ls hW hS hl) (fun hc => kf hc ((if_pos hc).symm.trans hf) H locs ls hW hS hl)
theorem x_icmp_ne {α : Type} {a b o : α} {off : Int} {tgt : Nat} (h : XOk C cc own Ts R0) (hdg : decode cc pc = .ok (.if_icmp .ne off, 3)) (ht : (pc : Int) + off = (tgt : Int)) (hq : pc + 3 = q) (hf : (if x = y then a else b) = o) (kt : ¬ x = y → b = o → Xs C Wd Q σ tgt lv rest) (kf : x = y → a = o → Xs C Wd Q σ q lv rest) : Xs C Wd Q σ pc lv (.int y :: .int x :: rest) := by
  subst hq; exact fun H locs ls hW hS hl => lv_icmp_ne h.1 h.2.1 hdg ht (fun hc => kt hc ((if_neg hc).symm.trans hf) H locs ls hW hS hl) (fun hc => kf hc ((if_pos hc).symm.trans hf) H locs ls hW hS hl)
theorem x_tableIn {dflt lo hi off : Int} {offs : Array Int} {len tgt : Nat} (h : XOk C cc own Ts R0) (hdg : decode cc pc = .ok (.tableswitch dflt lo hi offs, len)) (h1 : ¬ x.toInt < lo) (h2 : ¬ hi < x.toInt) (ho : offs[(x.toInt - lo).toNat]? = some off) (ht : (pc : Int) + off = (tgt : Int)) (k : Xs C Wd Q σ tgt lv rest) : Xs C Wd Q σ pc lv (.int x :: rest) :=
  fun H locs ls hW hS hl => lv_tableIn h.1 h.2.1 hdg h1 h2 ho ht (k H locs ls hW hS hl)
theorem x_tableOut {dflt lo hi : Int} {offs : Array Int} {len tgt : Nat} (h : XOk C cc own Ts R0) (hdg : decode cc pc = .ok (.tableswitch dflt lo hi offs, len)) (h1 : x.toInt < lo ∨ hi < x.toInt) (ht : (pc : Int) + dflt = (tgt : Int)) (k : Xs C Wd Q σ tgt lv rest) : Xs C Wd Q σ pc lv (.int x :: rest) :=
  fun H locs ls hW hS hl => lv_tableOut h.1 h.2.1 hdg h1 ht (k H locs ls hW hS hl)
theorem x_lookup {dflt off : Int} {ps : Array (Int × Int)} {len tgt : Nat} (h : XOk C cc own Ts R0) (hdg : decode cc pc = .ok (.lookupswitch dflt ps, len)) (hp : (ps.toList.zip (ps.toList.drop 1)).all (fun (a, next) => a.1 < next.1) = true) (ho : Op.lookupswitch.offset ps.toList dflt x.toInt = off) (ht : (pc : Int) + off = (tgt : Int)) (k : Xs C Wd Q σ tgt lv rest) : Xs C Wd Q σ pc lv (.int x :: rest) :=
  fun H locs ls hW hS hl => lv_lookup h.1 h.2.1 hdg hp ho ht (k H locs ls hW hS hl)
theorem ne_toInt {x k : Int32} (h : ¬ x = k) : x.toInt ≠ k.toInt := fun q => h (Int32.toInt_inj.mp q)
/-! fields, rows -/
theorem x_get {ci index N : Nat} {fs : List Value} {ref CN : String} {T : u_T} {c : Nat} {v : Value} (h : XOk C cc own Ts R0) (hg : XG C g) (hk : c < 87) (he : cE g c (σ c) = .inr (ci, fs)) (hc : vwCl[ci]? = some (CN, T, N)) (hin : ∀ w ∈ u_ws CN T N, w ∈ Ts) (j : Nat) (hj : j < N) (hl : Cond.fieldLink own index ref (T j).2.1 (T j).2.2.1 ∈ Ts) (hs : (T j).1 = ref) (hv : fs[j]? = some v) (hdg : decode cc pc = .ok (.getfield index, 3)) (k : Xs C (wW g) Q σ (pc + 3) lv (v :: rest)) : Xs C (wW g) Q σ pc lv (.ref (gA g c) :: rest) := by
  intro H locs ls hW hS hl'
  exact va_get h.1 h.2.1 h.2.2.2.2.1 hin h.2.2.2.1 hg.1 hW c ((wl_get g σ hk).trans (by rw [he])) hc j hj (h.2.2.2.2.1 _ hl) (fun x hx => by rw [← hs]; exact hx) hv hdg (k H locs ls hW hS hl')
theorem x_put {ci index N : Nat} {fs : List Value} {ref CN : String} {T : u_T} {c : Nat} {v : Int32} (h : XOk C cc own Ts R0) (hg : XG C g) (hk : c < 87) (he : cE g c (σ c) = .inr (ci, fs)) (hc : vwCl[ci]? = some (CN, T, N)) (hin : ∀ w ∈ u_ws CN T N, w ∈ Ts) (ty0 : Nat → FieldType) (hty : ∀ k, k < N → parseFieldDescriptor (T k).2.2.1 = some (ty0 k)) (hnm : ∀ a, a < N → ∀ b, b < N → a ≠ b → (T a).2.1 ≠ (T b).2.1) (j : Nat) (hj : j < N) (hl : Cond.fieldLink own index ref (T j).2.1 (T j).2.2.1 ∈ Ts) (hs : (T j).1 = ref) (hfin : (T j).2.2.2 = false) {ty : FieldType} (hd : parseFieldDescriptor (T j).2.2.1 = some ty) (hn : narrow ty (.int v) = .int v) (hfit : fits ty (.int v) = true) (hlen : j < fs.length) (hset : cE g c (upd (σ c) j v) = .inr (ci, fs.set j (.int v))) (hdg : decode cc pc = .ok (.putfield index, 3)) (k : Xs C (wW g) Q (up σ c j v) (pc + 3) lv rest) : Xs C (wW g) Q σ pc lv (.int v :: .ref (gA g c) :: rest) := by
  intro H locs ls hW hS hl'
  have hA := hg.2.2
  exact va_put h.1 h.2.1 h.2.2.2.2.1 hin ty0 hty hnm h.2.2.2.1 hg.1 hW (wl_D hg.2.1 σ) (by rw [← hA]; exact hS) c ((wl_get g σ hk).trans (by rw [he])) hc j hj (h.2.2.2.2.1 _ hl) (fun x hx => by rw [← hs]; exact hx) hfin hd hn hfit hlen hdg (fun H1 locs1 hP1 _ hS1 => k H1 locs1 ls (by rw [wl_set g σ (upd (σ c) j v) hset.symm] at hP1; exact hP1) (by rw [hA]; exact hS1) hl')
/-- the one reference that changes: the reader's formula -/
theorem nI_isF {t : Nat} (ht : isF t = true) : dF (nI t) = some t := by
  rcases isF_cases ht with rfl | rfl | rfl | rfl | rfl | rfl | rfl | rfl <;> rfl
theorem x_putfml {index : Nat} {t : Nat} (h : XOk C cc own Ts R0) (hg : XG C g) (ht : isF t = true) (hl : Cond.fieldLink own index "CoalitionChecker$Reader" "formula" "LCoalitionChecker$Formula;" ∈ Ts) (hin : ∀ w ∈ wsX40, w ∈ Ts) (hdg : decode cc pc = .ok (.putfield index, 3)) (k : Xs C (wW g) Q (up σ 73 11 (nI t)) (pc + 3) lv rest) : Xs C (wW g) Q σ pc lv (.ref (gA g t) :: .ref (gA g 73) :: rest) := by
  intro H locs ls hW hS hl'
  have hA := hg.2.2
  have hset : (.inr (4, (([.int (σ 73 0), .ref (gA g 74), .ref (gA g 75), .ref (gA g 76), .ref (gA g 77), .int (σ 73 5), .int (σ 73 6), .int (σ 73 7), .int (σ 73 8), .int (σ 73 9), .int (σ 73 10), rfF g (σ 73 11)] : List Value).set 11 (.ref (gA g t)))) : va_E) = cE g 73 (upd (σ 73) 11 (nI t)) := by
    have e : rfF g (nI t) = .ref (gA g t) := by rw [rfF, nI_isF ht]; rfl
    rw [← e, cE_73]
    rfl
  exact va_put (D := g.1) (ci := 4) (C := RX4) (T := TX4) (N := 12) (v := .ref (gA g t)) h.1 h.2.1 h.2.2.2.2.1 hin tyX4 tyX4_ok nmX4 h.2.2.2.1 hg.1 hW (wl_D hg.2.1 σ) (by rw [← hA]; exact hS) 73 ((wl_get g σ (by decide)).trans (by rw [cE_73])) rfl 11 (by decide) (h.2.2.2.2.1 _ hl) (fun x hx => hx) rfl (ty := .object "CoalitionChecker$Formula") rfl rfl rfl (Nat.le_of_ble_eq_true rfl) hdg (fun H1 locs1 hP1 _ hS1 => k H1 locs1 ls (by rw [wl_set g σ (upd (σ 73) 11 (nI t)) hset] at hP1; exact hP1) (by rw [hA]; exact hS1) hl')
theorem x_iald {c n j : Nat} (h : XOk C cc own Ts R0) (hg : XG C g) (ha : isA c n) (hin : vp_in x n) (hj : x.toNatClampNeg = j) (hdg : decode cc pc = .ok (.iaload, 1)) (hq : pc + 1 = q) (k : Xs C (wW g) Q σ q lv (.int (σ c j) :: rest)) : Xs C (wW g) Q σ pc lv (.int x :: .ref (gA g c) :: rest) := by
  subst hq; subst hj
  intro H locs ls hW hS hl'
  exact va_iald h.1 h.2.1 hg.1 hW c 0 ((wl_get g σ ha.1).trans (by rw [ha.2.2])) rfl hin hdg (k H locs ls hW hS hl')
theorem x_iast {c n j : Nat} {v : Int32} (h : XOk C cc own Ts R0) (hg : XG C g) (ha : isA c n) (hin : vp_in x n) (hj : x.toNatClampNeg = j) (hdg : decode cc pc = .ok (.iastore, 1)) (hq : pc + 1 = q) (k : Xs C (wW g) Q (up σ c j v) q lv rest) : Xs C (wW g) Q σ pc lv (.int v :: .int x :: .ref (gA g c) :: rest) := by
  subst hq; subst hj
  intro H locs ls hW hS hl'
  have hA := hg.2.2
  exact va_iast h.1 h.2.1 hg.1 hW (wl_D hg.2.1 σ) (by rw [← hA]; exact hS) c 0 ((wl_get g σ ha.1).trans (by rw [ha.2.2])) rfl hin hdg (fun H1 locs1 hP1 _ hS1 => k H1 locs1 ls (by rw [wl_set g σ (upd (σ c) x.toNatClampNeg v) (ha.2.2 g _).symm] at hP1; exact hP1) (by rw [hA]; exact hS1) hl')
theorem x_alen {c n : Nat} {v : Int32} (h : XOk C cc own Ts R0) (hg : XG C g) (ha : isA c n) (hv : Int32.ofNat n = v) (hdg : decode cc pc = .ok (.arraylength, 1)) (hq : pc + 1 = q) (k : Xs C (wW g) Q σ q lv (.int v :: rest)) : Xs C (wW g) Q σ pc lv (.ref (gA g c) :: rest) := by
  subst hq
  intro H locs ls hW hS hl'
  exact va_alen h.1 h.2.1 hg.1 hW c 0 ((wl_get g σ ha.1).trans (by rw [ha.2.2])) rfl hv hdg (k H locs ls hW hS hl')
theorem x_alenF (h : XOk C cc own Ts R0) (hg : XG C g) (hdg : decode cc pc = .ok (.arraylength, 1)) (hq : pc + 1 = q) (k : Xs C (wW g) Q σ q lv (.int 8 :: rest)) : Xs C (wW g) Q σ pc lv (.ref (gA g 66) :: rest) := by
  subst hq
  intro H locs ls hW hS hl'
  exact va_alen h.1 h.2.1 hg.1 hW 66 1 ((wl_get g σ (by decide)).trans (by rw [cE_66])) rfl rfl hdg (k H locs ls hW hS hl')
theorem x_alenS (h : XOk C cc own Ts R0) (hg : XG C g) (hdg : decode cc pc = .ok (.arraylength, 1)) (hq : pc + 1 = q) (k : Xs C (wW g) Q σ q lv (.int 4 :: rest)) : Xs C (wW g) Q σ pc lv (.ref (gA g 68) :: rest) := by
  subst hq
  intro H locs ls hW hS hl'
  exact va_alen h.1 h.2.1 hg.1 hW 68 2 ((wl_get g σ (by decide)).trans (by rw [cE_68])) rfl rfl hdg (k H locs ls hW hS hl')
theorem cl_lt {x : Int32} {n : Nat} (hin : vp_in x n) : x.toNatClampNeg < n := Nat.not_le.mp fun q => hin (Or.inr q)
theorem isF_in {x : Int32} (hin : vp_in x 8) : isF (25 + 5 * x.toNatClampNeg) = true := by
  have h := cl_lt hin
  generalize x.toNatClampNeg = n at h
  have : n = 0 ∨ n = 1 ∨ n = 2 ∨ n = 3 ∨ n = 4 ∨ n = 5 ∨ n = 6 ∨ n = 7 := by omega
  rcases this with rfl | rfl | rfl | rfl | rfl | rfl | rfl | rfl <;> rfl
theorem isS_in {x : Int32} (hin : vp_in x 4) : isS (5 + 5 * x.toNatClampNeg) = true := by
  have h := cl_lt hin
  generalize x.toNatClampNeg = n at h
  have : n = 0 ∨ n = 1 ∨ n = 2 ∨ n = 3 := by omega
  rcases this with rfl | rfl | rfl | rfl <;> rfl
theorem x_kept (h : XOk C cc own Ts R0) (hg : XG C g) (hin : vp_in x 8) (hdg : decode cc pc = .ok (.aaload, 1)) (hq : pc + 1 = q) (k : Xs C (wW g) Q σ q lv (.ref (gA g (25 + 5 * x.toNatClampNeg)) :: rest)) : Xs C (wW g) Q σ pc lv (.int x :: .ref (gA g 66) :: rest) := by
  subst hq
  intro H locs ls hW hS hl'
  refine va_aldq h.1 h.2.1 hg.1 hW 66 1 ((wl_get g σ (by decide)).trans (by rw [cE_66])) rfl hin hdg ?_
  rw [if_pos (cl_lt hin)]
  exact k H locs ls hW hS hl'
theorem x_ring (h : XOk C cc own Ts R0) (hg : XG C g) (hin : vp_in x 4) (hdg : decode cc pc = .ok (.aaload, 1)) (hq : pc + 1 = q) (k : Xs C (wW g) Q σ q lv (.ref (gA g (5 + 5 * x.toNatClampNeg)) :: rest)) : Xs C (wW g) Q σ pc lv (.int x :: .ref (gA g 68) :: rest) := by
  subst hq
  intro H locs ls hW hS hl'
  refine va_aldq h.1 h.2.1 hg.1 hW 68 2 ((wl_get g σ (by decide)).trans (by rw [cE_68])) rfl hin hdg ?_
  rw [if_pos (cl_lt hin)]
  exact k H locs ls hW hS hl'
theorem x_copy {index c d n : Nat} (h : XOk C cc own Ts R0) (hg : XG C g) (hml : Cond.methodLink own index arraycopyName ∈ Ts) (hnat : Cond.native arraycopyName ∈ Ts) (hst : Cond.static arraycopyName ∈ Ts) (hini : Cond.initialized "java/lang/System" ∈ Ts) (hR : 1 ≤ R0.frames ∧ nativeFrameWords "java/lang/System" "arraycopy" 5 + 11 ≤ R0.locals) (ha : isA c n) (hb : isA d n) (hdg : decode cc pc = .ok (.invokestatic index, 3)) (k : Xs C (wW g) Q (va_up σ d (va_cpy (σ c) (σ d) 0 0 n)) (pc + 3) lv []) : Xs C (wW g) Q σ pc lv [.int (Int32.ofNat n), .int 0, .ref (gA g d), .int 0, .ref (gA g c)] := by
  intro H locs ls hW hS hl'
  have hA := hg.2.2
  have hn : (Int32.ofNat n).toNatClampNeg = n := nI_clamp ha.2.1
  refine va_copyi h.1 h.2.1 (h.2.2.1.trans hl'.1.symm) h.2.2.2.1 (h.2.2.2.2.1 _ hml) (h.2.2.2.2.1 _ hnat) (h.2.2.2.2.1 _ hst) (h.2.2.2.2.1 _ hini) hg.1 hW (wl_D hg.2.1 σ) (by rw [← hA]; exact hS) c d 0 0 ((wl_get g σ ha.1).trans (by rw [ha.2.2])) ((wl_get g σ hb.1).trans (by rw [hb.2.2])) rfl rfl rfl (by decide) (by decide) (nI_pos ha.2.1) ?_ ?_ (fun _ _ => rfl) ?_ ?_ hdg (fun H1 locs1 hP1 _ hS1 => k H1 locs1 ls ?_ ?_ hl')
  · rw [hn]; show 0 + n ≤ n; omega
  · rw [hn]; show 0 + n ≤ n; omega
  · rw [h.2.2.2.2.2.1]; exact hR.1
  · rw [h.2.2.2.2.2.1]; exact Nat.le_trans (Nat.le_of_eq (Nat.zero_add _)) hR.2
  · rw [hn, sb_cl0] at hP1
    rw [wl_set g σ (va_cpy (σ c) (σ d) 0 0 n) (hb.2.2 g _).symm] at hP1
    exact hP1
  · rw [hA]; exact hS1
theorem x_mmax {index : Nat} (h : XOk C cc own Ts R0) (hml : Cond.methodLink own index Lib.Math.max.name ∈ Ts) (hst : Cond.static Lib.Math.max.name ∈ Ts) (hini : Cond.initialized "java/lang/Math" ∈ Ts) (hcode : Cond.code Lib.Math.max.name Lib.Math.max.code 2 (some .int) ∈ Ts) (hR : 1 ≤ R0.frames ∧ (rest.map fun v => v.category).sum + 13 ≤ R0.locals) (hdg : decode cc pc = .ok (.invokestatic index, 3)) (k : Xs C Wd Q σ (pc + 3) lv (.int (if x < y then y else x) :: rest)) : Xs C Wd Q σ pc lv (.int y :: .int x :: rest) := by
  intro H locs ls hW hS hl'
  refine va_mmax h.1 h.2.1 (h.2.2.1.trans hl'.1.symm) h.2.2.2.1 (h.2.2.2.2.1 _ hml) (h.2.2.2.2.1 _ hst) (h.2.2.2.2.1 _ hini) (h.2.2.2.2.1 _ hcode) ?_ ?_ ?_ ?_ hdg (k H locs ls hW hS hl')
  · rw [h.2.2.2.2.2.1]; exact hR.1
  · rw [h.2.2.2.2.2.1]; exact hR.2
  · rw [h.2.2.2.2.2.1]; exact h.2.2.2.2.2.2.1
  · rw [h.2.2.2.2.2.1]; exact h.2.2.2.2.2.2.2
theorem x_mmin {index : Nat} (h : XOk C cc own Ts R0) (hml : Cond.methodLink own index Lib.Math.min.name ∈ Ts) (hst : Cond.static Lib.Math.min.name ∈ Ts) (hini : Cond.initialized "java/lang/Math" ∈ Ts) (hcode : Cond.code Lib.Math.min.name Lib.Math.min.code 2 (some .int) ∈ Ts) (hR : 1 ≤ R0.frames ∧ (rest.map fun v => v.category).sum + 13 ≤ R0.locals) (hdg : decode cc pc = .ok (.invokestatic index, 3)) (k : Xs C Wd Q σ (pc + 3) lv (.int (if y < x then y else x) :: rest)) : Xs C Wd Q σ pc lv (.int y :: .int x :: rest) := by
  intro H locs ls hW hS hl'
  refine va_mmin h.1 h.2.1 (h.2.2.1.trans hl'.1.symm) h.2.2.2.1 (h.2.2.2.2.1 _ hml) (h.2.2.2.2.1 _ hst) (h.2.2.2.2.1 _ hini) (h.2.2.2.2.1 _ hcode) ?_ ?_ ?_ ?_ hdg ?_
  · rw [h.2.2.2.2.2.1]; exact hR.1
  · rw [h.2.2.2.2.2.1]; exact hR.2
  · rw [h.2.2.2.2.2.1]; exact h.2.2.2.2.2.2.1
  · rw [h.2.2.2.2.2.1]; exact h.2.2.2.2.2.2.2
  · exact k H locs ls hW hS hl'
/-! returns -/
theorem x_iret {v : Int32} (h : XOk C cc own Ts R0) (hg : XG C g) (hr : XEnd C (some .int) Q (XQ g (some (.int v)) σ) (cA g)) (hdg : decode cc pc = .ok (.ireturn, 1)) : Xs C (wW g) Q σ pc lv [.int v] := by
  intro H locs ls hW hS hl'
  have hA := hg.2.2
  obtain ⟨r1, r2, r3, -⟩ := hr
  subst r3
  rw [hA] at hS
  exact W.iret h.1 h.2.1 r1 (fun t ht _ => ⟨rfl, by rw [ht]; exact hW, hS.F ht⟩) hS.2.2 hdg r2
theorem x_zret {b : Bool} (h : XOk C cc own Ts R0) (hg : XG C g) (hr : XEnd C (some .boolean) Q (XQ g (some (.int (bI b))) σ) (cA g)) (hdg : decode cc pc = .ok (.ireturn, 1)) : Xs C (wW g) Q σ pc lv [.int (bI b)] := by
  intro H locs ls hW hS hl'
  have hA := hg.2.2
  obtain ⟨r1, r2, r3, -⟩ := hr
  subst r3
  rw [hA] at hS
  exact W.zret h.1 h.2.1 r1 (bI_z b) (fun t ht _ => ⟨rfl, by rw [ht]; exact hW, hS.F ht⟩) hS.2.2 hdg r2
theorem x_lret {v : Int64} (h : XOk C cc own Ts R0) (hg : XG C g) (hr : XEnd C (some .long) Q (XQ g (some (.long v)) σ) (cA g)) (hdg : decode cc pc = .ok (.lreturn, 1)) : Xs C (wW g) Q σ pc lv [.long v] := by
  intro H locs ls hW hS hl'
  have hA := hg.2.2
  obtain ⟨r1, r2, r3, -⟩ := hr
  subst r3
  rw [hA] at hS
  exact W.lret h.1 h.2.1 r1 (fun t ht _ => ⟨rfl, by rw [ht]; exact hW, hS.F ht⟩) hS.2.2 hdg r2
theorem x_vret (h : XOk C cc own Ts R0) (hg : XG C g) (hr : XEnd C none Q (XQ g none σ) (cA g)) (hdg : decode cc pc = .ok (.return_, 1)) : Xs C (wW g) Q σ pc lv [] := by
  intro H locs ls hW hS hl'
  have hA := hg.2.2
  obtain ⟨r1, r2, r3, -⟩ := hr
  subst r3
  rw [hA] at hS
  exact W.vret h.1 h.2.1 r1 (fun t ht _ => ⟨rfl, by rw [ht]; exact hW, hS.F ht⟩) hS.2.2 hdg r2
theorem x_aret {o : Option Nat} {cn : String} (h : XOk C cc own Ts R0) (hg : XG C g) (hr : XEnd C (some (.object cn)) Q (XQ g (some (rfV g o)) σ) (cA g)) (hdg : decode cc pc = .ok (.areturn, 1)) : Xs C (wW g) Q σ pc lv [rfV g o] := by
  intro H locs ls hW hS hl'
  have hA := hg.2.2
  obtain ⟨r1, r2, r3, -⟩ := hr
  subst r3
  rw [hA] at hS
  exact W.aret h.1 h.2.1 r1 (Or.inl ⟨cn, rfl⟩) (by cases o with | none => exact Or.inl rfl | some t => exact Or.inr ⟨_, rfl⟩) (fun t ht _ => ⟨rfl, by rw [ht]; exact hW, hS.F ht⟩) hS.2.2 hdg r2
/-- returns of what touches no cell -/
theorem x_iretP {v : Int32} {H0 : Heap} (h : XOk C cc own Ts R0) (hr : XEnd C (some .int) Q (XQp (some (.int v))) (fun _ => False)) (hH : H0 = C.2.2.2.2.1.heap) (hdg : decode cc pc = .ok (.ireturn, 1)) : Xs C (fun _ H => H = H0) Q σ pc lv [.int v] := by
  intro H locs ls hW hS hl'
  obtain ⟨r1, r2, r3, r4⟩ := hr
  subst r3
  rw [r4] at hS
  exact W.iret h.1 h.2.1 r1 (fun t ht _ => ⟨rfl, by rw [ht, hW, hH]⟩) hS.2.2 hdg r2
theorem x_zretP {b : Bool} {H0 : Heap} (h : XOk C cc own Ts R0) (hr : XEnd C (some .boolean) Q (XQp (some (.int (bI b)))) (fun _ => False)) (hH : H0 = C.2.2.2.2.1.heap) (hdg : decode cc pc = .ok (.ireturn, 1)) : Xs C (fun _ H => H = H0) Q σ pc lv [.int (bI b)] := by
  intro H locs ls hW hS hl'
  obtain ⟨r1, r2, r3, r4⟩ := hr
  subst r3
  rw [r4] at hS
  exact W.zret h.1 h.2.1 r1 (bI_z b) (fun t ht _ => ⟨rfl, by rw [ht, hW, hH]⟩) hS.2.2 hdg r2
/-! calls -/
theorem XPre_blind {g : cG} {σ : St} {av : List Value} : FrameBlind (va_Pc av (XPre g σ)) := fun a U gg mk h => ⟨h.1, h.2.1, va_K.moved (u := U) (U := U.calling gg mk a) (Vm.Alike.refl U.vm) h.2.2⟩
theorem x_run {σ' : St} {rv : Option Value} {A0 : Array Value} {st : List Value} {gA' : cG} (hg : XG C g) (hr : ∀ (H : Heap) (locs : List Loc) (ls : Array Slot), wW g σ H → lv_has ls C.2.2.2.2.2.2.2.2.2.2.2.2.1 lv → va_Run C.1 C.2.1 C.2.2.1 C.2.2.2.1 C.2.2.2.2.1 C.2.2.2.2.2.1 C.2.2.2.2.2.2.1 C.2.2.2.2.2.2.2.1 C.2.2.2.2.2.2.2.2.1 C.2.2.2.2.2.2.2.2.2.1 H locs C.2.2.2.2.2.2.2.2.2.2.1 C.2.2.2.2.2.2.2.2.2.2.2.1 0 0 (F0 C.2.2.2.2.2.1 pc ls st) rest (XQ g rv σ' A0) (cA g)) (k : Xs C (wW g) Q σ' (pc + 3) lv (rv.toList ++ rest)) : Xs C (wW g) Q σ pc lv st := by
  intro H locs ls hW hS hl' T hT X
  have hA := hg.2.2
  obtain ⟨v, st₀, t, T', L, h0, X', hL, e1, e2, ⟨hv, hP, hz, hk⟩, st⟩ := hr H locs ls hW hl' T hT X
  cases hv
  rw [h0] at hz hk
  rw [hA] at hS
  obtain ⟨t2, a1, b1⟩ := k T'.heap (locs ++ L) ls (by rw [e1]; exact hP) (by
    rw [hA]
    exact ⟨Nat.le_trans hS.1 (by rw [e1]; exact hz), fun q h1 h2 => by rw [e1, hk q (Nat.lt_of_lt_of_le h1 hS.1) h2]; exact hS.2.1 q h1 h2, fun q hq => by
      rcases List.mem_append.mp hq with h | h
      · exact hS.2.2 q h
      · exact hL q h⟩) hl' T' rfl X'
  exact ⟨t2, st t2 a1, b1⟩
theorem x_callV {σ' : St} {rv : Option Value} {y : MethodName} {bytes : ByteArray} {maxL n index ci c : Nat} {ret : Option FieldType} {ws ws' : List Cond} {rm : Room} {CN : String} {T : u_T} {N : Nat} {fs As st : List Value} (h : XOk C cc own Ts R0) (hg : XG C g) (hM : Met C.2.1 y ws rm (va_Pc (.ref (gA g c) :: As) (XPre g σ)) (XQ g rv σ') 0 0 (cA g)) (hG : GoodIn Ts (wsV own index CN y ws)) (hw : ws = Cond.code y bytes maxL ret :: ws') (hrc : rm.cells = 0) (hrs : rm.slots = 0) (hd : y.cls = CN ∧ y.cls ≠ "java/lang/invoke/MethodHandle" ∧ y.cls ≠ "java/lang/invoke/VarHandle" ∧ (parseMethodDescriptor y.desc).map (fun d => d.parameters.length) = some n) (hR : rm.frames + 1 ≤ R0.frames ∧ 8 + (maxL + 11) + rm.locals ≤ R0.locals) (hk : c < 87) (he : cE g c (σ c) = .inr (ci, fs)) (hc : vwCl[ci]? = some (CN, T, N)) (hn : As.length = n) (hst : st = As.reverse ++ .ref (gA g c) :: rest) (hcat : (rest.map fun v => v.category).sum ≤ 8) (hdg : decode cc pc = .ok (.invokevirtual index, 3)) (k : Xs C (wW g) Q σ' (pc + 3) lv (rv.toList ++ rest)) : Xs C (wW g) Q σ pc lv st := by
  refine x_run (A0 := (Value.ref (gA g c) :: As).toArray) (gA' := g) hg (fun H locs ls hW hl' => ?_) k
  refine va_runV (Ts := Ts) (C := CN) ⟨h.1, h.2.1, h.2.2.1, h.2.2.2.1, h.2.2.2.2.1⟩ hM (cwV n h.2.2.2.2.1 hG hw hrc hrs hd (by rw [h.2.2.2.2.2.1]; exact hR)) ⟨XPre_blind, va_recv hg.1 hW (q0 := c) hc ((wl_get g σ hk).trans (by rw [he])), fun U hU hWm => ⟨rfl, by rw [hU]; exact hW, va_K.moved hWm.alike hg.1⟩⟩ rfl hn hl'.1 hst (lv_room (pc := pc) (ls := ls) (m := C.2.2.2.2.2.1) (rest := st) hcat) hdg ?_
  rw [h.2.2.2.2.2.1]
  exact ⟨h.2.2.2.2.2.2.1, h.2.2.2.2.2.2.2⟩
theorem x_callS {σ' : St} {rv : Option Value} {y : MethodName} {bytes : ByteArray} {maxL n index : Nat} {ret : Option FieldType} {ws ws' : List Cond} {rm : Room} {As st : List Value} (h : XOk C cc own Ts R0) (hg : XG C g) (hM : Met C.2.1 y ws rm (va_Pc As (XPre g σ)) (XQ g rv σ') 0 0 (cA g)) (hG : GoodIn Ts (va_wsS own index y ws)) (hw : ws = Cond.code y bytes maxL ret :: ws') (hrc : rm.cells = 0) (hrs : rm.slots = 0) (hd : y.cls ≠ "java/lang/invoke/MethodHandle" ∧ y.cls ≠ "java/lang/invoke/VarHandle" ∧ (parseMethodDescriptor y.desc).map (fun d => d.parameters.length) = some n) (hR : rm.frames + 1 ≤ R0.frames ∧ 8 + (maxL + 11) + rm.locals ≤ R0.locals) (hn : As.length = n) (hst : st = As.reverse ++ rest) (hcat : (rest.map fun v => v.category).sum ≤ 8) (hdg : decode cc pc = .ok (.invokestatic index, 3)) (k : Xs C (wW g) Q σ' (pc + 3) lv (rv.toList ++ rest)) : Xs C (wW g) Q σ pc lv st := by
  refine x_run (A0 := As.toArray) (gA' := g) hg (fun H locs ls hW hl' => ?_) k
  refine va_runS (Ts := Ts) ⟨h.1, h.2.1, h.2.2.1, h.2.2.2.1, h.2.2.2.2.1⟩ hM (va_cwS n h.2.2.2.2.1 hG hw hrc hrs hd (by rw [h.2.2.2.2.2.1]; exact hR)) ⟨XPre_blind, fun U hU hWm => ⟨rfl, by rw [hU]; exact hW, va_K.moved hWm.alike hg.1⟩⟩ rfl hn hl'.1 hst (lv_room (pc := pc) (ls := ls) (m := C.2.2.2.2.2.1) (rest := st) hcat) hdg ?_
  rw [h.2.2.2.2.2.1]
  exact ⟨h.2.2.2.2.2.2.1, h.2.2.2.2.2.2.2⟩
/-- a static method that touches no cell -/
theorem x_callP {rv : Option Value} {y : MethodName} {bytes : ByteArray} {maxL n index : Nat} {ret : Option FieldType} {ws ws' : List Cond} {rm : Room} {As st : List Value} (h : XOk C cc own Ts R0) (hM : Met C.2.1 y ws rm (va_Pc As (fun _ => True)) (XQp rv) 0 0 (fun _ => False)) (hG : GoodIn Ts (va_wsS own index y ws)) (hw : ws = Cond.code y bytes maxL ret :: ws') (hrc : rm.cells = 0) (hrs : rm.slots = 0) (hd : y.cls ≠ "java/lang/invoke/MethodHandle" ∧ y.cls ≠ "java/lang/invoke/VarHandle" ∧ (parseMethodDescriptor y.desc).map (fun d => d.parameters.length) = some n) (hR : rm.frames + 1 ≤ R0.frames ∧ 8 + (maxL + 11) + rm.locals ≤ R0.locals) (hn : As.length = n) (hst : st = As.reverse ++ rest) (hcat : (rest.map fun v => v.category).sum ≤ 8) (hdg : decode cc pc = .ok (.invokestatic index, 3)) (k : Xs C Wd Q σ (pc + 3) lv (rv.toList ++ rest)) : Xs C Wd Q σ pc lv st := by
  intro H locs ls hW hS hl' T hT X
  have hr : va_Run C.1 C.2.1 C.2.2.1 C.2.2.2.1 C.2.2.2.2.1 C.2.2.2.2.2.1 C.2.2.2.2.2.2.1 C.2.2.2.2.2.2.2.1 C.2.2.2.2.2.2.2.2.1 C.2.2.2.2.2.2.2.2.2.1 H locs C.2.2.2.2.2.2.2.2.2.2.1 C.2.2.2.2.2.2.2.2.2.2.2.1 0 0 (F0 C.2.2.2.2.2.1 pc ls st) rest (XQp rv As.toArray) (fun _ => False) := by
    refine va_runS (Ts := Ts) ⟨h.1, h.2.1, h.2.2.1, h.2.2.2.1, h.2.2.2.2.1⟩ hM (va_cwS n h.2.2.2.2.1 hG hw hrc hrs hd (by rw [h.2.2.2.2.2.1]; exact hR)) ⟨fun a U gg mk hh => ⟨hh.1, trivial⟩, fun U hU hWm => ⟨rfl, trivial⟩⟩ rfl hn hl'.1 hst (lv_room (pc := pc) (ls := ls) (m := C.2.2.2.2.2.1) (rest := st) hcat) hdg ?_
    rw [h.2.2.2.2.2.1]
    exact ⟨h.2.2.2.2.2.2.1, h.2.2.2.2.2.2.2⟩
  obtain ⟨v, st₀, t, T', L, h0, X', hL, e1, e2, ⟨hv, hP⟩, st'⟩ := hr T hT X
  cases hv
  have hH : T'.heap = H := by rw [e1, hP, h0]
  obtain ⟨t2, a1, b1⟩ := k H locs ls hW hS hl' T' hH (Stand.forget X' (fun q h => (hL q h).elim))
  exact ⟨t2, st' t2 a1, b1⟩
theorem x_callVi {σ' : St} {r : Int32} {y : MethodName} {bytes : ByteArray} {maxL n index ci c : Nat} {ret : Option FieldType} {rm : Room} {CN : String} {T : u_T} {N : Nat} {fs As st : List Value} (h : XOk C cc own tG R0) (hg : XG C g) (hM : Met C.2.1 y (wT y bytes maxL ret) rm (va_Pc (.ref (gA g c) :: As) (XPre g σ)) (XQ g (some (.int r)) σ') 0 0 (cA g)) (hml : Cond.methodLink own index y ∈ tG) (hbi : biV CN y bytes maxL ret) (hrc : rm.cells = 0) (hrs : rm.slots = 0) (hd : y.cls = CN ∧ y.cls ≠ "java/lang/invoke/MethodHandle" ∧ y.cls ≠ "java/lang/invoke/VarHandle" ∧ (parseMethodDescriptor y.desc).map (fun d => d.parameters.length) = some n) (hR : rm.frames + 1 ≤ R0.frames ∧ 8 + (maxL + 11) + rm.locals ≤ R0.locals) (hk : c < 87) (he : cE g c (σ c) = .inr (ci, fs)) (hc : vwCl[ci]? = some (CN, T, N)) (hn : As.length = n) (hst : st = As.reverse ++ .ref (gA g c) :: rest) (hcat : (rest.map fun v => v.category).sum ≤ 8) (hdg : decode cc pc = .ok (.invokevirtual index, 3)) (k : Xs C (wW g) Q σ' (pc + 3) lv (.int r :: rest)) : Xs C (wW g) Q σ pc lv st :=
  x_callV (rv := some (.int r)) h hg hM (gdV hml hbi) rfl hrc hrs hd hR hk he hc hn hst hcat hdg k
theorem x_callVv {σ' : St} {y : MethodName} {bytes : ByteArray} {maxL n index ci c : Nat} {ret : Option FieldType} {rm : Room} {CN : String} {T : u_T} {N : Nat} {fs As st : List Value} (h : XOk C cc own tG R0) (hg : XG C g) (hM : Met C.2.1 y (wT y bytes maxL ret) rm (va_Pc (.ref (gA g c) :: As) (XPre g σ)) (XQ g (none) σ') 0 0 (cA g)) (hml : Cond.methodLink own index y ∈ tG) (hbi : biV CN y bytes maxL ret) (hrc : rm.cells = 0) (hrs : rm.slots = 0) (hd : y.cls = CN ∧ y.cls ≠ "java/lang/invoke/MethodHandle" ∧ y.cls ≠ "java/lang/invoke/VarHandle" ∧ (parseMethodDescriptor y.desc).map (fun d => d.parameters.length) = some n) (hR : rm.frames + 1 ≤ R0.frames ∧ 8 + (maxL + 11) + rm.locals ≤ R0.locals) (hk : c < 87) (he : cE g c (σ c) = .inr (ci, fs)) (hc : vwCl[ci]? = some (CN, T, N)) (hn : As.length = n) (hst : st = As.reverse ++ .ref (gA g c) :: rest) (hcat : (rest.map fun v => v.category).sum ≤ 8) (hdg : decode cc pc = .ok (.invokevirtual index, 3)) (k : Xs C (wW g) Q σ' (pc + 3) lv (rest)) : Xs C (wW g) Q σ pc lv st :=
  x_callV (rv := none) h hg hM (gdV hml hbi) rfl hrc hrs hd hR hk he hc hn hst hcat hdg k
theorem x_callVl {σ' : St} {r : Int64} {y : MethodName} {bytes : ByteArray} {maxL n index ci c : Nat} {ret : Option FieldType} {rm : Room} {CN : String} {T : u_T} {N : Nat} {fs As st : List Value} (h : XOk C cc own tG R0) (hg : XG C g) (hM : Met C.2.1 y (wT y bytes maxL ret) rm (va_Pc (.ref (gA g c) :: As) (XPre g σ)) (XQ g (some (.long r)) σ') 0 0 (cA g)) (hml : Cond.methodLink own index y ∈ tG) (hbi : biV CN y bytes maxL ret) (hrc : rm.cells = 0) (hrs : rm.slots = 0) (hd : y.cls = CN ∧ y.cls ≠ "java/lang/invoke/MethodHandle" ∧ y.cls ≠ "java/lang/invoke/VarHandle" ∧ (parseMethodDescriptor y.desc).map (fun d => d.parameters.length) = some n) (hR : rm.frames + 1 ≤ R0.frames ∧ 8 + (maxL + 11) + rm.locals ≤ R0.locals) (hk : c < 87) (he : cE g c (σ c) = .inr (ci, fs)) (hc : vwCl[ci]? = some (CN, T, N)) (hn : As.length = n) (hst : st = As.reverse ++ .ref (gA g c) :: rest) (hcat : (rest.map fun v => v.category).sum ≤ 8) (hdg : decode cc pc = .ok (.invokevirtual index, 3)) (k : Xs C (wW g) Q σ' (pc + 3) lv (.long r :: rest)) : Xs C (wW g) Q σ pc lv st :=
  x_callV (rv := some (.long r)) h hg hM (gdV hml hbi) rfl hrc hrs hd hR hk he hc hn hst hcat hdg k
theorem x_callVq {σ' : St} {r : Option Nat} {y : MethodName} {bytes : ByteArray} {maxL n index ci c : Nat} {ret : Option FieldType} {rm : Room} {CN : String} {T : u_T} {N : Nat} {fs As st : List Value} (h : XOk C cc own tG R0) (hg : XG C g) (hM : Met C.2.1 y (wT y bytes maxL ret) rm (va_Pc (.ref (gA g c) :: As) (XPre g σ)) (XQ g (some (rfV g r)) σ') 0 0 (cA g)) (hml : Cond.methodLink own index y ∈ tG) (hbi : biV CN y bytes maxL ret) (hrc : rm.cells = 0) (hrs : rm.slots = 0) (hd : y.cls = CN ∧ y.cls ≠ "java/lang/invoke/MethodHandle" ∧ y.cls ≠ "java/lang/invoke/VarHandle" ∧ (parseMethodDescriptor y.desc).map (fun d => d.parameters.length) = some n) (hR : rm.frames + 1 ≤ R0.frames ∧ 8 + (maxL + 11) + rm.locals ≤ R0.locals) (hk : c < 87) (he : cE g c (σ c) = .inr (ci, fs)) (hc : vwCl[ci]? = some (CN, T, N)) (hn : As.length = n) (hst : st = As.reverse ++ .ref (gA g c) :: rest) (hcat : (rest.map fun v => v.category).sum ≤ 8) (hdg : decode cc pc = .ok (.invokevirtual index, 3)) (k : Xs C (wW g) Q σ' (pc + 3) lv (rfV g r :: rest)) : Xs C (wW g) Q σ pc lv st :=
  x_callV (rv := some (rfV g r)) h hg hM (gdV hml hbi) rfl hrc hrs hd hR hk he hc hn hst hcat hdg k
theorem x_callSi {σ' : St} {r : Int32} {y : MethodName} {bytes : ByteArray} {maxL n index : Nat} {ret : Option FieldType} {rm : Room} {As st : List Value} (h : XOk C cc own tG R0) (hg : XG C g) (hM : Met C.2.1 y (wT y bytes maxL ret) rm (va_Pc As (XPre g σ)) (XQ g (some (.int r)) σ') 0 0 (cA g)) (hml : Cond.methodLink own index y ∈ tG) (hbi : biS y bytes maxL ret) (hrc : rm.cells = 0) (hrs : rm.slots = 0) (hd : y.cls ≠ "java/lang/invoke/MethodHandle" ∧ y.cls ≠ "java/lang/invoke/VarHandle" ∧ (parseMethodDescriptor y.desc).map (fun d => d.parameters.length) = some n) (hR : rm.frames + 1 ≤ R0.frames ∧ 8 + (maxL + 11) + rm.locals ≤ R0.locals) (hn : As.length = n) (hst : st = As.reverse ++ rest) (hcat : (rest.map fun v => v.category).sum ≤ 8) (hdg : decode cc pc = .ok (.invokestatic index, 3)) (k : Xs C (wW g) Q σ' (pc + 3) lv (.int r :: rest)) : Xs C (wW g) Q σ pc lv st :=
  x_callS (rv := some (.int r)) h hg hM (gdS hml hbi) rfl hrc hrs hd hR hn hst hcat hdg k
theorem x_callSv {σ' : St} {y : MethodName} {bytes : ByteArray} {maxL n index : Nat} {ret : Option FieldType} {rm : Room} {As st : List Value} (h : XOk C cc own tG R0) (hg : XG C g) (hM : Met C.2.1 y (wT y bytes maxL ret) rm (va_Pc As (XPre g σ)) (XQ g (none) σ') 0 0 (cA g)) (hml : Cond.methodLink own index y ∈ tG) (hbi : biS y bytes maxL ret) (hrc : rm.cells = 0) (hrs : rm.slots = 0) (hd : y.cls ≠ "java/lang/invoke/MethodHandle" ∧ y.cls ≠ "java/lang/invoke/VarHandle" ∧ (parseMethodDescriptor y.desc).map (fun d => d.parameters.length) = some n) (hR : rm.frames + 1 ≤ R0.frames ∧ 8 + (maxL + 11) + rm.locals ≤ R0.locals) (hn : As.length = n) (hst : st = As.reverse ++ rest) (hcat : (rest.map fun v => v.category).sum ≤ 8) (hdg : decode cc pc = .ok (.invokestatic index, 3)) (k : Xs C (wW g) Q σ' (pc + 3) lv (rest)) : Xs C (wW g) Q σ pc lv st :=
  x_callS (rv := none) h hg hM (gdS hml hbi) rfl hrc hrs hd hR hn hst hcat hdg k
theorem x_callPi {r : Int32} {y : MethodName} {bytes : ByteArray} {maxL n index : Nat} {ret : Option FieldType} {rm : Room} {As st : List Value} (h : XOk C cc own tG R0) (hM : Met C.2.1 y (wT y bytes maxL ret) rm (va_Pc As (fun _ => True)) (XQp (some (.int r))) 0 0 (fun _ => False)) (hml : Cond.methodLink own index y ∈ tG) (hbi : biS y bytes maxL ret) (hrc : rm.cells = 0) (hrs : rm.slots = 0) (hd : y.cls ≠ "java/lang/invoke/MethodHandle" ∧ y.cls ≠ "java/lang/invoke/VarHandle" ∧ (parseMethodDescriptor y.desc).map (fun d => d.parameters.length) = some n) (hR : rm.frames + 1 ≤ R0.frames ∧ 8 + (maxL + 11) + rm.locals ≤ R0.locals) (hn : As.length = n) (hst : st = As.reverse ++ rest) (hcat : (rest.map fun v => v.category).sum ≤ 8) (hdg : decode cc pc = .ok (.invokestatic index, 3)) (k : Xs C Wd Q σ (pc + 3) lv (.int r :: rest)) : Xs C Wd Q σ pc lv st :=
  x_callP (rv := some (.int r)) h hM (gdS hml hbi) rfl hrc hrs hd hR hn hst hcat hdg k
theorem x_callPv {y : MethodName} {bytes : ByteArray} {maxL n index : Nat} {ret : Option FieldType} {rm : Room} {As st : List Value} (h : XOk C cc own tG R0) (hM : Met C.2.1 y (wT y bytes maxL ret) rm (va_Pc As (fun _ => True)) (XQp (none)) 0 0 (fun _ => False)) (hml : Cond.methodLink own index y ∈ tG) (hbi : biS y bytes maxL ret) (hrc : rm.cells = 0) (hrs : rm.slots = 0) (hd : y.cls ≠ "java/lang/invoke/MethodHandle" ∧ y.cls ≠ "java/lang/invoke/VarHandle" ∧ (parseMethodDescriptor y.desc).map (fun d => d.parameters.length) = some n) (hR : rm.frames + 1 ≤ R0.frames ∧ 8 + (maxL + 11) + rm.locals ≤ R0.locals) (hn : As.length = n) (hst : st = As.reverse ++ rest) (hcat : (rest.map fun v => v.category).sum ≤ 8) (hdg : decode cc pc = .ok (.invokestatic index, 3)) (k : Xs C Wd Q σ (pc + 3) lv (rest)) : Xs C Wd Q σ pc lv st :=
  x_callP (rv := none) h hM (gdS hml hbi) rfl hrc hrs hd hR hn hst hcat hdg k
end XR
/-- a method's contract out of its walk -/
theorem X_met {l : Launch} {y : MethodName} {rm : Room} {cc : ByteArray} {maxL : Nat} {ret : Option FieldType} {g : cG} {σ σ' : St} {rv : Option Value} {av : List Value} {lv : List (Nat × Value)} (own : String) (hi : gInj g) (hy : plainName y.cls = true) (ho : y.cls = own) (hn : (lg_sl av).length ≤ maxL) (hlv : lv_args 0 av = lv)
    (body : ∀ (C : XC) (Q : State → Prop), C.2.1 = l → XOk C cc own tG rm → XG C g → C.2.2.2.2.2.2.2.2.2.2.2.2.1 = maxL → XEnd C ret Q (XQ g rv σ') (cA g) → Xs C (wW g) Q σ 0 lv []) : Met l y (wT y cc maxL ret) rm (va_Pc av (XPre g σ)) (XQ g rv σ') 0 0 (cA g) := by
  refine Met.ofW (cc := cc) (maxL := maxL) (ret := ret) hy rfl ?_
  intro p e s m args below meth c s₁ B hml hv
  obtain ⟨rfl, hP, hK⟩ := hv
  have hts : ∀ w ∈ tG, w.before av.toArray s = true := fun w hw => atoms_spec (ws := wT y cc maxL ret) B.pre w (List.mem_cons_of_mem _ hw)
  have hown : s.vm.findClass own = some m.cls := by rw [← ho]; exact findClass_of_methodNamed B.named
  have hl := lv_entry av (n := maxL) hn
  rw [lg_entry_eq]
  rw [hlv] at hl
  exact body (p, l, e, rm, s, m, av.toArray, below, meth, c, 0, 0, maxL, cA g) _ rfl ⟨B.exec, B.bytes, hml, hown, hts, rfl, Nat.zero_le _, Nat.zero_le _⟩ ⟨hK, hi, rfl⟩ rfl ⟨B.returns, B.notSynchronized, rfl, rfl⟩ s.heap [] _ hP va_S.rf hl
theorem X_metP {l : Launch} {y : MethodName} {rm : Room} {cc : ByteArray} {maxL : Nat} {ret : Option FieldType} {rv : Option Value} {av : List Value} {lv : List (Nat × Value)} (own : String) (hy : plainName y.cls = true) (ho : y.cls = own) (hn : (lg_sl av).length ≤ maxL) (hlv : lv_args 0 av = lv)
    (body : ∀ (C : XC) (Q : State → Prop) (H0 : Heap) (σ : St), C.2.1 = l → XOk C cc own tG rm → H0 = C.2.2.2.2.1.heap → C.2.2.2.2.2.2.2.2.2.2.2.2.1 = maxL → XEnd C ret Q (XQp rv) (fun _ => False) → Xs C (fun _ H => H = H0) Q σ 0 lv []) : Met l y (wT y cc maxL ret) rm (va_Pc av (fun _ => True)) (XQp rv) 0 0 (fun _ => False) := by
  refine Met.ofW (cc := cc) (maxL := maxL) (ret := ret) hy rfl ?_
  intro p e s m args below meth c s₁ B hml hv
  obtain ⟨rfl, -⟩ := hv
  have hts : ∀ w ∈ tG, w.before av.toArray s = true := fun w hw => atoms_spec (ws := wT y cc maxL ret) B.pre w (List.mem_cons_of_mem _ hw)
  have hown : s.vm.findClass own = some m.cls := by rw [← ho]; exact findClass_of_methodNamed B.named
  have hl := lv_entry av (n := maxL) hn
  rw [lg_entry_eq]
  rw [hlv] at hl
  exact body (p, l, e, rm, s, m, av.toArray, below, meth, c, 0, 0, maxL, fun _ => False) _ s.heap (fun _ _ => 0) rfl ⟨B.exec, B.bytes, hml, hown, hts, rfl, Nat.zero_le _, Nat.zero_le _⟩ rfl rfl ⟨B.returns, B.notSynchronized, rfl, rfl⟩ s.heap [] _ rfl va_S.rf hl
theorem plX0 : plainName RX0 = true := by decide +kernel
theorem plX1 : plainName RX1 = true := by decide +kernel
theorem plX2 : plainName RX2 = true := by decide +kernel
theorem plX3 : plainName RX3 = true := by decide +kernel
theorem plX4 : plainName RX4 = true := by decide +kernel
theorem plX5 : plainName RX5 = true := by decide +kernel
theorem plX6 : plainName RX6 = true := by decide +kernel
theorem plX7 : plainName RX7 = true := by decide +kernel
theorem plX8 : plainName RX8 = true := by decide +kernel
theorem plX9 : plainName RX9 = true := by decide +kernel
theorem plJ6 : plainName RJ6 = true := by decide +kernel
theorem plL : plainName RL = true := by decide +kernel
theorem c_row {l : Launch} {g : cG} {σ : St} : True := trivial
/-! Rows.at, put, copy -/
def rAt (n : Nat) (f : Nat → Int32) (i : Int32) : Int32 := if i < 0 then 0 else if Int32.ofNat n ≤ i then 0 else f i.toNatClampNeg
def rPut (σ : St) (k n : Nat) (i v : Int32) : St := if i < 0 then σ else if Int32.ofNat n ≤ i then σ else up σ k i.toNatClampNeg v
def rCopy (σ : St) (k n d j : Nat) : St := if Int32.ofNat n = Int32.ofNat j then va_up σ d (va_cpy (σ k) (σ d) 0 0 n) else σ
theorem vp_in_ge {i : Int32} {n : Nat} (hn : n < 2 ^ 31) (h1 : ¬ i < 0) (h2 : ¬ Int32.ofNat n ≤ i) : vp_in i n := by
  rcases pk_ix i hn with h | h | ⟨j, hj, rfl⟩
  · exact absurd h h1
  · exact absurd h h2
  · exact vp_in_nI hj hn
abbrev rmX5_at : Room := { frames := 0, cells := 0, slots := 0, locals := 0 }
abbrev rmX5_put : Room := { frames := 0, cells := 0, slots := 0, locals := 0 }
abbrev rmX5_copy : Room := { frames := 1, cells := 0, slots := 0, locals := 40 }
set_option maxHeartbeats 4000000 in
theorem c_X5_at (l : Launch) {g : cG} (hi : gInj g) (σ : St) {k n : Nat} (ha : isA k n) (i : Int32) : Met l yX5_at (wT yX5_at cX5_at 2 (some .int)) rmX5_at (va_Pc [.ref (gA g k), .int i] (XPre g σ)) (XQ g (some (.int (rAt n (σ k) i))) σ) 0 0 (cA g) := by
  refine X_met RX5 hi plX5 rfl (Nat.le_of_ble_eq_true rfl) rfl (fun C Q _ h hg hL hr => ?_)
  refine x_aload_n h dX5_at_0 rfl 0 rfl (q := 1) rfl ?_
  refine x_ifnull h dX5_at_1 (q := 4) rfl ?_
  refine x_iload_n h dX5_at_4 rfl 1 rfl (q := 5) rfl ?_
  refine x_if_lt (tgt := 20) h dX5_at_5 (by decide) (q := 8) rfl (rfl : rAt n (σ k) i = _) (fun hc hf => ?_) (fun hc hf => ?_)
  · refine x_iconst (v := 0) h dX5_at_20 (by decide) (q := 21) rfl ?_
    rw [← hf] at hr
    exact x_iret h hg hr dX5_at_21
  · refine x_iload_n h dX5_at_8 rfl 1 rfl (q := 9) rfl ?_
    refine x_aload_n h dX5_at_9 rfl 0 rfl (q := 10) rfl ?_
    refine x_alen h hg ha rfl dX5_at_10 (q := 11) rfl ?_
    refine x_icmp_ge (tgt := 20) h dX5_at_11 (by decide) (q := 14) rfl hf (fun hc2 hf => ?_) (fun hc2 hf => ?_)
    · refine x_iconst (v := 0) h dX5_at_20 (by decide) (q := 21) rfl ?_
      rw [← hf] at hr
      exact x_iret h hg hr dX5_at_21
    · refine x_aload_n h dX5_at_14 rfl 0 rfl (q := 15) rfl ?_
      refine x_iload_n h dX5_at_15 rfl 1 rfl (q := 16) rfl ?_
      refine x_iald h hg ha (vp_in_ge ha.2.1 hc hc2) rfl dX5_at_16 (q := 17) rfl ?_
      refine x_goto (q := 21) h dX5_at_17 (by decide) ?_
      rw [← hf] at hr
      exact x_iret h hg hr dX5_at_21
set_option maxHeartbeats 4000000 in
theorem c_X5_put (l : Launch) {g : cG} (hi : gInj g) (σ : St) {k n : Nat} (ha : isA k n) (i v : Int32) : Met l yX5_put (wT yX5_put cX5_put 3 none) rmX5_put (va_Pc [.ref (gA g k), .int i, .int v] (XPre g σ)) (XQ g none (rPut σ k n i v)) 0 0 (cA g) := by
  refine X_met RX5 hi plX5 rfl (Nat.le_of_ble_eq_true rfl) rfl (fun C Q _ h hg hL hr => ?_)
  refine x_aload_n h dX5_put_0 rfl 0 rfl (q := 1) rfl ?_
  refine x_ifnull h dX5_put_1 (q := 4) rfl ?_
  refine x_iload_n h dX5_put_4 rfl 1 rfl (q := 5) rfl ?_
  refine x_if_lt (tgt := 18) h dX5_put_5 (by decide) (q := 8) rfl (rfl : rPut σ k n i v = _) (fun hc hf => ?_) (fun hc hf => ?_)
  · rw [← hf] at hr
    exact x_vret h hg hr dX5_put_18
  · refine x_iload_n h dX5_put_8 rfl 1 rfl (q := 9) rfl ?_
    refine x_aload_n h dX5_put_9 rfl 0 rfl (q := 10) rfl ?_
    refine x_alen h hg ha rfl dX5_put_10 (q := 11) rfl ?_
    refine x_icmp_ge (tgt := 18) h dX5_put_11 (by decide) (q := 14) rfl hf (fun hc2 hf => ?_) (fun hc2 hf => ?_)
    · rw [← hf] at hr
      exact x_vret h hg hr dX5_put_18
    · refine x_aload_n h dX5_put_14 rfl 0 rfl (q := 15) rfl ?_
      refine x_iload_n h dX5_put_15 rfl 1 rfl (q := 16) rfl ?_
      refine x_iload_n h dX5_put_16 rfl 2 rfl (q := 17) rfl ?_
      refine x_iast h hg ha (vp_in_ge ha.2.1 hc hc2) rfl dX5_put_17 (q := 18) rfl ?_
      rw [← hf] at hr
      exact x_vret h hg hr dX5_put_18
set_option maxHeartbeats 4000000 in
theorem c_X5_copy (l : Launch) {g : cG} (hi : gInj g) (σ : St) {k n d j : Nat} (ha : isA k n) (hb : isA d j) : Met l yX5_copy (wT yX5_copy cX5_copy 2 none) rmX5_copy (va_Pc [.ref (gA g k), .ref (gA g d)] (XPre g σ)) (XQ g none (rCopy σ k n d j)) 0 0 (cA g) := by
  refine X_met RX5 hi plX5 rfl (Nat.le_of_ble_eq_true rfl) rfl (fun C Q _ h hg hL hr => ?_)
  refine x_aload_n h dX5_copy_0 rfl 0 rfl (q := 1) rfl ?_
  refine x_ifnull h dX5_copy_1 (q := 4) rfl ?_
  refine x_aload_n h dX5_copy_4 rfl 1 rfl (q := 5) rfl ?_
  refine x_ifnull h dX5_copy_5 (q := 8) rfl ?_
  refine x_aload_n h dX5_copy_8 rfl 0 rfl (q := 9) rfl ?_
  refine x_alen h hg ha rfl dX5_copy_9 (q := 10) rfl ?_
  refine x_aload_n h dX5_copy_10 rfl 1 rfl (q := 11) rfl ?_
  refine x_alen h hg hb rfl dX5_copy_11 (q := 12) rfl ?_
  refine x_icmp_ne (tgt := 24) h dX5_copy_12 (by decide) (q := 15) rfl (rfl : rCopy σ k n d j = _) (fun hc hf => ?_) (fun hc hf => ?_)
  · rw [← hf] at hr
    exact x_vret h hg hr dX5_copy_24
  · have hnj : n = j := (nI_eq ha.2.1 hb.2.1).mp hc
    subst hnj
    refine x_aload_n h dX5_copy_15 rfl 0 rfl (q := 16) rfl ?_
    refine x_iconst (v := 0) h dX5_copy_16 (by decide) (q := 17) rfl ?_
    refine x_aload_n h dX5_copy_17 rfl 1 rfl (q := 18) rfl ?_
    refine x_iconst (v := 0) h dX5_copy_18 (by decide) (q := 19) rfl ?_
    refine x_aload_n h dX5_copy_19 rfl 0 rfl (q := 20) rfl ?_
    refine x_alen h hg ha rfl dX5_copy_20 (q := 21) rfl ?_
    refine x_copy h hg ml_X5_7 na_arr st_arr ki_System ⟨Nat.le_of_ble_eq_true rfl, Nat.le_of_ble_eq_true rfl⟩ ha hb dX5_copy_21 ?_
    rw [← hf] at hr
    exact x_vret h hg hr dX5_copy_24

theorem a_1 : isA 1 12 := ⟨by decide, by decide, fun g f => cE_1 g f⟩
theorem a_2 : isA 2 48 := ⟨by decide, by decide, fun g f => cE_2 g f⟩
theorem a_3 : isA 3 48 := ⟨by decide, by decide, fun g f => cE_3 g f⟩
theorem a_4 : isA 4 972 := ⟨by decide, by decide, fun g f => cE_4 g f⟩
theorem a_70 : isA 70 1296 := ⟨by decide, by decide, fun g f => cE_70 g f⟩
theorem a_71 : isA 71 12 := ⟨by decide, by decide, fun g f => cE_71 g f⟩
theorem a_72 : isA 72 81 := ⟨by decide, by decide, fun g f => cE_72 g f⟩
theorem a_74 : isA 74 60 := ⟨by decide, by decide, fun g f => cE_74 g f⟩
theorem a_75 : isA 75 60 := ⟨by decide, by decide, fun g f => cE_75 g f⟩
theorem a_76 : isA 76 60 := ⟨by decide, by decide, fun g f => cE_76 g f⟩
theorem a_77 : isA 77 60 := ⟨by decide, by decide, fun g f => cE_77 g f⟩
theorem a_79 : isA 79 60 := ⟨by decide, by decide, fun g f => cE_79 g f⟩
theorem a_80 : isA 80 12 := ⟨by decide, by decide, fun g f => cE_80 g f⟩
theorem a_83 : isA 83 12 := ⟨by decide, by decide, fun g f => cE_83 g f⟩
theorem a_84 : isA 84 12 := ⟨by decide, by decide, fun g f => cE_84 g f⟩
theorem a_85 : isA 85 81 := ⟨by decide, by decide, fun g f => cE_85 g f⟩
theorem a_86 : isA 86 81 := ⟨by decide, by decide, fun g f => cE_86 g f⟩
theorem x_get_X9_65_0 {C : XC} {cc : ByteArray} {own : String} {Ts : List Cond} {R0 : Room} {g : cG} {Q : State → Prop} {σ : St} {lv : List (Nat × Value)} {rest : List Value} {pc index : Nat} (h : XOk C cc own Ts R0) (hg : XG C g) (hl : Cond.fieldLink own index "CoalitionChecker" "structure" "LCoalitionChecker$Structure;" ∈ Ts) (hin : ∀ w ∈ wsX90, w ∈ Ts) (hdg : decode cc pc = .ok (.getfield index, 3)) (k : Xs C (wW g) Q σ (pc + 3) lv (.ref (gA g 0) :: rest)) : Xs C (wW g) Q σ pc lv (.ref (gA g 65) :: rest) := x_get h hg (by decide) (cE_65 g _) (ci := 8) (CN := RX9) (T := TX9) (N := 9) rfl hin 0 (by decide) hl rfl rfl hdg k
theorem x_get_X9_65_1 {C : XC} {cc : ByteArray} {own : String} {Ts : List Cond} {R0 : Room} {g : cG} {Q : State → Prop} {σ : St} {lv : List (Nat × Value)} {rest : List Value} {pc index : Nat} (h : XOk C cc own Ts R0) (hg : XG C g) (hl : Cond.fieldLink own index "CoalitionChecker" "history" "LCoalitionChecker$History;" ∈ Ts) (hin : ∀ w ∈ wsX90, w ∈ Ts) (hdg : decode cc pc = .ok (.getfield index, 3)) (k : Xs C (wW g) Q σ (pc + 3) lv (.ref (gA g 67) :: rest)) : Xs C (wW g) Q σ pc lv (.ref (gA g 65) :: rest) := x_get h hg (by decide) (cE_65 g _) (ci := 8) (CN := RX9) (T := TX9) (N := 9) rfl hin 1 (by decide) hl rfl rfl hdg k
theorem x_get_X9_65_2 {C : XC} {cc : ByteArray} {own : String} {Ts : List Cond} {R0 : Room} {g : cG} {Q : State → Prop} {σ : St} {lv : List (Nat × Value)} {rest : List Value} {pc index : Nat} (h : XOk C cc own Ts R0) (hg : XG C g) (hl : Cond.fieldLink own index "CoalitionChecker" "steps" "LCoalitionChecker$Steps;" ∈ Ts) (hin : ∀ w ∈ wsX90, w ∈ Ts) (hdg : decode cc pc = .ok (.getfield index, 3)) (k : Xs C (wW g) Q σ (pc + 3) lv (.ref (gA g 69) :: rest)) : Xs C (wW g) Q σ pc lv (.ref (gA g 65) :: rest) := x_get h hg (by decide) (cE_65 g _) (ci := 8) (CN := RX9) (T := TX9) (N := 9) rfl hin 2 (by decide) hl rfl rfl hdg k
theorem x_get_X9_65_3 {C : XC} {cc : ByteArray} {own : String} {Ts : List Cond} {R0 : Room} {g : cG} {Q : State → Prop} {σ : St} {lv : List (Nat × Value)} {rest : List Value} {pc index : Nat} (h : XOk C cc own Ts R0) (hg : XG C g) (hl : Cond.fieldLink own index "CoalitionChecker" "reader" "LCoalitionChecker$Reader;" ∈ Ts) (hin : ∀ w ∈ wsX90, w ∈ Ts) (hdg : decode cc pc = .ok (.getfield index, 3)) (k : Xs C (wW g) Q σ (pc + 3) lv (.ref (gA g 73) :: rest)) : Xs C (wW g) Q σ pc lv (.ref (gA g 65) :: rest) := x_get h hg (by decide) (cE_65 g _) (ci := 8) (CN := RX9) (T := TX9) (N := 9) rfl hin 3 (by decide) hl rfl rfl hdg k
theorem x_get_X9_65_4 {C : XC} {cc : ByteArray} {own : String} {Ts : List Cond} {R0 : Room} {g : cG} {Q : State → Prop} {σ : St} {lv : List (Nat × Value)} {rest : List Value} {pc index : Nat} (h : XOk C cc own Ts R0) (hg : XG C g) (hl : Cond.fieldLink own index "CoalitionChecker" "meaning" "LCoalitionChecker$Meaning;" ∈ Ts) (hin : ∀ w ∈ wsX90, w ∈ Ts) (hdg : decode cc pc = .ok (.getfield index, 3)) (k : Xs C (wW g) Q σ (pc + 3) lv (.ref (gA g 78) :: rest)) : Xs C (wW g) Q σ pc lv (.ref (gA g 65) :: rest) := x_get h hg (by decide) (cE_65 g _) (ci := 8) (CN := RX9) (T := TX9) (N := 9) rfl hin 4 (by decide) hl rfl rfl hdg k
theorem x_get_X9_65_5 {C : XC} {cc : ByteArray} {own : String} {Ts : List Cond} {R0 : Room} {g : cG} {Q : State → Prop} {σ : St} {lv : List (Nat × Value)} {rest : List Value} {pc index : Nat} (h : XOk C cc own Ts R0) (hg : XG C g) (hl : Cond.fieldLink own index "CoalitionChecker" "tactics" "LCoalitionChecker$Tactics;" ∈ Ts) (hin : ∀ w ∈ wsX90, w ∈ Ts) (hdg : decode cc pc = .ok (.getfield index, 3)) (k : Xs C (wW g) Q σ (pc + 3) lv (.ref (gA g 81) :: rest)) : Xs C (wW g) Q σ pc lv (.ref (gA g 65) :: rest) := x_get h hg (by decide) (cE_65 g _) (ci := 8) (CN := RX9) (T := TX9) (N := 9) rfl hin 5 (by decide) hl rfl rfl hdg k
theorem x_get_X9_65_6 {C : XC} {cc : ByteArray} {own : String} {Ts : List Cond} {R0 : Room} {g : cG} {Q : State → Prop} {σ : St} {lv : List (Nat × Value)} {rest : List Value} {pc index : Nat} (h : XOk C cc own Ts R0) (hg : XG C g) (hl : Cond.fieldLink own index "CoalitionChecker" "likeness" "LCoalitionChecker$Likeness;" ∈ Ts) (hin : ∀ w ∈ wsX90, w ∈ Ts) (hdg : decode cc pc = .ok (.getfield index, 3)) (k : Xs C (wW g) Q σ (pc + 3) lv (.ref (gA g 82) :: rest)) : Xs C (wW g) Q σ pc lv (.ref (gA g 65) :: rest) := x_get h hg (by decide) (cE_65 g _) (ci := 8) (CN := RX9) (T := TX9) (N := 9) rfl hin 6 (by decide) hl rfl rfl hdg k
theorem x_get_X9_65_7 {C : XC} {cc : ByteArray} {own : String} {Ts : List Cond} {R0 : Room} {g : cG} {Q : State → Prop} {σ : St} {lv : List (Nat × Value)} {rest : List Value} {pc index : Nat} (h : XOk C cc own Ts R0) (hg : XG C g) (hl : Cond.fieldLink own index "CoalitionChecker" "kept" "[LCoalitionChecker$Formula;" ∈ Ts) (hin : ∀ w ∈ wsX90, w ∈ Ts) (hdg : decode cc pc = .ok (.getfield index, 3)) (k : Xs C (wW g) Q σ (pc + 3) lv (.ref (gA g 66) :: rest)) : Xs C (wW g) Q σ pc lv (.ref (gA g 65) :: rest) := x_get h hg (by decide) (cE_65 g _) (ci := 8) (CN := RX9) (T := TX9) (N := 9) rfl hin 7 (by decide) hl rfl rfl hdg k
theorem x_get_X9_65_8 {C : XC} {cc : ByteArray} {own : String} {Ts : List Cond} {R0 : Room} {g : cG} {Q : State → Prop} {σ : St} {lv : List (Nat × Value)} {rest : List Value} {pc index : Nat} (h : XOk C cc own Ts R0) (hg : XG C g) (hl : Cond.fieldLink own index "CoalitionChecker" "keptCount" "I" ∈ Ts) (hin : ∀ w ∈ wsX90, w ∈ Ts) (hdg : decode cc pc = .ok (.getfield index, 3)) (k : Xs C (wW g) Q σ (pc + 3) lv (.int (σ 65 8) :: rest)) : Xs C (wW g) Q σ pc lv (.ref (gA g 65) :: rest) := x_get h hg (by decide) (cE_65 g _) (ci := 8) (CN := RX9) (T := TX9) (N := 9) rfl hin 8 (by decide) hl rfl rfl hdg k
theorem x_put_X9_65_8 {C : XC} {cc : ByteArray} {own : String} {Ts : List Cond} {R0 : Room} {g : cG} {Q : State → Prop} {σ : St} {lv : List (Nat × Value)} {rest : List Value} {pc index : Nat} {v : Int32} (h : XOk C cc own Ts R0) (hg : XG C g) (hl : Cond.fieldLink own index "CoalitionChecker" "keptCount" "I" ∈ Ts) (hin : ∀ w ∈ wsX90, w ∈ Ts) (hdg : decode cc pc = .ok (.putfield index, 3)) (k : Xs C (wW g) Q (up σ 65 8 v) (pc + 3) lv rest) : Xs C (wW g) Q σ pc lv (.int v :: .ref (gA g 65) :: rest) := x_put h hg (by decide) (cE_65 g _) (ci := 8) (CN := RX9) (T := TX9) (N := 9) rfl hin tyX9 tyX9_ok nmX9 8 (by decide) hl rfl rfl (ty := .int) rfl rfl rfl (Nat.le_of_ble_eq_true rfl) (cE_65 g _) hdg k
theorem x_get_X1_67_0 {C : XC} {cc : ByteArray} {own : String} {Ts : List Cond} {R0 : Room} {g : cG} {Q : State → Prop} {σ : St} {lv : List (Nat × Value)} {rest : List Value} {pc index : Nat} (h : XOk C cc own Ts R0) (hg : XG C g) (hl : Cond.fieldLink own index "CoalitionChecker$History" "ring" "[LCoalitionChecker$Structure;" ∈ Ts) (hin : ∀ w ∈ wsX10, w ∈ Ts) (hdg : decode cc pc = .ok (.getfield index, 3)) (k : Xs C (wW g) Q σ (pc + 3) lv (.ref (gA g 68) :: rest)) : Xs C (wW g) Q σ pc lv (.ref (gA g 67) :: rest) := x_get h hg (by decide) (cE_67 g _) (ci := 1) (CN := RX1) (T := TX1) (N := 3) rfl hin 0 (by decide) hl rfl rfl hdg k
theorem x_get_X1_67_1 {C : XC} {cc : ByteArray} {own : String} {Ts : List Cond} {R0 : Room} {g : cG} {Q : State → Prop} {σ : St} {lv : List (Nat × Value)} {rest : List Value} {pc index : Nat} (h : XOk C cc own Ts R0) (hg : XG C g) (hl : Cond.fieldLink own index "CoalitionChecker$History" "oldest" "I" ∈ Ts) (hin : ∀ w ∈ wsX10, w ∈ Ts) (hdg : decode cc pc = .ok (.getfield index, 3)) (k : Xs C (wW g) Q σ (pc + 3) lv (.int (σ 67 1) :: rest)) : Xs C (wW g) Q σ pc lv (.ref (gA g 67) :: rest) := x_get h hg (by decide) (cE_67 g _) (ci := 1) (CN := RX1) (T := TX1) (N := 3) rfl hin 1 (by decide) hl rfl rfl hdg k
theorem x_put_X1_67_1 {C : XC} {cc : ByteArray} {own : String} {Ts : List Cond} {R0 : Room} {g : cG} {Q : State → Prop} {σ : St} {lv : List (Nat × Value)} {rest : List Value} {pc index : Nat} {v : Int32} (h : XOk C cc own Ts R0) (hg : XG C g) (hl : Cond.fieldLink own index "CoalitionChecker$History" "oldest" "I" ∈ Ts) (hin : ∀ w ∈ wsX10, w ∈ Ts) (hdg : decode cc pc = .ok (.putfield index, 3)) (k : Xs C (wW g) Q (up σ 67 1 v) (pc + 3) lv rest) : Xs C (wW g) Q σ pc lv (.int v :: .ref (gA g 67) :: rest) := x_put h hg (by decide) (cE_67 g _) (ci := 1) (CN := RX1) (T := TX1) (N := 3) rfl hin tyX1 tyX1_ok nmX1 1 (by decide) hl rfl rfl (ty := .int) rfl rfl rfl (Nat.le_of_ble_eq_true rfl) (cE_67 g _) hdg k
theorem x_get_X1_67_2 {C : XC} {cc : ByteArray} {own : String} {Ts : List Cond} {R0 : Room} {g : cG} {Q : State → Prop} {σ : St} {lv : List (Nat × Value)} {rest : List Value} {pc index : Nat} (h : XOk C cc own Ts R0) (hg : XG C g) (hl : Cond.fieldLink own index "CoalitionChecker$History" "count" "I" ∈ Ts) (hin : ∀ w ∈ wsX10, w ∈ Ts) (hdg : decode cc pc = .ok (.getfield index, 3)) (k : Xs C (wW g) Q σ (pc + 3) lv (.int (σ 67 2) :: rest)) : Xs C (wW g) Q σ pc lv (.ref (gA g 67) :: rest) := x_get h hg (by decide) (cE_67 g _) (ci := 1) (CN := RX1) (T := TX1) (N := 3) rfl hin 2 (by decide) hl rfl rfl hdg k
theorem x_put_X1_67_2 {C : XC} {cc : ByteArray} {own : String} {Ts : List Cond} {R0 : Room} {g : cG} {Q : State → Prop} {σ : St} {lv : List (Nat × Value)} {rest : List Value} {pc index : Nat} {v : Int32} (h : XOk C cc own Ts R0) (hg : XG C g) (hl : Cond.fieldLink own index "CoalitionChecker$History" "count" "I" ∈ Ts) (hin : ∀ w ∈ wsX10, w ∈ Ts) (hdg : decode cc pc = .ok (.putfield index, 3)) (k : Xs C (wW g) Q (up σ 67 2 v) (pc + 3) lv rest) : Xs C (wW g) Q σ pc lv (.int v :: .ref (gA g 67) :: rest) := x_put h hg (by decide) (cE_67 g _) (ci := 1) (CN := RX1) (T := TX1) (N := 3) rfl hin tyX1 tyX1_ok nmX1 2 (by decide) hl rfl rfl (ty := .int) rfl rfl rfl (Nat.le_of_ble_eq_true rfl) (cE_67 g _) hdg k
theorem x_get_X6_69_0 {C : XC} {cc : ByteArray} {own : String} {Ts : List Cond} {R0 : Room} {g : cG} {Q : State → Prop} {σ : St} {lv : List (Nat × Value)} {rest : List Value} {pc index : Nat} (h : XOk C cc own Ts R0) (hg : XG C g) (hl : Cond.fieldLink own index "CoalitionChecker$Steps" "structure" "LCoalitionChecker$Structure;" ∈ Ts) (hin : ∀ w ∈ wsX60, w ∈ Ts) (hdg : decode cc pc = .ok (.getfield index, 3)) (k : Xs C (wW g) Q σ (pc + 3) lv (.ref (gA g 0) :: rest)) : Xs C (wW g) Q σ pc lv (.ref (gA g 69) :: rest) := x_get h hg (by decide) (cE_69 g _) (ci := 5) (CN := RX6) (T := TX6) (N := 4) rfl hin 0 (by decide) hl rfl rfl hdg k
theorem x_get_X6_69_1 {C : XC} {cc : ByteArray} {own : String} {Ts : List Cond} {R0 : Room} {g : cG} {Q : State → Prop} {σ : St} {lv : List (Nat × Value)} {rest : List Value} {pc index : Nat} (h : XOk C cc own Ts R0) (hg : XG C g) (hl : Cond.fieldLink own index "CoalitionChecker$Steps" "jointParts" "[I" ∈ Ts) (hin : ∀ w ∈ wsX60, w ∈ Ts) (hdg : decode cc pc = .ok (.getfield index, 3)) (k : Xs C (wW g) Q σ (pc + 3) lv (.ref (gA g 70) :: rest)) : Xs C (wW g) Q σ pc lv (.ref (gA g 69) :: rest) := x_get h hg (by decide) (cE_69 g _) (ci := 5) (CN := RX6) (T := TX6) (N := 4) rfl hin 1 (by decide) hl rfl rfl hdg k
theorem x_get_X6_69_2 {C : XC} {cc : ByteArray} {own : String} {Ts : List Cond} {R0 : Room} {g : cG} {Q : State → Prop} {σ : St} {lv : List (Nat × Value)} {rest : List Value} {pc index : Nat} (h : XOk C cc own Ts R0) (hg : XG C g) (hl : Cond.fieldLink own index "CoalitionChecker$Steps" "ownNames" "[I" ∈ Ts) (hin : ∀ w ∈ wsX60, w ∈ Ts) (hdg : decode cc pc = .ok (.getfield index, 3)) (k : Xs C (wW g) Q σ (pc + 3) lv (.ref (gA g 71) :: rest)) : Xs C (wW g) Q σ pc lv (.ref (gA g 69) :: rest) := x_get h hg (by decide) (cE_69 g _) (ci := 5) (CN := RX6) (T := TX6) (N := 4) rfl hin 2 (by decide) hl rfl rfl hdg k
theorem x_get_X6_69_3 {C : XC} {cc : ByteArray} {own : String} {Ts : List Cond} {R0 : Room} {g : cG} {Q : State → Prop} {σ : St} {lv : List (Nat × Value)} {rest : List Value} {pc index : Nat} (h : XOk C cc own Ts R0) (hg : XG C g) (hl : Cond.fieldLink own index "CoalitionChecker$Steps" "outcomes" "[I" ∈ Ts) (hin : ∀ w ∈ wsX60, w ∈ Ts) (hdg : decode cc pc = .ok (.getfield index, 3)) (k : Xs C (wW g) Q σ (pc + 3) lv (.ref (gA g 72) :: rest)) : Xs C (wW g) Q σ pc lv (.ref (gA g 69) :: rest) := x_get h hg (by decide) (cE_69 g _) (ci := 5) (CN := RX6) (T := TX6) (N := 4) rfl hin 3 (by decide) hl rfl rfl hdg k
theorem x_get_X4_73_0 {C : XC} {cc : ByteArray} {own : String} {Ts : List Cond} {R0 : Room} {g : cG} {Q : State → Prop} {σ : St} {lv : List (Nat × Value)} {rest : List Value} {pc index : Nat} (h : XOk C cc own Ts R0) (hg : XG C g) (hl : Cond.fieldLink own index "CoalitionChecker$Reader" "agentCount" "I" ∈ Ts) (hin : ∀ w ∈ wsX40, w ∈ Ts) (hdg : decode cc pc = .ok (.getfield index, 3)) (k : Xs C (wW g) Q σ (pc + 3) lv (.int (σ 73 0) :: rest)) : Xs C (wW g) Q σ pc lv (.ref (gA g 73) :: rest) := x_get h hg (by decide) (cE_73 g _) (ci := 4) (CN := RX4) (T := TX4) (N := 12) rfl hin 0 (by decide) hl rfl rfl hdg k
theorem x_get_X4_73_1 {C : XC} {cc : ByteArray} {own : String} {Ts : List Cond} {R0 : Room} {g : cG} {Q : State → Prop} {σ : St} {lv : List (Nat × Value)} {rest : List Value} {pc index : Nat} (h : XOk C cc own Ts R0) (hg : XG C g) (hl : Cond.fieldLink own index "CoalitionChecker$Reader" "text" "[I" ∈ Ts) (hin : ∀ w ∈ wsX40, w ∈ Ts) (hdg : decode cc pc = .ok (.getfield index, 3)) (k : Xs C (wW g) Q σ (pc + 3) lv (.ref (gA g 74) :: rest)) : Xs C (wW g) Q σ pc lv (.ref (gA g 73) :: rest) := x_get h hg (by decide) (cE_73 g _) (ci := 4) (CN := RX4) (T := TX4) (N := 12) rfl hin 1 (by decide) hl rfl rfl hdg k
theorem x_get_X4_73_2 {C : XC} {cc : ByteArray} {own : String} {Ts : List Cond} {R0 : Room} {g : cG} {Q : State → Prop} {σ : St} {lv : List (Nat × Value)} {rest : List Value} {pc index : Nat} (h : XOk C cc own Ts R0) (hg : XG C g) (hl : Cond.fieldLink own index "CoalitionChecker$Reader" "open" "[I" ∈ Ts) (hin : ∀ w ∈ wsX40, w ∈ Ts) (hdg : decode cc pc = .ok (.getfield index, 3)) (k : Xs C (wW g) Q σ (pc + 3) lv (.ref (gA g 75) :: rest)) : Xs C (wW g) Q σ pc lv (.ref (gA g 73) :: rest) := x_get h hg (by decide) (cE_73 g _) (ci := 4) (CN := RX4) (T := TX4) (N := 12) rfl hin 2 (by decide) hl rfl rfl hdg k
theorem x_get_X4_73_3 {C : XC} {cc : ByteArray} {own : String} {Ts : List Cond} {R0 : Room} {g : cG} {Q : State → Prop} {σ : St} {lv : List (Nat × Value)} {rest : List Value} {pc index : Nat} (h : XOk C cc own Ts R0) (hg : XG C g) (hl : Cond.fieldLink own index "CoalitionChecker$Reader" "openCoalitions" "[I" ∈ Ts) (hin : ∀ w ∈ wsX40, w ∈ Ts) (hdg : decode cc pc = .ok (.getfield index, 3)) (k : Xs C (wW g) Q σ (pc + 3) lv (.ref (gA g 76) :: rest)) : Xs C (wW g) Q σ pc lv (.ref (gA g 73) :: rest) := x_get h hg (by decide) (cE_73 g _) (ci := 4) (CN := RX4) (T := TX4) (N := 12) rfl hin 3 (by decide) hl rfl rfl hdg k
theorem x_get_X4_73_4 {C : XC} {cc : ByteArray} {own : String} {Ts : List Cond} {R0 : Room} {g : cG} {Q : State → Prop} {σ : St} {lv : List (Nat × Value)} {rest : List Value} {pc index : Nat} (h : XOk C cc own Ts R0) (hg : XG C g) (hl : Cond.fieldLink own index "CoalitionChecker$Reader" "operands" "[I" ∈ Ts) (hin : ∀ w ∈ wsX40, w ∈ Ts) (hdg : decode cc pc = .ok (.getfield index, 3)) (k : Xs C (wW g) Q σ (pc + 3) lv (.ref (gA g 77) :: rest)) : Xs C (wW g) Q σ pc lv (.ref (gA g 73) :: rest) := x_get h hg (by decide) (cE_73 g _) (ci := 4) (CN := RX4) (T := TX4) (N := 12) rfl hin 4 (by decide) hl rfl rfl hdg k
theorem x_get_X4_73_5 {C : XC} {cc : ByteArray} {own : String} {Ts : List Cond} {R0 : Room} {g : cG} {Q : State → Prop} {σ : St} {lv : List (Nat × Value)} {rest : List Value} {pc index : Nat} (h : XOk C cc own Ts R0) (hg : XG C g) (hl : Cond.fieldLink own index "CoalitionChecker$Reader" "length" "I" ∈ Ts) (hin : ∀ w ∈ wsX40, w ∈ Ts) (hdg : decode cc pc = .ok (.getfield index, 3)) (k : Xs C (wW g) Q σ (pc + 3) lv (.int (σ 73 5) :: rest)) : Xs C (wW g) Q σ pc lv (.ref (gA g 73) :: rest) := x_get h hg (by decide) (cE_73 g _) (ci := 4) (CN := RX4) (T := TX4) (N := 12) rfl hin 5 (by decide) hl rfl rfl hdg k
theorem x_put_X4_73_5 {C : XC} {cc : ByteArray} {own : String} {Ts : List Cond} {R0 : Room} {g : cG} {Q : State → Prop} {σ : St} {lv : List (Nat × Value)} {rest : List Value} {pc index : Nat} {v : Int32} (h : XOk C cc own Ts R0) (hg : XG C g) (hl : Cond.fieldLink own index "CoalitionChecker$Reader" "length" "I" ∈ Ts) (hin : ∀ w ∈ wsX40, w ∈ Ts) (hdg : decode cc pc = .ok (.putfield index, 3)) (k : Xs C (wW g) Q (up σ 73 5 v) (pc + 3) lv rest) : Xs C (wW g) Q σ pc lv (.int v :: .ref (gA g 73) :: rest) := x_put h hg (by decide) (cE_73 g _) (ci := 4) (CN := RX4) (T := TX4) (N := 12) rfl hin tyX4 tyX4_ok nmX4 5 (by decide) hl rfl rfl (ty := .int) rfl rfl rfl (Nat.le_of_ble_eq_true rfl) (cE_73 g _) hdg k
theorem x_get_X4_73_6 {C : XC} {cc : ByteArray} {own : String} {Ts : List Cond} {R0 : Room} {g : cG} {Q : State → Prop} {σ : St} {lv : List (Nat × Value)} {rest : List Value} {pc index : Nat} (h : XOk C cc own Ts R0) (hg : XG C g) (hl : Cond.fieldLink own index "CoalitionChecker$Reader" "openCount" "I" ∈ Ts) (hin : ∀ w ∈ wsX40, w ∈ Ts) (hdg : decode cc pc = .ok (.getfield index, 3)) (k : Xs C (wW g) Q σ (pc + 3) lv (.int (σ 73 6) :: rest)) : Xs C (wW g) Q σ pc lv (.ref (gA g 73) :: rest) := x_get h hg (by decide) (cE_73 g _) (ci := 4) (CN := RX4) (T := TX4) (N := 12) rfl hin 6 (by decide) hl rfl rfl hdg k
theorem x_put_X4_73_6 {C : XC} {cc : ByteArray} {own : String} {Ts : List Cond} {R0 : Room} {g : cG} {Q : State → Prop} {σ : St} {lv : List (Nat × Value)} {rest : List Value} {pc index : Nat} {v : Int32} (h : XOk C cc own Ts R0) (hg : XG C g) (hl : Cond.fieldLink own index "CoalitionChecker$Reader" "openCount" "I" ∈ Ts) (hin : ∀ w ∈ wsX40, w ∈ Ts) (hdg : decode cc pc = .ok (.putfield index, 3)) (k : Xs C (wW g) Q (up σ 73 6 v) (pc + 3) lv rest) : Xs C (wW g) Q σ pc lv (.int v :: .ref (gA g 73) :: rest) := x_put h hg (by decide) (cE_73 g _) (ci := 4) (CN := RX4) (T := TX4) (N := 12) rfl hin tyX4 tyX4_ok nmX4 6 (by decide) hl rfl rfl (ty := .int) rfl rfl rfl (Nat.le_of_ble_eq_true rfl) (cE_73 g _) hdg k
theorem x_get_X4_73_7 {C : XC} {cc : ByteArray} {own : String} {Ts : List Cond} {R0 : Room} {g : cG} {Q : State → Prop} {σ : St} {lv : List (Nat × Value)} {rest : List Value} {pc index : Nat} (h : XOk C cc own Ts R0) (hg : XG C g) (hl : Cond.fieldLink own index "CoalitionChecker$Reader" "operandCount" "I" ∈ Ts) (hin : ∀ w ∈ wsX40, w ∈ Ts) (hdg : decode cc pc = .ok (.getfield index, 3)) (k : Xs C (wW g) Q σ (pc + 3) lv (.int (σ 73 7) :: rest)) : Xs C (wW g) Q σ pc lv (.ref (gA g 73) :: rest) := x_get h hg (by decide) (cE_73 g _) (ci := 4) (CN := RX4) (T := TX4) (N := 12) rfl hin 7 (by decide) hl rfl rfl hdg k
theorem x_put_X4_73_7 {C : XC} {cc : ByteArray} {own : String} {Ts : List Cond} {R0 : Room} {g : cG} {Q : State → Prop} {σ : St} {lv : List (Nat × Value)} {rest : List Value} {pc index : Nat} {v : Int32} (h : XOk C cc own Ts R0) (hg : XG C g) (hl : Cond.fieldLink own index "CoalitionChecker$Reader" "operandCount" "I" ∈ Ts) (hin : ∀ w ∈ wsX40, w ∈ Ts) (hdg : decode cc pc = .ok (.putfield index, 3)) (k : Xs C (wW g) Q (up σ 73 7 v) (pc + 3) lv rest) : Xs C (wW g) Q σ pc lv (.int v :: .ref (gA g 73) :: rest) := x_put h hg (by decide) (cE_73 g _) (ci := 4) (CN := RX4) (T := TX4) (N := 12) rfl hin tyX4 tyX4_ok nmX4 7 (by decide) hl rfl rfl (ty := .int) rfl rfl rfl (Nat.le_of_ble_eq_true rfl) (cE_73 g _) hdg k
theorem x_get_X4_73_8 {C : XC} {cc : ByteArray} {own : String} {Ts : List Cond} {R0 : Room} {g : cG} {Q : State → Prop} {σ : St} {lv : List (Nat × Value)} {rest : List Value} {pc index : Nat} (h : XOk C cc own Ts R0) (hg : XG C g) (hl : Cond.fieldLink own index "CoalitionChecker$Reader" "mode" "I" ∈ Ts) (hin : ∀ w ∈ wsX40, w ∈ Ts) (hdg : decode cc pc = .ok (.getfield index, 3)) (k : Xs C (wW g) Q σ (pc + 3) lv (.int (σ 73 8) :: rest)) : Xs C (wW g) Q σ pc lv (.ref (gA g 73) :: rest) := x_get h hg (by decide) (cE_73 g _) (ci := 4) (CN := RX4) (T := TX4) (N := 12) rfl hin 8 (by decide) hl rfl rfl hdg k
theorem x_put_X4_73_8 {C : XC} {cc : ByteArray} {own : String} {Ts : List Cond} {R0 : Room} {g : cG} {Q : State → Prop} {σ : St} {lv : List (Nat × Value)} {rest : List Value} {pc index : Nat} {v : Int32} (h : XOk C cc own Ts R0) (hg : XG C g) (hl : Cond.fieldLink own index "CoalitionChecker$Reader" "mode" "I" ∈ Ts) (hin : ∀ w ∈ wsX40, w ∈ Ts) (hdg : decode cc pc = .ok (.putfield index, 3)) (k : Xs C (wW g) Q (up σ 73 8 v) (pc + 3) lv rest) : Xs C (wW g) Q σ pc lv (.int v :: .ref (gA g 73) :: rest) := x_put h hg (by decide) (cE_73 g _) (ci := 4) (CN := RX4) (T := TX4) (N := 12) rfl hin tyX4 tyX4_ok nmX4 8 (by decide) hl rfl rfl (ty := .int) rfl rfl rfl (Nat.le_of_ble_eq_true rfl) (cE_73 g _) hdg k
theorem x_get_X4_73_9 {C : XC} {cc : ByteArray} {own : String} {Ts : List Cond} {R0 : Room} {g : cG} {Q : State → Prop} {σ : St} {lv : List (Nat × Value)} {rest : List Value} {pc index : Nat} (h : XOk C cc own Ts R0) (hg : XG C g) (hl : Cond.fieldLink own index "CoalitionChecker$Reader" "coalition" "I" ∈ Ts) (hin : ∀ w ∈ wsX40, w ∈ Ts) (hdg : decode cc pc = .ok (.getfield index, 3)) (k : Xs C (wW g) Q σ (pc + 3) lv (.int (σ 73 9) :: rest)) : Xs C (wW g) Q σ pc lv (.ref (gA g 73) :: rest) := x_get h hg (by decide) (cE_73 g _) (ci := 4) (CN := RX4) (T := TX4) (N := 12) rfl hin 9 (by decide) hl rfl rfl hdg k
theorem x_put_X4_73_9 {C : XC} {cc : ByteArray} {own : String} {Ts : List Cond} {R0 : Room} {g : cG} {Q : State → Prop} {σ : St} {lv : List (Nat × Value)} {rest : List Value} {pc index : Nat} {v : Int32} (h : XOk C cc own Ts R0) (hg : XG C g) (hl : Cond.fieldLink own index "CoalitionChecker$Reader" "coalition" "I" ∈ Ts) (hin : ∀ w ∈ wsX40, w ∈ Ts) (hdg : decode cc pc = .ok (.putfield index, 3)) (k : Xs C (wW g) Q (up σ 73 9 v) (pc + 3) lv rest) : Xs C (wW g) Q σ pc lv (.int v :: .ref (gA g 73) :: rest) := x_put h hg (by decide) (cE_73 g _) (ci := 4) (CN := RX4) (T := TX4) (N := 12) rfl hin tyX4 tyX4_ok nmX4 9 (by decide) hl rfl rfl (ty := .int) rfl rfl rfl (Nat.le_of_ble_eq_true rfl) (cE_73 g _) hdg k
theorem x_get_X4_73_10 {C : XC} {cc : ByteArray} {own : String} {Ts : List Cond} {R0 : Room} {g : cG} {Q : State → Prop} {σ : St} {lv : List (Nat × Value)} {rest : List Value} {pc index : Nat} (h : XOk C cc own Ts R0) (hg : XG C g) (hl : Cond.fieldLink own index "CoalitionChecker$Reader" "box" "I" ∈ Ts) (hin : ∀ w ∈ wsX40, w ∈ Ts) (hdg : decode cc pc = .ok (.getfield index, 3)) (k : Xs C (wW g) Q σ (pc + 3) lv (.int (σ 73 10) :: rest)) : Xs C (wW g) Q σ pc lv (.ref (gA g 73) :: rest) := x_get h hg (by decide) (cE_73 g _) (ci := 4) (CN := RX4) (T := TX4) (N := 12) rfl hin 10 (by decide) hl rfl rfl hdg k
theorem x_put_X4_73_10 {C : XC} {cc : ByteArray} {own : String} {Ts : List Cond} {R0 : Room} {g : cG} {Q : State → Prop} {σ : St} {lv : List (Nat × Value)} {rest : List Value} {pc index : Nat} {v : Int32} (h : XOk C cc own Ts R0) (hg : XG C g) (hl : Cond.fieldLink own index "CoalitionChecker$Reader" "box" "I" ∈ Ts) (hin : ∀ w ∈ wsX40, w ∈ Ts) (hdg : decode cc pc = .ok (.putfield index, 3)) (k : Xs C (wW g) Q (up σ 73 10 v) (pc + 3) lv rest) : Xs C (wW g) Q σ pc lv (.int v :: .ref (gA g 73) :: rest) := x_put h hg (by decide) (cE_73 g _) (ci := 4) (CN := RX4) (T := TX4) (N := 12) rfl hin tyX4 tyX4_ok nmX4 10 (by decide) hl rfl rfl (ty := .int) rfl rfl rfl (Nat.le_of_ble_eq_true rfl) (cE_73 g _) hdg k
theorem x_get_X4_73_11 {C : XC} {cc : ByteArray} {own : String} {Ts : List Cond} {R0 : Room} {g : cG} {Q : State → Prop} {σ : St} {lv : List (Nat × Value)} {rest : List Value} {pc index : Nat} (h : XOk C cc own Ts R0) (hg : XG C g) (hl : Cond.fieldLink own index "CoalitionChecker$Reader" "formula" "LCoalitionChecker$Formula;" ∈ Ts) (hin : ∀ w ∈ wsX40, w ∈ Ts) (hdg : decode cc pc = .ok (.getfield index, 3)) (k : Xs C (wW g) Q σ (pc + 3) lv (rfF g (σ 73 11) :: rest)) : Xs C (wW g) Q σ pc lv (.ref (gA g 73) :: rest) := x_get h hg (by decide) (cE_73 g _) (ci := 4) (CN := RX4) (T := TX4) (N := 12) rfl hin 11 (by decide) hl rfl rfl hdg k
theorem x_get_X3_78_0 {C : XC} {cc : ByteArray} {own : String} {Ts : List Cond} {R0 : Room} {g : cG} {Q : State → Prop} {σ : St} {lv : List (Nat × Value)} {rest : List Value} {pc index : Nat} (h : XOk C cc own Ts R0) (hg : XG C g) (hl : Cond.fieldLink own index "CoalitionChecker$Meaning" "structure" "LCoalitionChecker$Structure;" ∈ Ts) (hin : ∀ w ∈ wsX30, w ∈ Ts) (hdg : decode cc pc = .ok (.getfield index, 3)) (k : Xs C (wW g) Q σ (pc + 3) lv (.ref (gA g 0) :: rest)) : Xs C (wW g) Q σ pc lv (.ref (gA g 78) :: rest) := x_get h hg (by decide) (cE_78 g _) (ci := 3) (CN := RX3) (T := TX3) (N := 4) rfl hin 0 (by decide) hl rfl rfl hdg k
theorem x_get_X3_78_1 {C : XC} {cc : ByteArray} {own : String} {Ts : List Cond} {R0 : Room} {g : cG} {Q : State → Prop} {σ : St} {lv : List (Nat × Value)} {rest : List Value} {pc index : Nat} (h : XOk C cc own Ts R0) (hg : XG C g) (hl : Cond.fieldLink own index "CoalitionChecker$Meaning" "steps" "LCoalitionChecker$Steps;" ∈ Ts) (hin : ∀ w ∈ wsX30, w ∈ Ts) (hdg : decode cc pc = .ok (.getfield index, 3)) (k : Xs C (wW g) Q σ (pc + 3) lv (.ref (gA g 69) :: rest)) : Xs C (wW g) Q σ pc lv (.ref (gA g 78) :: rest) := x_get h hg (by decide) (cE_78 g _) (ci := 3) (CN := RX3) (T := TX3) (N := 4) rfl hin 1 (by decide) hl rfl rfl hdg k
theorem x_get_X3_78_2 {C : XC} {cc : ByteArray} {own : String} {Ts : List Cond} {R0 : Room} {g : cG} {Q : State → Prop} {σ : St} {lv : List (Nat × Value)} {rest : List Value} {pc index : Nat} (h : XOk C cc own Ts R0) (hg : XG C g) (hl : Cond.fieldLink own index "CoalitionChecker$Meaning" "sets" "[I" ∈ Ts) (hin : ∀ w ∈ wsX30, w ∈ Ts) (hdg : decode cc pc = .ok (.getfield index, 3)) (k : Xs C (wW g) Q σ (pc + 3) lv (.ref (gA g 79) :: rest)) : Xs C (wW g) Q σ pc lv (.ref (gA g 78) :: rest) := x_get h hg (by decide) (cE_78 g _) (ci := 3) (CN := RX3) (T := TX3) (N := 4) rfl hin 2 (by decide) hl rfl rfl hdg k
theorem x_get_X3_78_3 {C : XC} {cc : ByteArray} {own : String} {Ts : List Cond} {R0 : Room} {g : cG} {Q : State → Prop} {σ : St} {lv : List (Nat × Value)} {rest : List Value} {pc index : Nat} (h : XOk C cc own Ts R0) (hg : XG C g) (hl : Cond.fieldLink own index "CoalitionChecker$Meaning" "ranks" "[I" ∈ Ts) (hin : ∀ w ∈ wsX30, w ∈ Ts) (hdg : decode cc pc = .ok (.getfield index, 3)) (k : Xs C (wW g) Q σ (pc + 3) lv (.ref (gA g 80) :: rest)) : Xs C (wW g) Q σ pc lv (.ref (gA g 78) :: rest) := x_get h hg (by decide) (cE_78 g _) (ci := 3) (CN := RX3) (T := TX3) (N := 4) rfl hin 3 (by decide) hl rfl rfl hdg k
theorem x_get_X8_81_0 {C : XC} {cc : ByteArray} {own : String} {Ts : List Cond} {R0 : Room} {g : cG} {Q : State → Prop} {σ : St} {lv : List (Nat × Value)} {rest : List Value} {pc index : Nat} (h : XOk C cc own Ts R0) (hg : XG C g) (hl : Cond.fieldLink own index "CoalitionChecker$Tactics" "structure" "LCoalitionChecker$Structure;" ∈ Ts) (hin : ∀ w ∈ wsX80, w ∈ Ts) (hdg : decode cc pc = .ok (.getfield index, 3)) (k : Xs C (wW g) Q σ (pc + 3) lv (.ref (gA g 0) :: rest)) : Xs C (wW g) Q σ pc lv (.ref (gA g 81) :: rest) := x_get h hg (by decide) (cE_81 g _) (ci := 7) (CN := RX8) (T := TX8) (N := 4) rfl hin 0 (by decide) hl rfl rfl hdg k
theorem x_get_X8_81_1 {C : XC} {cc : ByteArray} {own : String} {Ts : List Cond} {R0 : Room} {g : cG} {Q : State → Prop} {σ : St} {lv : List (Nat × Value)} {rest : List Value} {pc index : Nat} (h : XOk C cc own Ts R0) (hg : XG C g) (hl : Cond.fieldLink own index "CoalitionChecker$Tactics" "steps" "LCoalitionChecker$Steps;" ∈ Ts) (hin : ∀ w ∈ wsX80, w ∈ Ts) (hdg : decode cc pc = .ok (.getfield index, 3)) (k : Xs C (wW g) Q σ (pc + 3) lv (.ref (gA g 69) :: rest)) : Xs C (wW g) Q σ pc lv (.ref (gA g 81) :: rest) := x_get h hg (by decide) (cE_81 g _) (ci := 7) (CN := RX8) (T := TX8) (N := 4) rfl hin 1 (by decide) hl rfl rfl hdg k
theorem x_get_X8_81_2 {C : XC} {cc : ByteArray} {own : String} {Ts : List Cond} {R0 : Room} {g : cG} {Q : State → Prop} {σ : St} {lv : List (Nat × Value)} {rest : List Value} {pc index : Nat} (h : XOk C cc own Ts R0) (hg : XG C g) (hl : Cond.fieldLink own index "CoalitionChecker$Tactics" "meaning" "LCoalitionChecker$Meaning;" ∈ Ts) (hin : ∀ w ∈ wsX80, w ∈ Ts) (hdg : decode cc pc = .ok (.getfield index, 3)) (k : Xs C (wW g) Q σ (pc + 3) lv (.ref (gA g 78) :: rest)) : Xs C (wW g) Q σ pc lv (.ref (gA g 81) :: rest) := x_get h hg (by decide) (cE_81 g _) (ci := 7) (CN := RX8) (T := TX8) (N := 4) rfl hin 2 (by decide) hl rfl rfl hdg k
theorem x_get_X8_81_3 {C : XC} {cc : ByteArray} {own : String} {Ts : List Cond} {R0 : Room} {g : cG} {Q : State → Prop} {σ : St} {lv : List (Nat × Value)} {rest : List Value} {pc index : Nat} (h : XOk C cc own Ts R0) (hg : XG C g) (hl : Cond.fieldLink own index "CoalitionChecker$Tactics" "held" "I" ∈ Ts) (hin : ∀ w ∈ wsX80, w ∈ Ts) (hdg : decode cc pc = .ok (.getfield index, 3)) (k : Xs C (wW g) Q σ (pc + 3) lv (.int (σ 81 3) :: rest)) : Xs C (wW g) Q σ pc lv (.ref (gA g 81) :: rest) := x_get h hg (by decide) (cE_81 g _) (ci := 7) (CN := RX8) (T := TX8) (N := 4) rfl hin 3 (by decide) hl rfl rfl hdg k
theorem x_put_X8_81_3 {C : XC} {cc : ByteArray} {own : String} {Ts : List Cond} {R0 : Room} {g : cG} {Q : State → Prop} {σ : St} {lv : List (Nat × Value)} {rest : List Value} {pc index : Nat} {v : Int32} (h : XOk C cc own Ts R0) (hg : XG C g) (hl : Cond.fieldLink own index "CoalitionChecker$Tactics" "held" "I" ∈ Ts) (hin : ∀ w ∈ wsX80, w ∈ Ts) (hdg : decode cc pc = .ok (.putfield index, 3)) (k : Xs C (wW g) Q (up σ 81 3 v) (pc + 3) lv rest) : Xs C (wW g) Q σ pc lv (.int v :: .ref (gA g 81) :: rest) := x_put h hg (by decide) (cE_81 g _) (ci := 7) (CN := RX8) (T := TX8) (N := 4) rfl hin tyX8 tyX8_ok nmX8 3 (by decide) hl rfl rfl (ty := .int) rfl rfl rfl (Nat.le_of_ble_eq_true rfl) (cE_81 g _) hdg k
theorem x_get_X2_82_0 {C : XC} {cc : ByteArray} {own : String} {Ts : List Cond} {R0 : Room} {g : cG} {Q : State → Prop} {σ : St} {lv : List (Nat × Value)} {rest : List Value} {pc index : Nat} (h : XOk C cc own Ts R0) (hg : XG C g) (hl : Cond.fieldLink own index "CoalitionChecker$Likeness" "structure" "LCoalitionChecker$Structure;" ∈ Ts) (hin : ∀ w ∈ wsX20, w ∈ Ts) (hdg : decode cc pc = .ok (.getfield index, 3)) (k : Xs C (wW g) Q σ (pc + 3) lv (.ref (gA g 0) :: rest)) : Xs C (wW g) Q σ pc lv (.ref (gA g 82) :: rest) := x_get h hg (by decide) (cE_82 g _) (ci := 2) (CN := RX2) (T := TX2) (N := 6) rfl hin 0 (by decide) hl rfl rfl hdg k
theorem x_get_X2_82_1 {C : XC} {cc : ByteArray} {own : String} {Ts : List Cond} {R0 : Room} {g : cG} {Q : State → Prop} {σ : St} {lv : List (Nat × Value)} {rest : List Value} {pc index : Nat} (h : XOk C cc own Ts R0) (hg : XG C g) (hl : Cond.fieldLink own index "CoalitionChecker$Likeness" "steps" "LCoalitionChecker$Steps;" ∈ Ts) (hin : ∀ w ∈ wsX20, w ∈ Ts) (hdg : decode cc pc = .ok (.getfield index, 3)) (k : Xs C (wW g) Q σ (pc + 3) lv (.ref (gA g 69) :: rest)) : Xs C (wW g) Q σ pc lv (.ref (gA g 82) :: rest) := x_get h hg (by decide) (cE_82 g _) (ci := 2) (CN := RX2) (T := TX2) (N := 6) rfl hin 1 (by decide) hl rfl rfl hdg k
theorem x_get_X2_82_2 {C : XC} {cc : ByteArray} {own : String} {Ts : List Cond} {R0 : Room} {g : cG} {Q : State → Prop} {σ : St} {lv : List (Nat × Value)} {rest : List Value} {pc index : Nat} (h : XOk C cc own Ts R0) (hg : XG C g) (hl : Cond.fieldLink own index "CoalitionChecker$Likeness" "classNumbers" "[I" ∈ Ts) (hin : ∀ w ∈ wsX20, w ∈ Ts) (hdg : decode cc pc = .ok (.getfield index, 3)) (k : Xs C (wW g) Q σ (pc + 3) lv (.ref (gA g 83) :: rest)) : Xs C (wW g) Q σ pc lv (.ref (gA g 82) :: rest) := x_get h hg (by decide) (cE_82 g _) (ci := 2) (CN := RX2) (T := TX2) (N := 6) rfl hin 2 (by decide) hl rfl rfl hdg k
theorem x_get_X2_82_3 {C : XC} {cc : ByteArray} {own : String} {Ts : List Cond} {R0 : Room} {g : cG} {Q : State → Prop} {σ : St} {lv : List (Nat × Value)} {rest : List Value} {pc index : Nat} (h : XOk C cc own Ts R0) (hg : XG C g) (hl : Cond.fieldLink own index "CoalitionChecker$Likeness" "finer" "[I" ∈ Ts) (hin : ∀ w ∈ wsX20, w ∈ Ts) (hdg : decode cc pc = .ok (.getfield index, 3)) (k : Xs C (wW g) Q σ (pc + 3) lv (.ref (gA g 84) :: rest)) : Xs C (wW g) Q σ pc lv (.ref (gA g 82) :: rest) := x_get h hg (by decide) (cE_82 g _) (ci := 2) (CN := RX2) (T := TX2) (N := 6) rfl hin 3 (by decide) hl rfl rfl hdg k
theorem x_get_X2_82_4 {C : XC} {cc : ByteArray} {own : String} {Ts : List Cond} {R0 : Room} {g : cG} {Q : State → Prop} {σ : St} {lv : List (Nat × Value)} {rest : List Value} {pc index : Nat} (h : XOk C cc own Ts R0) (hg : XG C g) (hl : Cond.fieldLink own index "CoalitionChecker$Likeness" "oneSpread" "[I" ∈ Ts) (hin : ∀ w ∈ wsX20, w ∈ Ts) (hdg : decode cc pc = .ok (.getfield index, 3)) (k : Xs C (wW g) Q σ (pc + 3) lv (.ref (gA g 85) :: rest)) : Xs C (wW g) Q σ pc lv (.ref (gA g 82) :: rest) := x_get h hg (by decide) (cE_82 g _) (ci := 2) (CN := RX2) (T := TX2) (N := 6) rfl hin 4 (by decide) hl rfl rfl hdg k
theorem x_get_X2_82_5 {C : XC} {cc : ByteArray} {own : String} {Ts : List Cond} {R0 : Room} {g : cG} {Q : State → Prop} {σ : St} {lv : List (Nat × Value)} {rest : List Value} {pc index : Nat} (h : XOk C cc own Ts R0) (hg : XG C g) (hl : Cond.fieldLink own index "CoalitionChecker$Likeness" "otherSpread" "[I" ∈ Ts) (hin : ∀ w ∈ wsX20, w ∈ Ts) (hdg : decode cc pc = .ok (.getfield index, 3)) (k : Xs C (wW g) Q σ (pc + 3) lv (.ref (gA g 86) :: rest)) : Xs C (wW g) Q σ pc lv (.ref (gA g 82) :: rest) := x_get h hg (by decide) (cE_82 g _) (ci := 2) (CN := RX2) (T := TX2) (N := 6) rfl hin 5 (by decide) hl rfl rfl hdg k
theorem x_get_X7_0_0 {C : XC} {cc : ByteArray} {own : String} {Ts : List Cond} {R0 : Room} {g : cG} {Q : State → Prop} {σ : St} {lv : List (Nat × Value)} {rest : List Value} {pc index : Nat} (h : XOk C cc own Ts R0) (hg : XG C g) (hl : Cond.fieldLink own index "CoalitionChecker$Structure" "agentCount" "I" ∈ Ts) (hin : ∀ w ∈ wsX70, w ∈ Ts) (hdg : decode cc pc = .ok (.getfield index, 3)) (k : Xs C (wW g) Q σ (pc + 3) lv (.int (σ 0 0) :: rest)) : Xs C (wW g) Q σ pc lv (.ref (gA g 0) :: rest) := x_get h hg (by decide) (cE_0 g _) (ci := 6) (CN := RX7) (T := TX7) (N := 8) rfl hin 0 (by decide) hl rfl rfl hdg k
theorem x_get_X7_0_1 {C : XC} {cc : ByteArray} {own : String} {Ts : List Cond} {R0 : Room} {g : cG} {Q : State → Prop} {σ : St} {lv : List (Nat × Value)} {rest : List Value} {pc index : Nat} (h : XOk C cc own Ts R0) (hg : XG C g) (hl : Cond.fieldLink own index "CoalitionChecker$Structure" "coalitionLimit" "I" ∈ Ts) (hin : ∀ w ∈ wsX70, w ∈ Ts) (hdg : decode cc pc = .ok (.getfield index, 3)) (k : Xs C (wW g) Q σ (pc + 3) lv (.int (σ 0 1) :: rest)) : Xs C (wW g) Q σ pc lv (.ref (gA g 0) :: rest) := x_get h hg (by decide) (cE_0 g _) (ci := 6) (CN := RX7) (T := TX7) (N := 8) rfl hin 1 (by decide) hl rfl rfl hdg k
theorem x_get_X7_0_2 {C : XC} {cc : ByteArray} {own : String} {Ts : List Cond} {R0 : Room} {g : cG} {Q : State → Prop} {σ : St} {lv : List (Nat × Value)} {rest : List Value} {pc index : Nat} (h : XOk C cc own Ts R0) (hg : XG C g) (hl : Cond.fieldLink own index "CoalitionChecker$Structure" "moveLimit" "I" ∈ Ts) (hin : ∀ w ∈ wsX70, w ∈ Ts) (hdg : decode cc pc = .ok (.getfield index, 3)) (k : Xs C (wW g) Q σ (pc + 3) lv (.int (σ 0 2) :: rest)) : Xs C (wW g) Q σ pc lv (.ref (gA g 0) :: rest) := x_get h hg (by decide) (cE_0 g _) (ci := 6) (CN := RX7) (T := TX7) (N := 8) rfl hin 2 (by decide) hl rfl rfl hdg k
theorem x_get_X7_0_3 {C : XC} {cc : ByteArray} {own : String} {Ts : List Cond} {R0 : Room} {g : cG} {Q : State → Prop} {σ : St} {lv : List (Nat × Value)} {rest : List Value} {pc index : Nat} (h : XOk C cc own Ts R0) (hg : XG C g) (hl : Cond.fieldLink own index "CoalitionChecker$Structure" "labelSets" "[I" ∈ Ts) (hin : ∀ w ∈ wsX70, w ∈ Ts) (hdg : decode cc pc = .ok (.getfield index, 3)) (k : Xs C (wW g) Q σ (pc + 3) lv (.ref (gA g 1) :: rest)) : Xs C (wW g) Q σ pc lv (.ref (gA g 0) :: rest) := x_get h hg (by decide) (cE_0 g _) (ci := 6) (CN := RX7) (T := TX7) (N := 8) rfl hin 3 (by decide) hl rfl rfl hdg k
theorem x_get_X7_0_4 {C : XC} {cc : ByteArray} {own : String} {Ts : List Cond} {R0 : Room} {g : cG} {Q : State → Prop} {σ : St} {lv : List (Nat × Value)} {rest : List Value} {pc index : Nat} (h : XOk C cc own Ts R0) (hg : XG C g) (hl : Cond.fieldLink own index "CoalitionChecker$Structure" "actionCounts" "[I" ∈ Ts) (hin : ∀ w ∈ wsX70, w ∈ Ts) (hdg : decode cc pc = .ok (.getfield index, 3)) (k : Xs C (wW g) Q σ (pc + 3) lv (.ref (gA g 2) :: rest)) : Xs C (wW g) Q σ pc lv (.ref (gA g 0) :: rest) := x_get h hg (by decide) (cE_0 g _) (ci := 6) (CN := RX7) (T := TX7) (N := 8) rfl hin 4 (by decide) hl rfl rfl hdg k
theorem x_get_X7_0_5 {C : XC} {cc : ByteArray} {own : String} {Ts : List Cond} {R0 : Room} {g : cG} {Q : State → Prop} {σ : St} {lv : List (Nat × Value)} {rest : List Value} {pc index : Nat} (h : XOk C cc own Ts R0) (hg : XG C g) (hl : Cond.fieldLink own index "CoalitionChecker$Structure" "plannedActions" "[I" ∈ Ts) (hin : ∀ w ∈ wsX70, w ∈ Ts) (hdg : decode cc pc = .ok (.getfield index, 3)) (k : Xs C (wW g) Q σ (pc + 3) lv (.ref (gA g 3) :: rest)) : Xs C (wW g) Q σ pc lv (.ref (gA g 0) :: rest) := x_get h hg (by decide) (cE_0 g _) (ci := 6) (CN := RX7) (T := TX7) (N := 8) rfl hin 5 (by decide) hl rfl rfl hdg k
theorem x_get_X7_0_6 {C : XC} {cc : ByteArray} {own : String} {Ts : List Cond} {R0 : Room} {g : cG} {Q : State → Prop} {σ : St} {lv : List (Nat × Value)} {rest : List Value} {pc index : Nat} (h : XOk C cc own Ts R0) (hg : XG C g) (hl : Cond.fieldLink own index "CoalitionChecker$Structure" "targets" "[I" ∈ Ts) (hin : ∀ w ∈ wsX70, w ∈ Ts) (hdg : decode cc pc = .ok (.getfield index, 3)) (k : Xs C (wW g) Q σ (pc + 3) lv (.ref (gA g 4) :: rest)) : Xs C (wW g) Q σ pc lv (.ref (gA g 0) :: rest) := x_get h hg (by decide) (cE_0 g _) (ci := 6) (CN := RX7) (T := TX7) (N := 8) rfl hin 6 (by decide) hl rfl rfl hdg k
theorem x_get_X7_0_7 {C : XC} {cc : ByteArray} {own : String} {Ts : List Cond} {R0 : Room} {g : cG} {Q : State → Prop} {σ : St} {lv : List (Nat × Value)} {rest : List Value} {pc index : Nat} (h : XOk C cc own Ts R0) (hg : XG C g) (hl : Cond.fieldLink own index "CoalitionChecker$Structure" "stateCount" "I" ∈ Ts) (hin : ∀ w ∈ wsX70, w ∈ Ts) (hdg : decode cc pc = .ok (.getfield index, 3)) (k : Xs C (wW g) Q σ (pc + 3) lv (.int (σ 0 7) :: rest)) : Xs C (wW g) Q σ pc lv (.ref (gA g 0) :: rest) := x_get h hg (by decide) (cE_0 g _) (ci := 6) (CN := RX7) (T := TX7) (N := 8) rfl hin 7 (by decide) hl rfl rfl hdg k
theorem x_put_X7_0_7 {C : XC} {cc : ByteArray} {own : String} {Ts : List Cond} {R0 : Room} {g : cG} {Q : State → Prop} {σ : St} {lv : List (Nat × Value)} {rest : List Value} {pc index : Nat} {v : Int32} (h : XOk C cc own Ts R0) (hg : XG C g) (hl : Cond.fieldLink own index "CoalitionChecker$Structure" "stateCount" "I" ∈ Ts) (hin : ∀ w ∈ wsX70, w ∈ Ts) (hdg : decode cc pc = .ok (.putfield index, 3)) (k : Xs C (wW g) Q (up σ 0 7 v) (pc + 3) lv rest) : Xs C (wW g) Q σ pc lv (.int v :: .ref (gA g 0) :: rest) := x_put h hg (by decide) (cE_0 g _) (ci := 6) (CN := RX7) (T := TX7) (N := 8) rfl hin tyX7 tyX7_ok nmX7 7 (by decide) hl rfl rfl (ty := .int) rfl rfl rfl (Nat.le_of_ble_eq_true rfl) (cE_0 g _) hdg k
theorem x_get_X7_t_0 {C : XC} {cc : ByteArray} {own : String} {Ts : List Cond} {R0 : Room} {g : cG} {Q : State → Prop} {σ : St} {lv : List (Nat × Value)} {rest : List Value} {pc index : Nat} {t : Nat} (ht : isS t = true) (h : XOk C cc own Ts R0) (hg : XG C g) (hl : Cond.fieldLink own index "CoalitionChecker$Structure" "agentCount" "I" ∈ Ts) (hin : ∀ w ∈ wsX70, w ∈ Ts) (hdg : decode cc pc = .ok (.getfield index, 3)) (k : Xs C (wW g) Q σ (pc + 3) lv (.int (σ t 0) :: rest)) : Xs C (wW g) Q σ pc lv (.ref (gA g t) :: rest) := x_get h hg (isS_lt ht) (cE_S ht g _) (ci := 6) (CN := RX7) (T := TX7) (N := 8) rfl hin 0 (by decide) hl rfl rfl hdg k
theorem x_get_X7_t_1 {C : XC} {cc : ByteArray} {own : String} {Ts : List Cond} {R0 : Room} {g : cG} {Q : State → Prop} {σ : St} {lv : List (Nat × Value)} {rest : List Value} {pc index : Nat} {t : Nat} (ht : isS t = true) (h : XOk C cc own Ts R0) (hg : XG C g) (hl : Cond.fieldLink own index "CoalitionChecker$Structure" "coalitionLimit" "I" ∈ Ts) (hin : ∀ w ∈ wsX70, w ∈ Ts) (hdg : decode cc pc = .ok (.getfield index, 3)) (k : Xs C (wW g) Q σ (pc + 3) lv (.int (σ t 1) :: rest)) : Xs C (wW g) Q σ pc lv (.ref (gA g t) :: rest) := x_get h hg (isS_lt ht) (cE_S ht g _) (ci := 6) (CN := RX7) (T := TX7) (N := 8) rfl hin 1 (by decide) hl rfl rfl hdg k
theorem x_get_X7_t_2 {C : XC} {cc : ByteArray} {own : String} {Ts : List Cond} {R0 : Room} {g : cG} {Q : State → Prop} {σ : St} {lv : List (Nat × Value)} {rest : List Value} {pc index : Nat} {t : Nat} (ht : isS t = true) (h : XOk C cc own Ts R0) (hg : XG C g) (hl : Cond.fieldLink own index "CoalitionChecker$Structure" "moveLimit" "I" ∈ Ts) (hin : ∀ w ∈ wsX70, w ∈ Ts) (hdg : decode cc pc = .ok (.getfield index, 3)) (k : Xs C (wW g) Q σ (pc + 3) lv (.int (σ t 2) :: rest)) : Xs C (wW g) Q σ pc lv (.ref (gA g t) :: rest) := x_get h hg (isS_lt ht) (cE_S ht g _) (ci := 6) (CN := RX7) (T := TX7) (N := 8) rfl hin 2 (by decide) hl rfl rfl hdg k
theorem x_get_X7_t_3 {C : XC} {cc : ByteArray} {own : String} {Ts : List Cond} {R0 : Room} {g : cG} {Q : State → Prop} {σ : St} {lv : List (Nat × Value)} {rest : List Value} {pc index : Nat} {t : Nat} (ht : isS t = true) (h : XOk C cc own Ts R0) (hg : XG C g) (hl : Cond.fieldLink own index "CoalitionChecker$Structure" "labelSets" "[I" ∈ Ts) (hin : ∀ w ∈ wsX70, w ∈ Ts) (hdg : decode cc pc = .ok (.getfield index, 3)) (k : Xs C (wW g) Q σ (pc + 3) lv (.ref (gA g (t + 1)) :: rest)) : Xs C (wW g) Q σ pc lv (.ref (gA g t) :: rest) := x_get h hg (isS_lt ht) (cE_S ht g _) (ci := 6) (CN := RX7) (T := TX7) (N := 8) rfl hin 3 (by decide) hl rfl rfl hdg k
theorem x_get_X7_t_4 {C : XC} {cc : ByteArray} {own : String} {Ts : List Cond} {R0 : Room} {g : cG} {Q : State → Prop} {σ : St} {lv : List (Nat × Value)} {rest : List Value} {pc index : Nat} {t : Nat} (ht : isS t = true) (h : XOk C cc own Ts R0) (hg : XG C g) (hl : Cond.fieldLink own index "CoalitionChecker$Structure" "actionCounts" "[I" ∈ Ts) (hin : ∀ w ∈ wsX70, w ∈ Ts) (hdg : decode cc pc = .ok (.getfield index, 3)) (k : Xs C (wW g) Q σ (pc + 3) lv (.ref (gA g (t + 2)) :: rest)) : Xs C (wW g) Q σ pc lv (.ref (gA g t) :: rest) := x_get h hg (isS_lt ht) (cE_S ht g _) (ci := 6) (CN := RX7) (T := TX7) (N := 8) rfl hin 4 (by decide) hl rfl rfl hdg k
theorem x_get_X7_t_5 {C : XC} {cc : ByteArray} {own : String} {Ts : List Cond} {R0 : Room} {g : cG} {Q : State → Prop} {σ : St} {lv : List (Nat × Value)} {rest : List Value} {pc index : Nat} {t : Nat} (ht : isS t = true) (h : XOk C cc own Ts R0) (hg : XG C g) (hl : Cond.fieldLink own index "CoalitionChecker$Structure" "plannedActions" "[I" ∈ Ts) (hin : ∀ w ∈ wsX70, w ∈ Ts) (hdg : decode cc pc = .ok (.getfield index, 3)) (k : Xs C (wW g) Q σ (pc + 3) lv (.ref (gA g (t + 3)) :: rest)) : Xs C (wW g) Q σ pc lv (.ref (gA g t) :: rest) := x_get h hg (isS_lt ht) (cE_S ht g _) (ci := 6) (CN := RX7) (T := TX7) (N := 8) rfl hin 5 (by decide) hl rfl rfl hdg k
theorem x_get_X7_t_6 {C : XC} {cc : ByteArray} {own : String} {Ts : List Cond} {R0 : Room} {g : cG} {Q : State → Prop} {σ : St} {lv : List (Nat × Value)} {rest : List Value} {pc index : Nat} {t : Nat} (ht : isS t = true) (h : XOk C cc own Ts R0) (hg : XG C g) (hl : Cond.fieldLink own index "CoalitionChecker$Structure" "targets" "[I" ∈ Ts) (hin : ∀ w ∈ wsX70, w ∈ Ts) (hdg : decode cc pc = .ok (.getfield index, 3)) (k : Xs C (wW g) Q σ (pc + 3) lv (.ref (gA g (t + 4)) :: rest)) : Xs C (wW g) Q σ pc lv (.ref (gA g t) :: rest) := x_get h hg (isS_lt ht) (cE_S ht g _) (ci := 6) (CN := RX7) (T := TX7) (N := 8) rfl hin 6 (by decide) hl rfl rfl hdg k
theorem x_get_X7_t_7 {C : XC} {cc : ByteArray} {own : String} {Ts : List Cond} {R0 : Room} {g : cG} {Q : State → Prop} {σ : St} {lv : List (Nat × Value)} {rest : List Value} {pc index : Nat} {t : Nat} (ht : isS t = true) (h : XOk C cc own Ts R0) (hg : XG C g) (hl : Cond.fieldLink own index "CoalitionChecker$Structure" "stateCount" "I" ∈ Ts) (hin : ∀ w ∈ wsX70, w ∈ Ts) (hdg : decode cc pc = .ok (.getfield index, 3)) (k : Xs C (wW g) Q σ (pc + 3) lv (.int (σ t 7) :: rest)) : Xs C (wW g) Q σ pc lv (.ref (gA g t) :: rest) := x_get h hg (isS_lt ht) (cE_S ht g _) (ci := 6) (CN := RX7) (T := TX7) (N := 8) rfl hin 7 (by decide) hl rfl rfl hdg k
theorem x_put_X7_t_7 {C : XC} {cc : ByteArray} {own : String} {Ts : List Cond} {R0 : Room} {g : cG} {Q : State → Prop} {σ : St} {lv : List (Nat × Value)} {rest : List Value} {pc index : Nat} {v : Int32} {t : Nat} (ht : isS t = true) (h : XOk C cc own Ts R0) (hg : XG C g) (hl : Cond.fieldLink own index "CoalitionChecker$Structure" "stateCount" "I" ∈ Ts) (hin : ∀ w ∈ wsX70, w ∈ Ts) (hdg : decode cc pc = .ok (.putfield index, 3)) (k : Xs C (wW g) Q (up σ t 7 v) (pc + 3) lv rest) : Xs C (wW g) Q σ pc lv (.int v :: .ref (gA g t) :: rest) := x_put h hg (isS_lt ht) (cE_S ht g _) (ci := 6) (CN := RX7) (T := TX7) (N := 8) rfl hin tyX7 tyX7_ok nmX7 7 (by decide) hl rfl rfl (ty := .int) rfl rfl rfl (Nat.le_of_ble_eq_true rfl) (cE_S ht g _) hdg k
theorem x_get_X0_t_0 {C : XC} {cc : ByteArray} {own : String} {Ts : List Cond} {R0 : Room} {g : cG} {Q : State → Prop} {σ : St} {lv : List (Nat × Value)} {rest : List Value} {pc index : Nat} {t : Nat} (ht : isF t = true) (h : XOk C cc own Ts R0) (hg : XG C g) (hl : Cond.fieldLink own index "CoalitionChecker$Formula" "kinds" "[I" ∈ Ts) (hin : ∀ w ∈ wsX00, w ∈ Ts) (hdg : decode cc pc = .ok (.getfield index, 3)) (k : Xs C (wW g) Q σ (pc + 3) lv (.ref (gA g (t + 1)) :: rest)) : Xs C (wW g) Q σ pc lv (.ref (gA g t) :: rest) := x_get h hg (isF_lt ht) (cE_F ht g _) (ci := 0) (CN := RX0) (T := TX0) (N := 5) rfl hin 0 (by decide) hl rfl rfl hdg k
theorem x_get_X0_t_1 {C : XC} {cc : ByteArray} {own : String} {Ts : List Cond} {R0 : Room} {g : cG} {Q : State → Prop} {σ : St} {lv : List (Nat × Value)} {rest : List Value} {pc index : Nat} {t : Nat} (ht : isF t = true) (h : XOk C cc own Ts R0) (hg : XG C g) (hl : Cond.fieldLink own index "CoalitionChecker$Formula" "firsts" "[I" ∈ Ts) (hin : ∀ w ∈ wsX00, w ∈ Ts) (hdg : decode cc pc = .ok (.getfield index, 3)) (k : Xs C (wW g) Q σ (pc + 3) lv (.ref (gA g (t + 2)) :: rest)) : Xs C (wW g) Q σ pc lv (.ref (gA g t) :: rest) := x_get h hg (isF_lt ht) (cE_F ht g _) (ci := 0) (CN := RX0) (T := TX0) (N := 5) rfl hin 1 (by decide) hl rfl rfl hdg k
theorem x_get_X0_t_2 {C : XC} {cc : ByteArray} {own : String} {Ts : List Cond} {R0 : Room} {g : cG} {Q : State → Prop} {σ : St} {lv : List (Nat × Value)} {rest : List Value} {pc index : Nat} {t : Nat} (ht : isF t = true) (h : XOk C cc own Ts R0) (hg : XG C g) (hl : Cond.fieldLink own index "CoalitionChecker$Formula" "seconds" "[I" ∈ Ts) (hin : ∀ w ∈ wsX00, w ∈ Ts) (hdg : decode cc pc = .ok (.getfield index, 3)) (k : Xs C (wW g) Q σ (pc + 3) lv (.ref (gA g (t + 3)) :: rest)) : Xs C (wW g) Q σ pc lv (.ref (gA g t) :: rest) := x_get h hg (isF_lt ht) (cE_F ht g _) (ci := 0) (CN := RX0) (T := TX0) (N := 5) rfl hin 2 (by decide) hl rfl rfl hdg k
theorem x_get_X0_t_3 {C : XC} {cc : ByteArray} {own : String} {Ts : List Cond} {R0 : Room} {g : cG} {Q : State → Prop} {σ : St} {lv : List (Nat × Value)} {rest : List Value} {pc index : Nat} {t : Nat} (ht : isF t = true) (h : XOk C cc own Ts R0) (hg : XG C g) (hl : Cond.fieldLink own index "CoalitionChecker$Formula" "details" "[I" ∈ Ts) (hin : ∀ w ∈ wsX00, w ∈ Ts) (hdg : decode cc pc = .ok (.getfield index, 3)) (k : Xs C (wW g) Q σ (pc + 3) lv (.ref (gA g (t + 4)) :: rest)) : Xs C (wW g) Q σ pc lv (.ref (gA g t) :: rest) := x_get h hg (isF_lt ht) (cE_F ht g _) (ci := 0) (CN := RX0) (T := TX0) (N := 5) rfl hin 3 (by decide) hl rfl rfl hdg k
theorem x_get_X0_t_4 {C : XC} {cc : ByteArray} {own : String} {Ts : List Cond} {R0 : Room} {g : cG} {Q : State → Prop} {σ : St} {lv : List (Nat × Value)} {rest : List Value} {pc index : Nat} {t : Nat} (ht : isF t = true) (h : XOk C cc own Ts R0) (hg : XG C g) (hl : Cond.fieldLink own index "CoalitionChecker$Formula" "count" "I" ∈ Ts) (hin : ∀ w ∈ wsX00, w ∈ Ts) (hdg : decode cc pc = .ok (.getfield index, 3)) (k : Xs C (wW g) Q σ (pc + 3) lv (.int (σ t 4) :: rest)) : Xs C (wW g) Q σ pc lv (.ref (gA g t) :: rest) := x_get h hg (isF_lt ht) (cE_F ht g _) (ci := 0) (CN := RX0) (T := TX0) (N := 5) rfl hin 4 (by decide) hl rfl rfl hdg k
theorem x_put_X0_t_4 {C : XC} {cc : ByteArray} {own : String} {Ts : List Cond} {R0 : Room} {g : cG} {Q : State → Prop} {σ : St} {lv : List (Nat × Value)} {rest : List Value} {pc index : Nat} {v : Int32} {t : Nat} (ht : isF t = true) (h : XOk C cc own Ts R0) (hg : XG C g) (hl : Cond.fieldLink own index "CoalitionChecker$Formula" "count" "I" ∈ Ts) (hin : ∀ w ∈ wsX00, w ∈ Ts) (hdg : decode cc pc = .ok (.putfield index, 3)) (k : Xs C (wW g) Q (up σ t 4 v) (pc + 3) lv rest) : Xs C (wW g) Q σ pc lv (.int v :: .ref (gA g t) :: rest) := x_put h hg (isF_lt ht) (cE_F ht g _) (ci := 0) (CN := RX0) (T := TX0) (N := 5) rfl hin tyX0 tyX0_ok nmX0 4 (by decide) hl rfl rfl (ty := .int) rfl rfl rfl (Nat.le_of_ble_eq_true rfl) (cE_F ht g _) hdg k
