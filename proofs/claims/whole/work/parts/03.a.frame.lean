/-! NUMBERS, MEMORY, SHAPE: the heap of the two objects as numbers: an object is its place in the shape; what it holds is read off 'h' -/
abbrev zI (x : Int) : Int32 := Int32.ofInt x
abbrev zJ (x : Int) : Int64 := Int64.ofInt x
def zR (x : Int) : Prop := -2147483648 ≤ x ∧ x < 2147483648
def zRl (x : Int) : Prop := -9223372036854775808 ≤ x ∧ x < 9223372036854775808
abbrev zDe : Type := Nat × Nat × List (Option Nat)
abbrev zSh : Type := List zDe
abbrev zMm : Type := Nat → Int → Int
def zU (h : zMm) (o : Nat) (k x : Int) : zMm := fun a b => if a = o ∧ b = k then x else h a b
theorem zU_eq (h : zMm) (o : Nat) (k x : Int) : zU h o k x o k = x := by simp [zU]
theorem zU_ne {h : zMm} {o a : Nat} {k b x : Int} (hn : ¬ (a = o ∧ b = k)) : zU h o k x a b = h a b := by simp only [zU, if_neg hn]
theorem zU_at (h : zMm) (o a : Nat) (k b x : Int) : zU h o k x a b = if a = o ∧ b = k then x else h a b := rfl
/-- 0 int or boolean, 1 long, 2 reference: the fields of the kinds 0 to 12 -/
def zTyT : List (List Nat) := [[2, 2, 1, 1, 1], [2, 2, 0, 0, 0, 0, 0, 0], [2, 2], [2, 2, 2, 2, 2], [2, 2, 2, 2, 2, 2, 2, 2, 2, 2, 0, 0, 0, 0, 0, 0, 0, 0, 0, 0], [2, 2, 0], [0, 0, 0, 0, 1], [2, 0, 0], [2, 0, 0, 0, 0, 0], [2, 0, 0, 0, 0, 0, 1], [2, 2, 0, 0, 0, 0, 0, 0, 0, 0, 0, 0, 0, 0, 0, 0], [2, 2, 2, 2, 2, 2, 2, 2, 2, 2, 2, 2, 2, 2, 2, 0]]
