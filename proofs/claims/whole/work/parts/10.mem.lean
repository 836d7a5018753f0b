/-! MEMORY: what the cells hold. The first: ints (and booleans) of cell a at place i; the second: longs; the third: which cells Law.draft and Law.steps are. -/
abbrev Mem : Type := (Nat → Nat → Int32) × (Nat → Nat → Int64) × (Nat × Nat)
abbrev ix (i : Int32) : Nat := i.toNatClampNeg
/-- an index outside -/
abbrev oob (i : Int32) (n : Nat) : Prop := i < 0 ∨ n ≤ i.toNatClampNeg
def upA (M : Mem) (a : Nat) (f : Nat → Int32) : Mem := (fun b => if b = a then f else M.1 b, M.2)
def upL (M : Mem) (a : Nat) (f : Nat → Int64) : Mem := (M.1, fun b => if b = a then f else M.2.1 b, M.2.2)
def wI (M : Mem) (a i : Nat) (x : Int32) : Mem := upA M a (upd (M.1 a) i x)
def wL (M : Mem) (a i : Nat) (x : Int64) : Mem := upL M a (vp_updL (M.2.1 a) i x)
def wD (M : Mem) (x : Nat) : Mem := (M.1, M.2.1, x, M.2.2.2)
def wS (M : Mem) (x : Nat) : Mem := (M.1, M.2.1, M.2.2.1, x)
def rdI (n a : Nat) (M : Mem) (i : Int32) : Option Int32 := if oob i n then none else some (M.1 a (ix i))
def rdL (n a : Nat) (M : Mem) (i : Int32) : Option Int64 := if oob i n then none else some (M.2.1 a (ix i))
def stI (n a : Nat) (M : Mem) (i x : Int32) : Option Mem := if oob i n then none else some (wI M a (ix i) x)
def stL (n a : Nat) (M : Mem) (i : Int32) (x : Int64) : Option Mem := if oob i n then none else some (wL M a (ix i) x)
/-- a boolean field is written -/
def stZ (a i : Nat) (M : Mem) (x : Int32) : Option Mem := if x = 0 ∨ x = 1 then some (wI M a i x) else none
/-- a table that nobody writes -/
def rdT (n : Nat) (f : Nat → Int32) (i : Int32) : Option Int32 := if oob i n then none else some (f (ix i))
/-- which row of six -/
def rdR (i : Int32) : Option Nat := if oob i 6 then none else some (27 + ix i)
def cpI (n0 n1 a b : Nat) (M : Mem) (sp dp n : Int32) : Option Mem := if sp < 0 ∨ dp < 0 ∨ n < 0 ∨ n0 < ix sp + ix n ∨ n1 < ix dp + ix n then none else some (upA M b (va_cpy (M.1 a) (M.1 b) (ix sp) (ix dp) (ix n)))
def cpL (n0 n1 a b : Nat) (M : Mem) (sp dp n : Int32) : Option Mem := if sp < 0 ∨ dp < 0 ∨ n < 0 ∨ n0 < ix sp + ix n ∨ n1 < ix dp + ix n then none else some (upL M b (va_cpy (M.2.1 a) (M.2.1 b) (ix sp) (ix dp) (ix n)))
def dvI (x y : Int32) : Option Int32 := if y = 0 then none else some (x / y)
def dvL (x y : Int64) : Option Int64 := if y = 0 then none else some (x / y)
def rmI (x y : Int32) : Int32 := x - x / y * y
def rmL (x y : Int64) : Int64 := x - x / y * y
def rmIo (x y : Int32) : Option Int32 := if y = 0 then none else some (rmI x y)
def rmLo (x y : Int64) : Option Int64 := if y = 0 then none else some (rmL x y)
def mnI (x y : Int32) : Int32 := if y < x then y else x
def mxI (x y : Int32) : Int32 := if x < y then y else x
def usI (x y : Int32) : Int32 := (x.toUInt32 >>> (y.toUInt32 &&& Int32.toUInt32 31)).toInt32
def slL (x : Int64) (y : Int32) : Int64 := x <<< (y.toInt64 &&& 63)
def slI (x y : Int32) : Int32 := x <<< (y &&& 31)
/-- the arrays that Law's two names may mean -/
def isLw (a : Nat) : Prop := a = 9 ∨ a = 10
def rdD (a : Nat) (M : Mem) (i : Int32) : Option Int32 := if a = 9 ∨ a = 10 then rdI 240 a M i else none
def stD (a : Nat) (M : Mem) (i x : Int32) : Option Mem := if a = 9 ∨ a = 10 then stI 240 a M i x else none
def lnD (a : Nat) : Option Int32 := if a = 9 ∨ a = 10 then some 240 else none
/-- how often a loop may go round -/
def FU : Nat := 2000
/-- LuckShoes.GREATEST, Bodies.ABOVE, Bodies.OWN -/
def tbG (i : Nat) : Int32 := match i with | 0 => 9 | 1 => 9999 | 2 => 2 | 3 => 35 | 4 => 99 | 5 => 1 | 6 => 9999 | _ => 23
def tbA (i : Nat) : Int32 := match i with | 0 => -1 | 1 => 0 | 2 => 0 | 3 => 2 | 4 => 1 | 5 => 3 | 6 => 0 | _ => 4
def tbO (i : Nat) : Int32 := match i with | 0 => 1 | 1 => 10 | 2 => 11 | 3 => 2 | 4 => 20 | 9 => 30 | 13 => 41 | 14 => 40 | 18 => 50 | 23 => 60 | 24 => 70 | 29 => 80 | 31 => 81 | _ => 0
theorem iteT {α : Type} {P : Prop} {d : Decidable P} {T F r : α} (c : P) (h : ite P T F = r) : T = r := (if_pos c).symm.trans h
theorem iteF {α : Type} {P : Prop} {d : Decidable P} {T F r : α} (c : ¬ P) (h : ite P T F = r) : F = r := (if_neg c).symm.trans h
theorem bndS {α β : Type} {x : Option α} {g : α → Option β} {r : β} (h : Option.bind x g = some r) : ∃ v, x = some v ∧ g v = some r := by
  cases x with
  | none => cases h
  | some v => exact ⟨v, rfl, h⟩
theorem somI {α : Type} {a b : α} (h : some a = some b) : a = b := Option.some.inj h
theorem som1 {α β : Type} {a c : α} {b d : β} (h : some (a, b) = some (c, d)) : a = c := (Prod.mk.inj (Option.some.inj h)).1
theorem som2 {α β : Type} {a c : α} {b d : β} (h : some (a, b) = some (c, d)) : b = d := (Prod.mk.inj (Option.some.inj h)).2
def chZ (x : Int32) : Option Unit := if x = 0 ∨ x = 1 then some () else none
theorem chZ_s {x : Int32} {u : Unit} (h : chZ x = some u) : x = 0 ∨ x = 1 := by
  unfold chZ at h
  by_cases c : x = 0 ∨ x = 1
  · exact c
  · rw [if_neg c] at h; cases h
theorem dvI_s {x y v : Int32} (h : dvI x y = some v) : ¬ y = 0 ∧ x / y = v := by
  unfold dvI at h
  by_cases c : y = 0
  · rw [if_pos c] at h; cases h
  · rw [if_neg c] at h; exact ⟨c, Option.some.inj h⟩
theorem dvL_s {x y v : Int64} (h : dvL x y = some v) : ¬ y = 0 ∧ x / y = v := by
  unfold dvL at h
  by_cases c : y = 0
  · rw [if_pos c] at h; cases h
  · rw [if_neg c] at h; exact ⟨c, Option.some.inj h⟩
theorem rmIo_s {x y v : Int32} (h : rmIo x y = some v) : ¬ y = 0 ∧ rmI x y = v := by
  unfold rmIo at h
  by_cases c : y = 0
  · rw [if_pos c] at h; cases h
  · rw [if_neg c] at h; exact ⟨c, Option.some.inj h⟩
theorem rmLo_s {x y v : Int64} (h : rmLo x y = some v) : ¬ y = 0 ∧ rmL x y = v := by
  unfold rmLo at h
  by_cases c : y = 0
  · rw [if_pos c] at h; cases h
  · rw [if_neg c] at h; exact ⟨c, Option.some.inj h⟩
theorem neI {x k : Int32} (n : Int) (e : k.toInt = n) (h : ¬ x = k) : x.toInt ≠ n := fun q => h (Int32.toInt_inj.mp (q.trans e.symm))
theorem neI2 {x k : Int32} (n : Int) (e : k.toInt = n) (h : ¬ x = k) : ¬ n = x.toInt := fun q => h (Int32.toInt_inj.mp (q.symm.trans e.symm))
theorem ble_tr {a b c : Nat} (h : Nat.ble a b = true) (h2 : Nat.ble b c = true) : Nat.ble a c = true := Nat.ble_eq.mpr (Nat.le_trans (Nat.le_of_ble_eq_true h) (Nat.le_of_ble_eq_true h2))
