/-! WHAT HOLDS BETWEEN CALLS: the class's cells and the reference's -/
/-- the cell below: class's own way of looking -/
def bsd (c w : Nat) : Option Nat := match w with
  | 0 => if 6 ≤ c then some (c - 6) else none
  | 1 => if c % 6 < 5 then some (c + 1) else none
  | 2 => if c < 30 then some (c + 6) else none
  | _ => if 0 < c % 6 then some (c - 1) else none
def lowr (h : Nat → Int32) (c : Nat) (low : Nat) (w : Nat) : Nat := match bsd c w with
  | some d => if h d < h low then d else low
  | none => low
def low4 (h : Nat → Int32) (c : Nat) : Nat := lowr h c (lowr h c (lowr h c (lowr h c c 0) 1) 2) 3
def blw (h : Nat → Int32) (c : Nat) : Int32 := if low4 h c = c then -1 else nI (low4 h c)
def rng (x : Int32) (m : Int32) : Prop := 0 ≤ x ∧ x ≤ m
def IvN (p : Nat) (M : Mem) : Prop := p ≤ 8 ∧ M.1 2 4 = nI p ∧ M.1 66 3 = nI p ∧ (∀ i, i < 36 → M.1 67 i = M.1 3 i ∧ rng (M.1 3 i) 9) ∧ (∀ i, i < 36 → M.1 68 i = M.1 37 i ∧ rng (M.1 37 i) 9999) ∧ (∀ i, i < 36 → M.1 69 i = M.1 38 i ∧ rng (M.1 38 i) 2) ∧
  (∀ q, q < p → (M.1 70 q = M.1 39 q ∧ ∃ c, c < 36 ∧ M.1 39 q = nI c) ∧ (M.1 70 (8 + q) = M.1 5 q ∧ rng (M.1 5 q) 99) ∧ (M.1 70 (16 + q) = M.1 6 q ∧ rng (M.1 6 q) 1) ∧ (M.1 70 (24 + q) = M.1 40 q ∧ rng (M.1 40 q) 9999)) ∧ (∀ q, p ≤ q → q < 8 → M.1 40 q = 0) ∧
  (M.1 66 5 = M.1 36 4 ∧ rng (M.1 36 4) 23) ∧ (∀ c, c < 36 → M.1 4 c = blw (M.1 3) c)
def IvT (M : Mem) : Prop := ∃ n : Nat, n ≤ 120 ∧ M.1 7 0 = nI n ∧ M.1 66 6 = nI n ∧ ∀ i, i < n → M.1 71 i = M.1 8 i ∧ rng (M.1 8 i) 255
def IvD (M : Mem) : Prop := ∀ i, i < 5 → M.1 82 i = M.1 34 i
def IvI (p : Nat) (M : Mem) : Prop := (M.1 0 10 = -1 ∧ M.1 66 25 = 0) ∨ ∃ p0 : Nat, p0 ≤ p ∧ M.1 0 10 = nI p0 ∧ M.1 66 25 = 1 ∧ M.1 66 26 = nI p0 ∧ (∀ i, i < 36 → M.1 83 i = M.1 61 i ∧ rng (M.1 61 i) 9999) ∧ (∀ i, i < 36 → M.1 83 (36 + i) = M.1 62 i ∧ rng (M.1 62 i) 2) ∧
  (∀ q, q < p0 → (M.1 83 (72 + q) = M.1 63 q ∧ ∃ c, c < 36 ∧ M.1 63 q = nI c) ∧ (M.1 83 (96 + q) = M.1 64 q ∧ rng (M.1 64 q) 9999)) ∧ (M.1 83 104 = M.1 60 4 ∧ rng (M.1 60 4) 23) ∧ ∀ i, i < 5 → M.1 84 i = M.1 35 i
/-- which numbers mend() knows, and what they may become -/
def okNum (p : Nat) (n w : Int32) : Prop := ∃ k j : Nat, n = nI k ∧ w = nI j ∧ ((j < 3 ∧ k < 36) ∨ (3 ≤ j ∧ j < 7 ∧ k < p) ∨ (j = 7 ∧ k = 0))
def okFit (w v : Int32) : Prop := rng w 7 ∧ rng v (tbG (ix w))
def IvC (p : Nat) (M : Mem) : Prop := ∃ u a : Nat, u ≤ a ∧ a ≤ 40 ∧ M.1 15 4 = nI u ∧ M.1 66 30 = nI u ∧ M.1 15 5 = nI a ∧ M.1 66 29 = nI a ∧ ∀ i, i < a → M.1 85 (4 * i) = M.1 16 i ∧ M.1 85 (4 * i + 1) = M.1 17 i ∧ M.1 85 (4 * i + 2) = M.1 18 i ∧ M.1 85 (4 * i + 3) = M.1 19 i ∧ okNum p (M.1 16 i) (M.1 17 i) ∧ okFit (M.1 17 i) (M.1 18 i) ∧ okFit (M.1 17 i) (M.1 19 i)
def IvB (n : Nat) (M : Mem) : Prop := n ≤ 50 ∧ M.1 20 0 = nI n ∧ M.1 66 32 = nI n ∧ (∀ i, i < n → M.1 86 i = M.1 22 i ∧ ∃ k, k < 8 ∧ M.1 22 i = nI k) ∧ ∃ t : Nat, t ≤ 100 ∧ M.1 20 1 = nI t ∧ M.1 66 34 = nI t ∧ ∀ i, i < t → i < 24 → M.1 87 i = M.1 21 i
/-- what an element of a sort is -/
def okEl (t : Nat) (v : Int64) : Prop := match t with
  | 0 => -128 ≤ v ∧ v ≤ 127
  | 1 => -32768 ≤ v ∧ v ≤ 32767
  | 2 => -2147483648 ≤ v ∧ v ≤ 2147483647
  | 3 => True
  | _ => v = 0 ∨ v = 1
def IvS (n : Nat) (M : Mem) : Prop := ∀ s, s < 6 → (M.1 24 s = -1 ∧ M.1 88 s = -1) ∨ (∃ b : Nat, b < n ∧ M.1 24 s = -2 ∧ M.1 25 s = nI b ∧ M.1 88 s = nI (10 + b)) ∨ ∃ t k : Nat, t < 5 ∧ k ≤ 60 ∧ M.1 24 s = nI t ∧ M.1 88 s = nI t ∧ M.1 25 s = nI k ∧ M.1 89 s = nI k ∧ ∀ i, i < 60 → M.2.1 90 (60 * s + i) = M.2.1 (27 + s) i ∧ okEl t (M.2.1 (27 + s) i)
/-- what comes to a cell is told and laid down within an hour: between calls nothing comes -/
def IvZ (M : Mem) : Prop := ∀ i, i < 36 → M.1 41 i = 0 ∧ M.1 47 i = 0 ∧ M.1 53 i = 0 ∧ M.1 59 i = 0
/-! THE LAW, as both hold it: lines (what asks, what it says), in the reference's codes -/
def phi (c : Int32) : Int32 := if 18 ≤ c then c - 18 else if c = 0 then -108 else if c = 1 then -115 else if c = 2 then -104 else if c = 3 then -112 else if c = 4 then -111 else if c = 5 then -99 else if c = 6 then -124 else if c = 7 then -38 else if c = 8 then -60 else if c = 9 then -61 else if c = 10 then -62 else if c = 11 then -43 else if c = 12 then -45 else if c = 13 then -42 else if c = 14 then -47 else if c = 15 then -37 else if c = 16 then -33 else -1
/-- how high the stack stands behind some codes -/
def dep : Nat → List Int32 → Option Nat
  | d, [] => some d
  | d, c :: r => if 18 ≤ c ∨ c ≤ 5 then dep (d + 1) r else if c = 16 ∨ c = 17 then (if 1 ≤ d then dep d r else none) else if 2 ≤ d then dep (d - 1) r else none
def valid (l : List Int32) : Prop := dep 0 l = some 1 ∧ ∀ c ∈ l, 0 ≤ c ∧ c ≤ 10017
abbrev Lines : Type := List (List Int32 × List Int32)
def flM (L : Lines) : List Int32 := L.flatMap (fun q => q.1 ++ q.2)
def lnC (q : List Int32 × List Int32) (base : Nat) : List Int32 := if q.1 = [] then q.2.map phi ++ [-3] else q.1.map phi ++ [-2, nI (base + q.1.length + 2 + q.2.length + 1)] ++ q.2.map phi ++ [-3]
def flC : Nat → Lines → List Int32
  | _, [] => []
  | b, q :: r => lnC q b ++ flC (b + (lnC q b).length) r
def LawR (len told lines : Int32) (asks says ends code steps : Nat → Int32) : Prop := (len = 0 ∧ told = 0) ∨ ∃ L : Lines, L ≠ [] ∧ told = 1 ∧ lines = nI L.length ∧ L.length ≤ 60 ∧ (flM L).length ≤ 120 ∧ (flC 0 L).length ≤ 240 ∧ len = nI (flC 0 L).length ∧
  (∀ (i : Nat) (q : List Int32 × List Int32), L[i]? = some q → asks i = nI (flM (L.take i)).length ∧ says i = nI ((flM (L.take i)).length + q.1.length) ∧ ends i = nI ((flM (L.take i)).length + q.1.length + q.2.length) ∧ valid q.2 ∧ (q.1 = [] ∨ valid q.1)) ∧
  (∀ (j : Nat) (c : Int32), (flM L)[j]? = some c → code j = c) ∧ ∀ (j : Nat) (c : Int32), (flC 0 L)[j]? = some c → steps j = c
def IvL (M : Mem) : Prop := (M.2.2 = (9, 10) ∨ M.2.2 = (10, 9)) ∧ LawR (M.1 7 6) (M.1 66 8) (M.1 66 9) (M.1 72) (M.1 73) (M.1 74) (M.1 75) (M.1 M.2.2.2)
def Inv (M : Mem) : Prop := ∃ p n : Nat, IvN p M ∧ IvT M ∧ IvD M ∧ IvI p M ∧ IvC p M ∧ IvB n M ∧ IvS n M ∧ IvZ M ∧ IvL M
/-- a call of both: the same answer, and all holds again -/
def Sim {α : Type} (f g : Mem → Option (α × Mem)) : Prop := ∀ M, Inv M → ∃ r M1 M2, f M = some (r, M1) ∧ g M1 = some (r, M2) ∧ Inv M2
def SimR {α : Type} (f g : Mem → Option α) : Prop := ∀ M, Inv M → ∃ r, f M = some r ∧ g M = some r
/-! each part of what holds rests on its own cells alone -/
theorem IvT.congr {M M' : Mem} (h : IvT M) (h0 : M'.1 7 0 = M.1 7 0) (h1 : M'.1 66 6 = M.1 66 6) (h2 : M'.1 8 = M.1 8) (h3 : M'.1 71 = M.1 71) : IvT M' := by
  unfold IvT
  simp only [h0, h1, h2, h3]
  exact h
theorem IvD.congr {M M' : Mem} (h : IvD M) (h0 : M'.1 82 = M.1 82) (h1 : M'.1 34 = M.1 34) : IvD M' := by
  unfold IvD
  simp only [h0, h1]
  exact h
theorem IvI.congr {M M' : Mem} {p : Nat} (h : IvI p M) (h0 : M'.1 0 10 = M.1 0 10) (h1 : M'.1 66 25 = M.1 66 25) (h2 : M'.1 66 26 = M.1 66 26) (h3 : M'.1 83 = M.1 83) (h4 : M'.1 61 = M.1 61) (h5 : M'.1 62 = M.1 62) (h6 : M'.1 63 = M.1 63) (h7 : M'.1 64 = M.1 64) (h8 : M'.1 60 4 = M.1 60 4) (h9 : M'.1 84 = M.1 84) (h10 : M'.1 35 = M.1 35) : IvI p M' := by
  unfold IvI
  simp only [h0, h1, h2, h3, h4, h5, h6, h7, h8, h9, h10]
  exact h
theorem IvC.congr {M M' : Mem} {p : Nat} (h : IvC p M) (h0 : M'.1 15 4 = M.1 15 4) (h1 : M'.1 15 5 = M.1 15 5) (h2 : M'.1 66 30 = M.1 66 30) (h3 : M'.1 66 29 = M.1 66 29) (h4 : M'.1 85 = M.1 85) (h5 : M'.1 16 = M.1 16) (h6 : M'.1 17 = M.1 17) (h7 : M'.1 18 = M.1 18) (h8 : M'.1 19 = M.1 19) : IvC p M' := by
  unfold IvC
  simp only [h0, h1, h2, h3, h4, h5, h6, h7, h8]
  exact h
theorem IvB.congr {M M' : Mem} {n : Nat} (h : IvB n M) (h0 : M'.1 20 0 = M.1 20 0) (h1 : M'.1 20 1 = M.1 20 1) (h2 : M'.1 66 32 = M.1 66 32) (h3 : M'.1 66 34 = M.1 66 34) (h4 : M'.1 86 = M.1 86) (h5 : M'.1 22 = M.1 22) (h6 : M'.1 87 = M.1 87) (h7 : M'.1 21 = M.1 21) : IvB n M' := by
  unfold IvB
  simp only [h0, h1, h2, h3, h4, h5, h6, h7]
  exact h
theorem IvS.congr {M M' : Mem} {n : Nat} (h : IvS n M) (h0 : M'.1 24 = M.1 24) (h1 : M'.1 25 = M.1 25) (h2 : M'.1 88 = M.1 88) (h3 : M'.1 89 = M.1 89) (h4 : M'.2.1 = M.2.1) : IvS n M' := by
  unfold IvS
  simp only [h0, h1, h2, h3, h4]
  exact h
theorem IvZ.congr {M M' : Mem} (h : IvZ M) (h0 : M'.1 41 = M.1 41) (h1 : M'.1 47 = M.1 47) (h2 : M'.1 53 = M.1 53) (h3 : M'.1 59 = M.1 59) : IvZ M' := by
  unfold IvZ
  simp only [h0, h1, h2, h3]
  exact h
theorem IvL.congr {M M' : Mem} (h : IvL M) (h0 : M'.2.2 = M.2.2) (h1 : M'.1 7 6 = M.1 7 6) (h2 : M'.1 66 8 = M.1 66 8) (h3 : M'.1 66 9 = M.1 66 9) (h4 : M'.1 72 = M.1 72) (h5 : M'.1 73 = M.1 73) (h6 : M'.1 74 = M.1 74) (h7 : M'.1 75 = M.1 75) (h8 : M'.1 9 = M.1 9) (h9 : M'.1 10 = M.1 10) : IvL M' := by
  obtain ⟨hc, h⟩ := h
  have e : M'.1 M'.2.2.2 = M.1 M.2.2.2 := by rw [h0]; rcases hc with hc | hc <;> (rw [hc]; assumption)
  refine ⟨by rw [h0]; exact hc, ?_⟩
  rw [e, h1, h2, h3, h4, h5, h6, h7]
  exact h
theorem IvN.congr {M M' : Mem} {p : Nat} (h : IvN p M) (h0 : M'.1 2 4 = M.1 2 4) (h1 : M'.1 66 3 = M.1 66 3) (h2 : M'.1 67 = M.1 67) (h3 : M'.1 3 = M.1 3) (h4 : M'.1 68 = M.1 68) (h5 : M'.1 37 = M.1 37) (h6 : M'.1 69 = M.1 69) (h7 : M'.1 38 = M.1 38) (h8 : M'.1 70 = M.1 70) (h9 : M'.1 39 = M.1 39) (h10 : M'.1 5 = M.1 5) (h11 : M'.1 6 = M.1 6) (h12 : M'.1 40 = M.1 40) (h13 : M'.1 66 5 = M.1 66 5) (h14 : M'.1 36 4 = M.1 36 4) (h15 : M'.1 4 = M.1 4) : IvN p M' := by
  unfold IvN
  simp only [h0, h1, h2, h3, h4, h5, h6, h7, h8, h9, h10, h11, h12, h13, h14, h15]
  exact h
