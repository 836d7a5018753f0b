def shpL : List (Nat × Nat) := [(13, 11), (12, 3), (10, 5), (0, 36), (0, 36), (0, 8), (0, 8), (6, 14), (0, 120), (0, 240), (0, 240), (0, 120), (9, 5), (0, 36), (11, 8), (5, 6), (0, 40), (0, 40), (0, 40), (0, 40), (4, 4), (0, 24), (0, 50), (7, 3), (0, 6), (0, 6), (2, 6), (1, 60), (1, 60), (1, 60), (1, 60), (1, 60), (1, 60), (3, 3), (0, 5), (0, 5), (8, 9), (0, 36), (0, 36), (0, 8), (0, 8), (0, 36), (8, 9), (0, 36), (0, 36), (0, 8), (0, 8), (0, 36), (8, 9), (0, 36), (0, 36), (0, 8), (0, 8), (0, 36), (8, 9), (0, 36), (0, 36), (0, 8), (0, 8), (0, 36), (8, 9), (0, 36), (0, 36), (0, 8), (0, 8), (0, 36), (14, 45), (0, 36), (0, 36), (0, 36), (0, 32), (0, 120), (0, 60), (0, 60), (0, 60), (0, 200), (0, 61), (0, 61), (0, 61), (0, 200), (0, 200), (0, 6), (0, 5), (0, 105), (0, 5), (0, 160), (0, 50), (0, 24), (0, 6), (0, 6), (1, 360), (0, 36), (0, 105), (0, 105), (0, 105)]
def shp (k : Nat) : Nat × Nat := shpL.getD k (9, 0)
/-- a field's kind: 0 int or boolean, 1 long, 2 a reference -/
def ftyL : List (List Nat) := [[1, 1, 0], [0, 0, 2, 2], [2, 2, 2, 2, 0, 0], [0, 2, 0, 2, 0, 2, 0, 2, 0, 0, 0, 0, 0, 0], [2, 2, 2], [2, 2, 2, 2, 0, 0, 0, 0, 2], [2, 2, 0, 0, 0], [2, 2, 2, 2, 0], [2, 2, 0, 0, 0, 0, 0, 0], [2, 2, 2], [2, 2, 2, 2, 2, 2, 2, 2, 2, 2, 0], [2, 2, 2, 0, 2, 0, 0, 2, 0, 0, 2, 2, 2, 2, 0, 0, 0, 0, 2, 2, 2, 2, 2, 2, 2, 0, 0, 2, 2, 0, 0, 2, 0, 2, 0, 2, 2, 2, 2, 2, 0, 0, 2, 2, 2]]
def fty (c f : Nat) : Nat := (ftyL.getD c []).getD f 9
def rfL : List (List Nat) := [[1, 12, 14, 15, 20, 23, 33, 34, 60, 35, 0], [2, 36, 7], [3, 4, 5, 6, 0], [], [], [], [], [0, 8, 0, 9, 0, 10, 0, 11, 0, 0, 0, 0, 0, 0], [], [], [], [], [42, 13, 0, 0, 0], [], [48, 54, 0, 0, 0, 0, 0, 0], [16, 17, 18, 19, 0, 0], [], [], [], [], [0, 0, 21, 22], [], [], [24, 25, 26], [], [], [], [], [], [], [], [], [], [0, 0, 0], [], [], [37, 38, 39, 40, 0, 0, 0, 0, 41], [], [], [], [], [], [43, 44, 45, 46, 0, 0, 0, 0, 47], [], [], [], [], [], [49, 50, 51, 52, 0, 0, 0, 0, 53], [], [], [], [], [], [55, 56, 57, 58, 0, 0, 0, 0, 59], [], [], [], [], [], [61, 62, 63, 64, 0, 0, 0, 0, 65], [], [], [], [], [], [67, 68, 69, 0, 70, 0, 0, 71, 0, 0, 72, 73, 74, 75, 0, 0, 0, 0, 76, 77, 78, 79, 80, 81, 82, 0, 0, 83, 84, 0, 0, 85, 0, 86, 0, 87, 88, 89, 90, 91, 0, 0, 92, 93, 94], [], [], [], [], [], [], [], [], [], [], [], [], [], [], [], [], [], [], [], [], [], [], [], [], [], [], [], []]
def rfS (o f : Nat) : Nat := (rfL.getD o []).getD f 0
def rfM (M : Mem) (o f : Nat) : Nat := if o = 7 ∧ f = 3 then M.2.2.1 else if o = 7 ∧ f = 5 then M.2.2.2 else rfS o f
/-- a run's own data: the tables' numbers, the cells' addresses, the arrays' classes, the static tables' addresses -/
abbrev Rig : Type := va_G × (Nat → Nat) × (Nat → ClassId) × (Nat → Nat)
def fldV (N : Rig) (M : Mem) (o c f : Nat) : Value := match fty c f with
  | 0 => .int (M.1 o f)
  | 1 => .long (M.2.1 o f)
  | _ => .ref (N.2.1 (rfM M o f))
def cellE (N : Rig) (M : Mem) (k : Nat) : va_E := match (shp k).1 with
  | 0 => .inl (N.2.2.1 k, (shp k).2, .inl (M.1 k))
  | 1 => .inl (N.2.2.1 k, (shp k).2, .inr (.inl (M.2.1 k)))
  | 2 => .inl (N.2.2.1 k, (shp k).2, .inr (.inr (.inr (.inr (fun i => some (N.2.1 (27 + i)))))))
  | c + 3 => .inr (c, (List.range (shp k).2).map (fldV N M k c))
def wld (N : Rig) (M : Mem) : va_W := (List.range 95).map (fun k => (N.2.1 k, cellE N M k))
def AwS (N : Rig) : Nat → Prop := fun q => ∃ k, k < 95 ∧ q = N.2.1 k
def atyL (k : Nat) : FieldType := match (shp k).1 with | 0 => .int | 1 => .long | _ => .array .long
def sN (j : Nat) : String × String × Nat × (Nat → Int32) := match j with | 0 => (RX10, "GREATEST", 8, tbG) | 1 => (RX1, "ABOVE", 8, tbA) | _ => (RX1, "OWN", 32, tbO)
/-- the tables at a state, and the static tables, which nobody writes -/
def Ok (N : Rig) (U : State) : Prop := va_K N.1 vwCl [] U ∧ (∀ k, k < 95 → (shp k).1 < 3 → ArrOfT U (N.2.2.1 k) (atyL k) ∧ va_RA U (N.2.2.1 k) (atyL k)) ∧ (∀ i j, i < 95 → j < 95 → N.2.1 i = N.2.1 j → i = j) ∧
  (∀ j, j < 3 → va_Z (sN j).1 (sN j).2.1 "[I" (.ref (N.2.2.2 j)) (AwS N) U U.heap ∧ va_T .int (N.2.2.2 j) (sN j).2.2.1 (fun i => .int ((sN j).2.2.2 i)) (AwS N) U U.heap) ∧
  va_Nw (.methodLinkNest RX9 50 yX10_isCell "LuckShoes") U ∧ va_Nw (.fieldLinkNest RX9 62 "LuckShoes" "GREATEST" "[I" "LuckShoes") U
theorem Ok.same {N : Rig} {u U : State} (h : Ok N u) (h1 : u.vm = U.vm) (h2 : u.heap = U.heap) : Ok N U := by
  have ha : u.vm.Alike U.vm := h1 ▸ Vm.Alike.refl u.vm
  refine ⟨va_K.moved ha h.1, fun k hk h3 => ⟨arrOfT_moved ha (h.2.1 k hk h3).1, (h.2.1 k hk h3).2.moved ha⟩, h.2.2.1, fun j hj => ?_, va_Nw.same rfl h1 h.2.2.2.2.1, va_Nw.same rfl h1 h.2.2.2.2.2⟩
  rw [← h2]
  exact ⟨(h.2.2.2.1 j hj).1.moved ha, (h.2.2.2.1 j hj).2.moved ha⟩
theorem Ok.warm {N : Rig} {u U : State} {H : Heap} {locs : List Loc} (h : Ok N u) (hW : u.WarmedH U.vm) (hH : U.heap = H) (hS : va_S (AwS N) u.heap H locs) : Ok N U := by
  have ha : u.vm.Alike U.vm := hW.alike
  refine ⟨va_K.moved ha h.1, fun k hk h3 => ⟨arrOfT_moved ha (h.2.1 k hk h3).1, (h.2.1 k hk h3).2.moved ha⟩, h.2.2.1, fun j hj => ?_, va_Nw.warmM hW h.2.2.2.2.1, va_Nw.warmF hW h.2.2.2.2.2⟩
  rw [hH]
  exact ⟨((h.2.2.2.1 j hj).1.moved ha).kept hS.2.1, ((h.2.2.2.1 j hj).2.moved ha).kept hS.2.1⟩
theorem wld_at (N : Rig) (M : Mem) {k : Nat} (hk : k < 95) : (wld N M)[k]? = some (N.2.1 k, cellE N M k) := by
  unfold wld
  rw [List.getElem?_map, List.getElem?_range hk]
  rfl
theorem wld_D {N : Rig} {U : State} (h : Ok N U) (M : Mem) : va_D (AwS N) (wld N M) := by
  have key : ∀ (k : Nat) (q : Nat × va_E), (wld N M)[k]? = some q → k < 95 ∧ q.1 = N.2.1 k := by
    intro k q hq
    have hk : k < 95 := by
      have := (List.getElem?_eq_some_iff.mp hq).1
      simpa [wld] using this
    rw [wld_at N M hk] at hq
    cases hq
    exact ⟨hk, rfl⟩
  refine ⟨fun i j p q hp hq e => ?_, fun k q hq => ⟨k, key k q hq⟩⟩
  obtain ⟨h1, h2⟩ := key i p hp
  obtain ⟨h3, h4⟩ := key j q hq
  exact h.2.2.1 i j h1 h3 (by rw [← h2, ← h4]; exact e)
theorem wld_set {N : Rig} {M M' : Mem} {k : Nat} {e : va_E} (hk : k < 95) (he : e = cellE N M' k) (ho : ∀ j, j ≠ k → cellE N M' j = cellE N M j) : (wld N M).set k (N.2.1 k, e) = wld N M' := by
  subst he
  apply List.ext_getElem?
  intro j
  by_cases hj : j < 95
  · rw [wld_at N M' hj]
    by_cases e : k = j
    · subst e
      rw [List.getElem?_set_self (by simpa [wld] using hk)]
    · rw [List.getElem?_set_ne e, wld_at N M hj, ho j (fun q => e q.symm)]
  · rw [List.getElem?_eq_none (by simp [wld]; omega), List.getElem?_eq_none (by simp [wld]; omega)]
theorem shp_lt {k a n : Nat} (h : shp k = (a, n)) (ha : a ≠ 9) : k < 95 := by
  rcases Nat.lt_or_ge k 95 with q | q
  · exact q
  · have hl : shpL.length ≤ k := q
    unfold shp at h
    rw [List.getD_eq_getElem?_getD, List.getElem?_eq_none hl] at h
    cases h
    exact absurd rfl ha
theorem cellE_i {N : Rig} {M : Mem} {k n : Nat} (h : shp k = (0, n)) : cellE N M k = .inl (N.2.2.1 k, n, .inl (M.1 k)) := by unfold cellE; rw [h]
theorem cellE_l {N : Rig} {M : Mem} {k n : Nat} (h : shp k = (1, n)) : cellE N M k = .inl (N.2.2.1 k, n, .inr (.inl (M.2.1 k))) := by unfold cellE; rw [h]
theorem cellE_r {N : Rig} {M : Mem} {k n : Nat} (h : shp k = (2, n)) : cellE N M k = .inl (N.2.2.1 k, n, .inr (.inr (.inr (.inr (fun i => some (N.2.1 (27 + i))))))) := by unfold cellE; rw [h]
theorem cellE_o {N : Rig} {M : Mem} {k c n : Nat} (h : shp k = (c + 3, n)) : cellE N M k = .inr (c, (List.range n).map (fldV N M k c)) := by unfold cellE; rw [h]
theorem fld_at {N : Rig} {M : Mem} {k c n f : Nat} (hf : f < n) : ((List.range n).map (fldV N M k c))[f]? = some (fldV N M k c f) := by
  rw [List.getElem?_map, List.getElem?_range hf]
  rfl
theorem fldV_i {N : Rig} {M : Mem} {o c f : Nat} (h : fty c f = 0) : fldV N M o c f = .int (M.1 o f) := by unfold fldV; rw [h] <;> rfl
theorem fldV_l {N : Rig} {M : Mem} {o c f : Nat} (h : fty c f = 1) : fldV N M o c f = .long (M.2.1 o f) := by unfold fldV; rw [h] <;> rfl
theorem fldV_r {N : Rig} {M : Mem} {o c f : Nat} (h : fty c f = 2) : fldV N M o c f = .ref (N.2.1 (rfM M o f)) := by unfold fldV; rw [h] <;> rfl
theorem upA_same (M : Mem) (a : Nat) (f : Nat → Int32) : (upA M a f).1 a = f := if_pos rfl
theorem upA_ne (M : Mem) {a b : Nat} (f : Nat → Int32) (h : b ≠ a) : (upA M a f).1 b = M.1 b := if_neg h
theorem upL_same (M : Mem) (a : Nat) (f : Nat → Int64) : (upL M a f).2.1 a = f := if_pos rfl
theorem upL_ne (M : Mem) {a b : Nat} (f : Nat → Int64) (h : b ≠ a) : (upL M a f).2.1 b = M.2.1 b := if_neg h
/-- what a cell is rests on its own ints, longs, and Law's two names -/
theorem cellE_congr {N : Rig} {M M' : Mem} {j : Nat} (h1 : M'.1 j = M.1 j) (h2 : M'.2.1 j = M.2.1 j) (h3 : j = 7 → M'.2.2 = M.2.2) : cellE N M' j = cellE N M j := by
  have hr : ∀ f, rfM M' j f = rfM M j f := fun f => by
    unfold rfM
    by_cases e : j = 7
    · rw [h3 e]
    · simp [e]
  have hf : ∀ c f, fldV N M' j c f = fldV N M j c f := fun c f => by
    unfold fldV
    rw [h1, h2, hr]
  unfold cellE
  rw [h1, h2]
  split
  · rfl
  · rfl
  · rfl
  · rename_i c _
    rw [List.map_congr_left (fun f _ => hf c f)]
theorem obj_set {N : Rig} {M M' : Mem} {o c n f : Nat} {v : Value} (ho : ∀ g, g ≠ f → fldV N M' o c g = fldV N M o c g) (hv : fldV N M' o c f = v) : ((List.range n).map (fldV N M o c)).set f v = (List.range n).map (fldV N M' o c) := by
  apply List.ext_getElem?
  intro j
  by_cases hj : j < n
  · rw [fld_at hj]
    by_cases e : f = j
    · subst e
      rw [List.getElem?_set_self (by simpa using hj), hv]
    · rw [List.getElem?_set_ne e, fld_at hj, ho j (fun q => e q.symm)]
  · rw [List.getElem?_eq_none (by simp; omega), List.getElem?_eq_none (by simp; omega)]
/-! THE WALK over worlds -/
abbrev Amb : Type := Program × Launch × Env × Room × State × MethodId × Array Value × List Frame × Method × Code × Rig × (State → Prop) × Nat × Nat × Nat
def WA (X : Amb) (M : Mem) (lv : List (Nat × Value)) (pc : Nat) (st : List Value) : Prop := match X with
  | (p, l, e, R, s, m, args, below, meth, c, N, Q, nL, cells, slots) => ∀ (H : Heap) (locs : List Loc) (ls : Array Slot), va_P N.1 vwCl (wld N M) H → va_S (AwS N) s.heap H locs → lv_has ls nL lv → W p l e R s m args below meth c H locs cells slots Q (F0 m pc ls st)
/-- what a walk may use: k calls deep -/
def Cx (X : Amb) (own : String) (cc : ByteArray) (k : Nat) : Prop := match X with
  | (p, _, _, R, s, m, args, _, _, c, N, _, nL, cells, slots) => p.tables.exec = Jvm.exec ∧ c.code = cc ∧ c.maxLocals = nL ∧ s.vm.findClass own = some m.cls ∧ (∀ w ∈ TB, w.before args s = true) ∧ Ok N s ∧ k ≤ R.frames ∧ 50 * k ≤ R.locals ∧ cells ≤ R.cells ∧ slots ≤ R.slots
abbrev Amb.N (X : Amb) : Rig := X.2.2.2.2.2.2.2.2.2.2.1
abbrev Amb.l (X : Amb) : Launch := X.2.1
abbrev Amb.nL (X : Amb) : Nat := X.2.2.2.2.2.2.2.2.2.2.2.2.1
section WAR
variable {X : Amb} {own : String} {cc : ByteArray} {kc : Nat} {M : Mem} {lv : List (Nat × Value)} {pc : Nat} {st : List Value}
theorem a_iload_n (C : Cx X own cc kc) {k : Fin 4} {i : Nat} {x : Int32} (d : decode cc pc = .ok (.iload_n k, 1)) (hi : (k : Nat) = i) (j : Nat) (h : lv[j]? = some (i, .int x)) (kk : WA X M lv (pc + 1) (.int x :: st)) : WA X M lv pc (st) := by
  obtain ⟨p, l, e, R, s, m, args, below, meth, c, N, Q, nL, cells, slots⟩ := X
  obtain ⟨hx, hb, hml, hown, hts, hO, -⟩ := C
  intro H locs ls hP hS hl
  exact lv_iload_n hx hb d hi (lv_at hl j h) (kk H locs ls hP hS hl)
theorem a_iload (C : Cx X own cc kc) {i : Nat} {x : Int32} (d : decode cc pc = .ok (.iload i, 2)) (j : Nat) (h : lv[j]? = some (i, .int x)) (kk : WA X M lv (pc + 2) (.int x :: st)) : WA X M lv pc (st) := by
  obtain ⟨p, l, e, R, s, m, args, below, meth, c, N, Q, nL, cells, slots⟩ := X
  obtain ⟨hx, hb, hml, hown, hts, hO, -⟩ := C
  intro H locs ls hP hS hl
  exact lv_iload hx hb d (lv_at hl j h) (kk H locs ls hP hS hl)
theorem a_lload_n (C : Cx X own cc kc) {k : Fin 4} {i : Nat} {x : Int64} (d : decode cc pc = .ok (.lload_n k, 1)) (hi : (k : Nat) = i) (j : Nat) (h : lv[j]? = some (i, .long x)) (kk : WA X M lv (pc + 1) (.long x :: st)) : WA X M lv pc (st) := by
  obtain ⟨p, l, e, R, s, m, args, below, meth, c, N, Q, nL, cells, slots⟩ := X
  obtain ⟨hx, hb, hml, hown, hts, hO, -⟩ := C
  intro H locs ls hP hS hl
  exact lv_lload_n hx hb d hi (lv_at hl j h) (kk H locs ls hP hS hl)
theorem a_lload (C : Cx X own cc kc) {i : Nat} {x : Int64} (d : decode cc pc = .ok (.lload i, 2)) (j : Nat) (h : lv[j]? = some (i, .long x)) (kk : WA X M lv (pc + 2) (.long x :: st)) : WA X M lv pc (st) := by
  obtain ⟨p, l, e, R, s, m, args, below, meth, c, N, Q, nL, cells, slots⟩ := X
  obtain ⟨hx, hb, hml, hown, hts, hO, -⟩ := C
  intro H locs ls hP hS hl
  exact lv_lload hx hb d (lv_at hl j h) (kk H locs ls hP hS hl)
theorem a_aload_n (C : Cx X own cc kc) {k : Fin 4} {i : Nat} {x : Nat} (d : decode cc pc = .ok (.aload_n k, 1)) (hi : (k : Nat) = i) (j : Nat) (h : lv[j]? = some (i, .ref x)) (kk : WA X M lv (pc + 1) (.ref x :: st)) : WA X M lv pc (st) := by
  obtain ⟨p, l, e, R, s, m, args, below, meth, c, N, Q, nL, cells, slots⟩ := X
  obtain ⟨hx, hb, hml, hown, hts, hO, -⟩ := C
  intro H locs ls hP hS hl
  exact lv_aload_n hx hb d hi (lv_at hl j h) (kk H locs ls hP hS hl)
theorem a_aload (C : Cx X own cc kc) {i : Nat} {x : Nat} (d : decode cc pc = .ok (.aload i, 2)) (j : Nat) (h : lv[j]? = some (i, .ref x)) (kk : WA X M lv (pc + 2) (.ref x :: st)) : WA X M lv pc (st) := by
  obtain ⟨p, l, e, R, s, m, args, below, meth, c, N, Q, nL, cells, slots⟩ := X
  obtain ⟨hx, hb, hml, hown, hts, hO, -⟩ := C
  intro H locs ls hP hS hl
  exact lv_aload hx hb d (lv_at hl j h) (kk H locs ls hP hS hl)
theorem a_istore_n (C : Cx X own cc kc) {k : Fin 4} {i : Nat} {x : Int32} (lv2 : List (Nat × Value)) (d : decode cc pc = .ok (.istore_n k, 1)) (hi : (k : Nat) = i) (hn : i < X.nL) (h2 : (i, Value.int x) :: lv.filter (fun q => !(q.1 == i) && !(q.1 + 1 == i && q.2.category == 2)) = lv2) (kk : WA X M lv2 (pc + 1) (st)) : WA X M lv pc (.int x :: st) := by
  obtain ⟨p, l, e, R, s, m, args, below, meth, c, N, Q, nL, cells, slots⟩ := X
  obtain ⟨hx, hb, hml, hown, hts, hO, -⟩ := C
  intro H locs ls hP hS hl
  exact lv_istore_n hx hb d hi hl hn h2 (fun ls hl => (kk H locs ls hP hS hl))
theorem a_istore (C : Cx X own cc kc) {i : Nat} {x : Int32} (lv2 : List (Nat × Value)) (d : decode cc pc = .ok (.istore i, 2)) (hn : i < X.nL) (h2 : (i, Value.int x) :: lv.filter (fun q => !(q.1 == i) && !(q.1 + 1 == i && q.2.category == 2)) = lv2) (kk : WA X M lv2 (pc + 2) (st)) : WA X M lv pc (.int x :: st) := by
  obtain ⟨p, l, e, R, s, m, args, below, meth, c, N, Q, nL, cells, slots⟩ := X
  obtain ⟨hx, hb, hml, hown, hts, hO, -⟩ := C
  intro H locs ls hP hS hl
  exact lv_istore hx hb d hl hn h2 (fun ls hl => (kk H locs ls hP hS hl))
theorem a_lstore_n (C : Cx X own cc kc) {k : Fin 4} {i : Nat} {x : Int64} (lv2 : List (Nat × Value)) (d : decode cc pc = .ok (.lstore_n k, 1)) (hi : (k : Nat) = i) (hn : i + 1 < X.nL) (h2 : (i, Value.long x) :: lv.filter (fun q => !(q.1 == i) && (!(q.1 == i + 1) && !(q.1 + 1 == i && q.2.category == 2))) = lv2) (kk : WA X M lv2 (pc + 1) (st)) : WA X M lv pc (.long x :: st) := by
  obtain ⟨p, l, e, R, s, m, args, below, meth, c, N, Q, nL, cells, slots⟩ := X
  obtain ⟨hx, hb, hml, hown, hts, hO, -⟩ := C
  intro H locs ls hP hS hl
  exact lv_lstore_n hx hb d hi hl hn h2 (fun ls hl => (kk H locs ls hP hS hl))
theorem a_lstore (C : Cx X own cc kc) {i : Nat} {x : Int64} (lv2 : List (Nat × Value)) (d : decode cc pc = .ok (.lstore i, 2)) (hn : i + 1 < X.nL) (h2 : (i, Value.long x) :: lv.filter (fun q => !(q.1 == i) && (!(q.1 == i + 1) && !(q.1 + 1 == i && q.2.category == 2))) = lv2) (kk : WA X M lv2 (pc + 2) (st)) : WA X M lv pc (.long x :: st) := by
  obtain ⟨p, l, e, R, s, m, args, below, meth, c, N, Q, nL, cells, slots⟩ := X
  obtain ⟨hx, hb, hml, hown, hts, hO, -⟩ := C
  intro H locs ls hP hS hl
  exact lv_lstore hx hb d hl hn h2 (fun ls hl => (kk H locs ls hP hS hl))
theorem a_astore_n (C : Cx X own cc kc) {k : Fin 4} {i : Nat} {x : Nat} (lv2 : List (Nat × Value)) (d : decode cc pc = .ok (.astore_n k, 1)) (hi : (k : Nat) = i) (hn : i < X.nL) (h2 : (i, Value.ref x) :: lv.filter (fun q => !(q.1 == i) && !(q.1 + 1 == i && q.2.category == 2)) = lv2) (kk : WA X M lv2 (pc + 1) (st)) : WA X M lv pc (.ref x :: st) := by
  obtain ⟨p, l, e, R, s, m, args, below, meth, c, N, Q, nL, cells, slots⟩ := X
  obtain ⟨hx, hb, hml, hown, hts, hO, -⟩ := C
  intro H locs ls hP hS hl
  exact lv_astore_n hx hb d hi hl hn h2 (fun ls hl => (kk H locs ls hP hS hl))
theorem a_astore (C : Cx X own cc kc) {i : Nat} {x : Nat} (lv2 : List (Nat × Value)) (d : decode cc pc = .ok (.astore i, 2)) (hn : i < X.nL) (h2 : (i, Value.ref x) :: lv.filter (fun q => !(q.1 == i) && !(q.1 + 1 == i && q.2.category == 2)) = lv2) (kk : WA X M lv2 (pc + 2) (st)) : WA X M lv pc (.ref x :: st) := by
  obtain ⟨p, l, e, R, s, m, args, below, meth, c, N, Q, nL, cells, slots⟩ := X
  obtain ⟨hx, hb, hml, hown, hts, hO, -⟩ := C
  intro H locs ls hP hS hl
  exact lv_astore hx hb d hl hn h2 (fun ls hl => (kk H locs ls hP hS hl))
theorem a_iinc (C : Cx X own cc kc) {i : Nat} {n : Int} {x : Int32} (j : Nat) (v : Int32) (lv2 : List (Nat × Value)) (d : decode cc pc = .ok (.iinc i n, 3)) (hj : lv[j]? = some (i, .int x)) (hv : x + Int32.ofInt n = v) (hn : i < X.nL) (h2 : (i, Value.int v) :: lv.filter (fun q => !(q.1 == i) && !(q.1 + 1 == i && q.2.category == 2)) = lv2) (kk : WA X M lv2 (pc + 3) (st)) : WA X M lv pc (st) := by
  obtain ⟨p, l, e, R, s, m, args, below, meth, c, N, Q, nL, cells, slots⟩ := X
  obtain ⟨hx, hb, hml, hown, hts, hO, -⟩ := C
  intro H locs ls hP hS hl
  exact lv_iinc hx hb d hl hj hv hn h2 (fun ls hl => (kk H locs ls hP hS hl))
theorem a_iconst (C : Cx X own cc kc) {n : Int} (v : Int32) (d : decode cc pc = .ok (.iconst n, 1)) (hv : Int32.ofInt n = v) (kk : WA X M lv (pc + 1) (.int v :: st)) : WA X M lv pc (st) := by
  obtain ⟨p, l, e, R, s, m, args, below, meth, c, N, Q, nL, cells, slots⟩ := X
  obtain ⟨hx, hb, hml, hown, hts, hO, -⟩ := C
  intro H locs ls hP hS hl
  exact lv_iconst hx hb d hv (kk H locs ls hP hS hl)
theorem a_bipush (C : Cx X own cc kc) {n : Int} (v : Int32) (d : decode cc pc = .ok (.bipush n, 2)) (hv : (Int8.ofInt n).toInt32 = v) (kk : WA X M lv (pc + 2) (.int v :: st)) : WA X M lv pc (st) := by
  obtain ⟨p, l, e, R, s, m, args, below, meth, c, N, Q, nL, cells, slots⟩ := X
  obtain ⟨hx, hb, hml, hown, hts, hO, -⟩ := C
  intro H locs ls hP hS hl
  exact lv_bipush hx hb d hv (kk H locs ls hP hS hl)
theorem a_sipush (C : Cx X own cc kc) {n : Int} (v : Int32) (d : decode cc pc = .ok (.sipush n, 3)) (hv : (Int16.ofInt n).toInt32 = v) (kk : WA X M lv (pc + 3) (.int v :: st)) : WA X M lv pc (st) := by
  obtain ⟨p, l, e, R, s, m, args, below, meth, c, N, Q, nL, cells, slots⟩ := X
  obtain ⟨hx, hb, hml, hown, hts, hO, -⟩ := C
  intro H locs ls hP hS hl
  exact lv_sipush hx hb d hv (kk H locs ls hP hS hl)
theorem a_lconst (C : Cx X own cc kc) {n : Fin 2} (v : Int64) (d : decode cc pc = .ok (.lconst n, 1)) (hv : Int64.ofNat (n : Nat) = v) (kk : WA X M lv (pc + 1) (.long v :: st)) : WA X M lv pc (st) := by
  obtain ⟨p, l, e, R, s, m, args, below, meth, c, N, Q, nL, cells, slots⟩ := X
  obtain ⟨hx, hb, hml, hown, hts, hO, -⟩ := C
  intro H locs ls hP hS hl
  exact lv_lconst hx hb d hv (kk H locs ls hP hS hl)
theorem a_ldc (C : Cx X own cc kc) {index : Nat} {v : Int32} (d : decode cc pc = .ok (.ldc index, 2)) (hw : Cond.constant own index v ∈ TB) (kk : WA X M lv (pc + 2) (.int v :: st)) : WA X M lv pc (st) := by
  obtain ⟨p, l, e, R, s, m, args, below, meth, c, N, Q, nL, cells, slots⟩ := X
  obtain ⟨hx, hb, hml, hown, hts, hO, -⟩ := C
  intro H locs ls hP hS hl
  exact lv_ldc hx hb hown (hts _ hw) d (kk H locs ls hP hS hl)
theorem a_ldc_w (C : Cx X own cc kc) {index : Nat} {v : Int32} (d : decode cc pc = .ok (.ldc_w index, 3)) (hw : Cond.constant own index v ∈ TB) (kk : WA X M lv (pc + 3) (.int v :: st)) : WA X M lv pc (st) := by
  obtain ⟨p, l, e, R, s, m, args, below, meth, c, N, Q, nL, cells, slots⟩ := X
  obtain ⟨hx, hb, hml, hown, hts, hO, -⟩ := C
  intro H locs ls hP hS hl
  exact lv_ldcw hx hb hown (hts _ hw) d (kk H locs ls hP hS hl)
theorem a_ldc2_w (C : Cx X own cc kc) {index : Nat} {v : Int64} (d : decode cc pc = .ok (.ldc2_w index, 3)) (hw : Cond.constantLong own index v ∈ TB) (kk : WA X M lv (pc + 3) (.long v :: st)) : WA X M lv pc (st) := by
  obtain ⟨p, l, e, R, s, m, args, below, meth, c, N, Q, nL, cells, slots⟩ := X
  obtain ⟨hx, hb, hml, hown, hts, hO, -⟩ := C
  intro H locs ls hP hS hl
  exact lv_ldc2 hx hb hown (hts _ hw) d (kk H locs ls hP hS hl)
theorem a_iadd (C : Cx X own cc kc) {x y : Int32} (d : decode cc pc = .ok (.iadd, 1)) (kk : WA X M lv (pc + 1) (.int (x + y) :: st)) : WA X M lv pc (.int y :: .int x :: st) := by
  obtain ⟨p, l, e, R, s, m, args, below, meth, c, N, Q, nL, cells, slots⟩ := X
  obtain ⟨hx, hb, hml, hown, hts, hO, -⟩ := C
  intro H locs ls hP hS hl
  exact lv_iadd hx hb d (kk H locs ls hP hS hl)
theorem a_isub (C : Cx X own cc kc) {x y : Int32} (d : decode cc pc = .ok (.isub, 1)) (kk : WA X M lv (pc + 1) (.int (x - y) :: st)) : WA X M lv pc (.int y :: .int x :: st) := by
  obtain ⟨p, l, e, R, s, m, args, below, meth, c, N, Q, nL, cells, slots⟩ := X
  obtain ⟨hx, hb, hml, hown, hts, hO, -⟩ := C
  intro H locs ls hP hS hl
  exact lv_isub hx hb d (kk H locs ls hP hS hl)
theorem a_imul (C : Cx X own cc kc) {x y : Int32} (d : decode cc pc = .ok (.imul, 1)) (kk : WA X M lv (pc + 1) (.int (x * y) :: st)) : WA X M lv pc (.int y :: .int x :: st) := by
  obtain ⟨p, l, e, R, s, m, args, below, meth, c, N, Q, nL, cells, slots⟩ := X
  obtain ⟨hx, hb, hml, hown, hts, hO, -⟩ := C
  intro H locs ls hP hS hl
  exact lv_imul hx hb d (kk H locs ls hP hS hl)
theorem a_ior (C : Cx X own cc kc) {x y : Int32} (d : decode cc pc = .ok (.ior, 1)) (kk : WA X M lv (pc + 1) (.int (x ||| y) :: st)) : WA X M lv pc (.int y :: .int x :: st) := by
  obtain ⟨p, l, e, R, s, m, args, below, meth, c, N, Q, nL, cells, slots⟩ := X
  obtain ⟨hx, hb, hml, hown, hts, hO, -⟩ := C
  intro H locs ls hP hS hl
  exact lv_ior hx hb d (kk H locs ls hP hS hl)
theorem a_ixor (C : Cx X own cc kc) {x y : Int32} (d : decode cc pc = .ok (.ixor, 1)) (kk : WA X M lv (pc + 1) (.int (x ^^^ y) :: st)) : WA X M lv pc (.int y :: .int x :: st) := by
  obtain ⟨p, l, e, R, s, m, args, below, meth, c, N, Q, nL, cells, slots⟩ := X
  obtain ⟨hx, hb, hml, hown, hts, hO, -⟩ := C
  intro H locs ls hP hS hl
  exact lv_ixor hx hb d (kk H locs ls hP hS hl)
theorem a_iand (C : Cx X own cc kc) {x y : Int32} (d : decode cc pc = .ok (.iand, 1)) (kk : WA X M lv (pc + 1) (.int (x &&& y) :: st)) : WA X M lv pc (.int y :: .int x :: st) := by
  obtain ⟨p, l, e, R, s, m, args, below, meth, c, N, Q, nL, cells, slots⟩ := X
  obtain ⟨hx, hb, hml, hown, hts, hO, -⟩ := C
  intro H locs ls hP hS hl
  exact lv_iand hx hb d (kk H locs ls hP hS hl)
theorem a_ladd (C : Cx X own cc kc) {x y : Int64} (d : decode cc pc = .ok (.ladd, 1)) (kk : WA X M lv (pc + 1) (.long (x + y) :: st)) : WA X M lv pc (.long y :: .long x :: st) := by
  obtain ⟨p, l, e, R, s, m, args, below, meth, c, N, Q, nL, cells, slots⟩ := X
  obtain ⟨hx, hb, hml, hown, hts, hO, -⟩ := C
  intro H locs ls hP hS hl
  exact lv_ladd hx hb d (kk H locs ls hP hS hl)
theorem a_lsub (C : Cx X own cc kc) {x y : Int64} (d : decode cc pc = .ok (.lsub, 1)) (kk : WA X M lv (pc + 1) (.long (x - y) :: st)) : WA X M lv pc (.long y :: .long x :: st) := by
  obtain ⟨p, l, e, R, s, m, args, below, meth, c, N, Q, nL, cells, slots⟩ := X
  obtain ⟨hx, hb, hml, hown, hts, hO, -⟩ := C
  intro H locs ls hP hS hl
  exact lv_lsub hx hb d (kk H locs ls hP hS hl)
theorem a_lmul (C : Cx X own cc kc) {x y : Int64} (d : decode cc pc = .ok (.lmul, 1)) (kk : WA X M lv (pc + 1) (.long (x * y) :: st)) : WA X M lv pc (.long y :: .long x :: st) := by
  obtain ⟨p, l, e, R, s, m, args, below, meth, c, N, Q, nL, cells, slots⟩ := X
  obtain ⟨hx, hb, hml, hown, hts, hO, -⟩ := C
  intro H locs ls hP hS hl
  exact lv_lmul hx hb d (kk H locs ls hP hS hl)
theorem a_lor (C : Cx X own cc kc) {x y : Int64} (d : decode cc pc = .ok (.lor, 1)) (kk : WA X M lv (pc + 1) (.long (x ||| y) :: st)) : WA X M lv pc (.long y :: .long x :: st) := by
  obtain ⟨p, l, e, R, s, m, args, below, meth, c, N, Q, nL, cells, slots⟩ := X
  obtain ⟨hx, hb, hml, hown, hts, hO, -⟩ := C
  intro H locs ls hP hS hl
  exact lv_lor hx hb d (kk H locs ls hP hS hl)
theorem a_land (C : Cx X own cc kc) {x y : Int64} (d : decode cc pc = .ok (.land, 1)) (kk : WA X M lv (pc + 1) (.long (x &&& y) :: st)) : WA X M lv pc (.long y :: .long x :: st) := by
  obtain ⟨p, l, e, R, s, m, args, below, meth, c, N, Q, nL, cells, slots⟩ := X
  obtain ⟨hx, hb, hml, hown, hts, hO, -⟩ := C
  intro H locs ls hP hS hl
  exact lv_land hx hb d (kk H locs ls hP hS hl)
theorem a_idiv (C : Cx X own cc kc) {x y : Int32} (d : decode cc pc = .ok (.idiv, 1)) (hy : ¬ y = 0) (kk : WA X M lv (pc + 1) (.int (x / y) :: st)) : WA X M lv pc (.int y :: .int x :: st) := by
  obtain ⟨p, l, e, R, s, m, args, below, meth, c, N, Q, nL, cells, slots⟩ := X
  obtain ⟨hx, hb, hml, hown, hts, hO, -⟩ := C
  intro H locs ls hP hS hl
  exact lv_idiv hx hb d hy (kk H locs ls hP hS hl)
theorem a_irem (C : Cx X own cc kc) {x y : Int32} (d : decode cc pc = .ok (.irem, 1)) (hy : ¬ y = 0) (kk : WA X M lv (pc + 1) (.int (rmI x y) :: st)) : WA X M lv pc (.int y :: .int x :: st) := by
  obtain ⟨p, l, e, R, s, m, args, below, meth, c, N, Q, nL, cells, slots⟩ := X
  obtain ⟨hx, hb, hml, hown, hts, hO, -⟩ := C
  intro H locs ls hP hS hl
  exact lv_irem hx hb d hy (kk H locs ls hP hS hl)
theorem a_ldiv (C : Cx X own cc kc) {x y : Int64} (d : decode cc pc = .ok (.ldiv, 1)) (hy : ¬ y = 0) (kk : WA X M lv (pc + 1) (.long (x / y) :: st)) : WA X M lv pc (.long y :: .long x :: st) := by
  obtain ⟨p, l, e, R, s, m, args, below, meth, c, N, Q, nL, cells, slots⟩ := X
  obtain ⟨hx, hb, hml, hown, hts, hO, -⟩ := C
  intro H locs ls hP hS hl
  exact lv_ldiv hx hb d hy (kk H locs ls hP hS hl)
theorem a_lrem (C : Cx X own cc kc) {x y : Int64} (d : decode cc pc = .ok (.lrem, 1)) (hy : ¬ y = 0) (kk : WA X M lv (pc + 1) (.long (rmL x y) :: st)) : WA X M lv pc (.long y :: .long x :: st) := by
  obtain ⟨p, l, e, R, s, m, args, below, meth, c, N, Q, nL, cells, slots⟩ := X
  obtain ⟨hx, hb, hml, hown, hts, hO, -⟩ := C
  intro H locs ls hP hS hl
  exact lv_lrem hx hb d hy (kk H locs ls hP hS hl)
theorem a_ineg (C : Cx X own cc kc) {x : Int32} (d : decode cc pc = .ok (.ineg, 1)) (kk : WA X M lv (pc + 1) (.int (-x) :: st)) : WA X M lv pc (.int x :: st) := by
  obtain ⟨p, l, e, R, s, m, args, below, meth, c, N, Q, nL, cells, slots⟩ := X
  obtain ⟨hx, hb, hml, hown, hts, hO, -⟩ := C
  intro H locs ls hP hS hl
  exact lv_ineg hx hb d (kk H locs ls hP hS hl)
theorem a_ishl (C : Cx X own cc kc) {x y : Int32} (d : decode cc pc = .ok (.ishl, 1)) (kk : WA X M lv (pc + 1) (.int (slI x y) :: st)) : WA X M lv pc (.int y :: .int x :: st) := by
  obtain ⟨p, l, e, R, s, m, args, below, meth, c, N, Q, nL, cells, slots⟩ := X
  obtain ⟨hx, hb, hml, hown, hts, hO, -⟩ := C
  intro H locs ls hP hS hl
  exact lv_ishl hx hb d (kk H locs ls hP hS hl)
theorem a_iushr (C : Cx X own cc kc) {x y : Int32} (d : decode cc pc = .ok (.iushr, 1)) (kk : WA X M lv (pc + 1) (.int (usI x y) :: st)) : WA X M lv pc (.int y :: .int x :: st) := by
  obtain ⟨p, l, e, R, s, m, args, below, meth, c, N, Q, nL, cells, slots⟩ := X
  obtain ⟨hx, hb, hml, hown, hts, hO, -⟩ := C
  intro H locs ls hP hS hl
  exact lv_iushr hx hb d rfl (kk H locs ls hP hS hl)
theorem a_lshl (C : Cx X own cc kc) {x : Int64} {y : Int32} (d : decode cc pc = .ok (.lshl, 1)) (kk : WA X M lv (pc + 1) (.long (slL x y) :: st)) : WA X M lv pc (.int y :: .long x :: st) := by
  obtain ⟨p, l, e, R, s, m, args, below, meth, c, N, Q, nL, cells, slots⟩ := X
  obtain ⟨hx, hb, hml, hown, hts, hO, -⟩ := C
  intro H locs ls hP hS hl
  exact lv_lshl hx hb d rfl (kk H locs ls hP hS hl)
theorem a_i2l (C : Cx X own cc kc) {x : Int32} (d : decode cc pc = .ok (.i2l, 1)) (kk : WA X M lv (pc + 1) (.long x.toInt64 :: st)) : WA X M lv pc (.int x :: st) := by
  obtain ⟨p, l, e, R, s, m, args, below, meth, c, N, Q, nL, cells, slots⟩ := X
  obtain ⟨hx, hb, hml, hown, hts, hO, -⟩ := C
  intro H locs ls hP hS hl
  exact lv_i2l hx hb d rfl (kk H locs ls hP hS hl)
theorem a_l2i (C : Cx X own cc kc) {x : Int64} (d : decode cc pc = .ok (.l2i, 1)) (kk : WA X M lv (pc + 1) (.int x.toInt32 :: st)) : WA X M lv pc (.long x :: st) := by
  obtain ⟨p, l, e, R, s, m, args, below, meth, c, N, Q, nL, cells, slots⟩ := X
  obtain ⟨hx, hb, hml, hown, hts, hO, -⟩ := C
  intro H locs ls hP hS hl
  exact lv_l2i hx hb d rfl (kk H locs ls hP hS hl)
theorem a_i2b (C : Cx X own cc kc) {x : Int32} (d : decode cc pc = .ok (.i2b, 1)) (kk : WA X M lv (pc + 1) (.int x.toInt8.toInt32 :: st)) : WA X M lv pc (.int x :: st) := by
  obtain ⟨p, l, e, R, s, m, args, below, meth, c, N, Q, nL, cells, slots⟩ := X
  obtain ⟨hx, hb, hml, hown, hts, hO, -⟩ := C
  intro H locs ls hP hS hl
  exact lv_i2b hx hb d rfl (kk H locs ls hP hS hl)
theorem a_i2s (C : Cx X own cc kc) {x : Int32} (d : decode cc pc = .ok (.i2s, 1)) (kk : WA X M lv (pc + 1) (.int x.toInt16.toInt32 :: st)) : WA X M lv pc (.int x :: st) := by
  obtain ⟨p, l, e, R, s, m, args, below, meth, c, N, Q, nL, cells, slots⟩ := X
  obtain ⟨hx, hb, hml, hown, hts, hO, -⟩ := C
  intro H locs ls hP hS hl
  exact lv_i2s hx hb d rfl (kk H locs ls hP hS hl)
theorem a_lcmp (C : Cx X own cc kc) {x y : Int64} (d : decode cc pc = .ok (.lcmp, 1)) (kk : WA X M lv (pc + 1) (.int (lg_cmp x y) :: st)) : WA X M lv pc (.long y :: .long x :: st) := by
  obtain ⟨p, l, e, R, s, m, args, below, meth, c, N, Q, nL, cells, slots⟩ := X
  obtain ⟨hx, hb, hml, hown, hts, hO, -⟩ := C
  intro H locs ls hP hS hl
  exact W.lcmp hx hb d (kk H locs ls hP hS hl)
theorem a_dup (C : Cx X own cc kc) {va : Value} (d : decode cc pc = .ok (.dup, 1)) (h1 : va.category = 1) (kk : WA X M lv (pc + 1) (va :: va :: st)) : WA X M lv pc (va :: st) := by
  obtain ⟨p, l, e, R, s, m, args, below, meth, c, N, Q, nL, cells, slots⟩ := X
  obtain ⟨hx, hb, hml, hown, hts, hO, -⟩ := C
  intro H locs ls hP hS hl
  exact lv_dup hx hb d h1 (kk H locs ls hP hS hl)
theorem a_pop (C : Cx X own cc kc) {va : Value} (d : decode cc pc = .ok (.pop, 1)) (h1 : va.category = 1) (kk : WA X M lv (pc + 1) (st)) : WA X M lv pc (va :: st) := by
  obtain ⟨p, l, e, R, s, m, args, below, meth, c, N, Q, nL, cells, slots⟩ := X
  obtain ⟨hx, hb, hml, hown, hts, hO, -⟩ := C
  intro H locs ls hP hS hl
  exact lv_pop hx hb d h1 (kk H locs ls hP hS hl)
theorem a_dup_x1 (C : Cx X own cc kc) {va vb : Value} (d : decode cc pc = .ok (.dup_x1, 1)) (h1 : va.category = 1) (h2 : vb.category = 1) (kk : WA X M lv (pc + 1) (va :: vb :: va :: st)) : WA X M lv pc (va :: vb :: st) := by
  obtain ⟨p, l, e, R, s, m, args, below, meth, c, N, Q, nL, cells, slots⟩ := X
  obtain ⟨hx, hb, hml, hown, hts, hO, -⟩ := C
  intro H locs ls hP hS hl
  exact lv_dup_x1 hx hb d h1 h2 (kk H locs ls hP hS hl)
theorem a_dup2 (C : Cx X own cc kc) {va vb : Value} (d : decode cc pc = .ok (.dup2, 1)) (h1 : va.category = 1) (h2 : vb.category = 1) (kk : WA X M lv (pc + 1) (va :: vb :: va :: vb :: st)) : WA X M lv pc (va :: vb :: st) := by
  obtain ⟨p, l, e, R, s, m, args, below, meth, c, N, Q, nL, cells, slots⟩ := X
  obtain ⟨hx, hb, hml, hown, hts, hO, -⟩ := C
  intro H locs ls hP hS hl
  exact lv_dup2_11 hx hb d h1 h2 (kk H locs ls hP hS hl)
theorem a_goto (C : Cx X own cc kc) {off : Int} (tgt : Nat) (d : decode cc pc = .ok (.goto off, 3)) (ht : (pc : Int) + off = (tgt : Int)) (kk : WA X M lv (tgt) (st)) : WA X M lv pc (st) := by
  obtain ⟨p, l, e, R, s, m, args, below, meth, c, N, Q, nL, cells, slots⟩ := X
  obtain ⟨hx, hb, hml, hown, hts, hO, -⟩ := C
  intro H locs ls hP hS hl
  exact lv_goto hx hb d ht (kk H locs ls hP hS hl)
theorem a_icmp_eq (C : Cx X own cc kc) {x y : Int32} {off : Int} (tgt : Nat) (d : decode cc pc = .ok (.if_icmp .eq off, 3)) (ht : (pc : Int) + off = (tgt : Int)) (kt : x = y → WA X M lv tgt st) (kf : ¬ (x = y) → WA X M lv (pc + 3) st) : WA X M lv pc (.int y :: .int x :: st) := by
  obtain ⟨p, l, e, R, s, m, args, below, meth, c, N, Q, nL, cells, slots⟩ := X
  obtain ⟨hx, hb, hml, hown, hts, hO, hfr, hlo, hce, hsl⟩ := C
  intro H locs ls hP hS hl
  exact lv_icmp_eq hx hb d ht (fun q => kt (by first | exact q | omega) H locs ls hP hS hl) (fun q => kf (by first | exact q | exact fun r => r q) H locs ls hP hS hl)
theorem a_if_eq (C : Cx X own cc kc) {x : Int32} {off : Int} (tgt : Nat) (d : decode cc pc = .ok (.ifCond .eq off, 3)) (ht : (pc : Int) + off = (tgt : Int)) (kt : x = 0 → WA X M lv tgt st) (kf : ¬ (x = 0) → WA X M lv (pc + 3) st) : WA X M lv pc (.int x :: st) := by
  obtain ⟨p, l, e, R, s, m, args, below, meth, c, N, Q, nL, cells, slots⟩ := X
  obtain ⟨hx, hb, hml, hown, hts, hO, hfr, hlo, hce, hsl⟩ := C
  intro H locs ls hP hS hl
  exact lv_if_eq hx hb d ht (fun q => kt (by first | exact q | omega) H locs ls hP hS hl) (fun q => kf (by first | exact q | exact fun r => r q) H locs ls hP hS hl)
theorem a_icmp_ne (C : Cx X own cc kc) {x y : Int32} {off : Int} (tgt : Nat) (d : decode cc pc = .ok (.if_icmp .ne off, 3)) (ht : (pc : Int) + off = (tgt : Int)) (kt : ¬ x = y → WA X M lv tgt st) (kf : ¬ (¬ x = y) → WA X M lv (pc + 3) st) : WA X M lv pc (.int y :: .int x :: st) := by
  obtain ⟨p, l, e, R, s, m, args, below, meth, c, N, Q, nL, cells, slots⟩ := X
  obtain ⟨hx, hb, hml, hown, hts, hO, hfr, hlo, hce, hsl⟩ := C
  intro H locs ls hP hS hl
  exact lv_icmp_ne hx hb d ht (fun q => kt (by first | exact q | omega) H locs ls hP hS hl) (fun q => kf (by first | exact q | exact fun r => r q) H locs ls hP hS hl)
theorem a_if_ne (C : Cx X own cc kc) {x : Int32} {off : Int} (tgt : Nat) (d : decode cc pc = .ok (.ifCond .ne off, 3)) (ht : (pc : Int) + off = (tgt : Int)) (kt : ¬ x = 0 → WA X M lv tgt st) (kf : ¬ (¬ x = 0) → WA X M lv (pc + 3) st) : WA X M lv pc (.int x :: st) := by
  obtain ⟨p, l, e, R, s, m, args, below, meth, c, N, Q, nL, cells, slots⟩ := X
  obtain ⟨hx, hb, hml, hown, hts, hO, hfr, hlo, hce, hsl⟩ := C
  intro H locs ls hP hS hl
  exact lv_if_ne hx hb d ht (fun q => kt (by first | exact q | omega) H locs ls hP hS hl) (fun q => kf (by first | exact q | exact fun r => r q) H locs ls hP hS hl)
theorem a_icmp_lt (C : Cx X own cc kc) {x y : Int32} {off : Int} (tgt : Nat) (d : decode cc pc = .ok (.if_icmp .lt off, 3)) (ht : (pc : Int) + off = (tgt : Int)) (kt : x < y → WA X M lv tgt st) (kf : ¬ (x < y) → WA X M lv (pc + 3) st) : WA X M lv pc (.int y :: .int x :: st) := by
  obtain ⟨p, l, e, R, s, m, args, below, meth, c, N, Q, nL, cells, slots⟩ := X
  obtain ⟨hx, hb, hml, hown, hts, hO, hfr, hlo, hce, hsl⟩ := C
  intro H locs ls hP hS hl
  exact lv_icmp_lt hx hb d ht (fun q => kt (by first | exact q | omega) H locs ls hP hS hl) (fun q => kf (by first | exact q | exact fun r => r q) H locs ls hP hS hl)
theorem a_if_lt (C : Cx X own cc kc) {x : Int32} {off : Int} (tgt : Nat) (d : decode cc pc = .ok (.ifCond .lt off, 3)) (ht : (pc : Int) + off = (tgt : Int)) (kt : x < 0 → WA X M lv tgt st) (kf : ¬ (x < 0) → WA X M lv (pc + 3) st) : WA X M lv pc (.int x :: st) := by
  obtain ⟨p, l, e, R, s, m, args, below, meth, c, N, Q, nL, cells, slots⟩ := X
  obtain ⟨hx, hb, hml, hown, hts, hO, hfr, hlo, hce, hsl⟩ := C
  intro H locs ls hP hS hl
  exact lv_if_lt hx hb d ht (fun q => kt (by first | exact q | omega) H locs ls hP hS hl) (fun q => kf (by first | exact q | exact fun r => r q) H locs ls hP hS hl)
theorem a_icmp_ge (C : Cx X own cc kc) {x y : Int32} {off : Int} (tgt : Nat) (d : decode cc pc = .ok (.if_icmp .ge off, 3)) (ht : (pc : Int) + off = (tgt : Int)) (kt : y ≤ x → WA X M lv tgt st) (kf : ¬ (y ≤ x) → WA X M lv (pc + 3) st) : WA X M lv pc (.int y :: .int x :: st) := by
  obtain ⟨p, l, e, R, s, m, args, below, meth, c, N, Q, nL, cells, slots⟩ := X
  obtain ⟨hx, hb, hml, hown, hts, hO, hfr, hlo, hce, hsl⟩ := C
  intro H locs ls hP hS hl
  exact lv_icmp_ge hx hb d ht (fun q => kt (by first | exact q | omega) H locs ls hP hS hl) (fun q => kf (by first | exact q | exact fun r => r q) H locs ls hP hS hl)
theorem a_if_ge (C : Cx X own cc kc) {x : Int32} {off : Int} (tgt : Nat) (d : decode cc pc = .ok (.ifCond .ge off, 3)) (ht : (pc : Int) + off = (tgt : Int)) (kt : 0 ≤ x → WA X M lv tgt st) (kf : ¬ (0 ≤ x) → WA X M lv (pc + 3) st) : WA X M lv pc (.int x :: st) := by
  obtain ⟨p, l, e, R, s, m, args, below, meth, c, N, Q, nL, cells, slots⟩ := X
  obtain ⟨hx, hb, hml, hown, hts, hO, hfr, hlo, hce, hsl⟩ := C
  intro H locs ls hP hS hl
  exact lv_if_ge hx hb d ht (fun q => kt (by first | exact q | omega) H locs ls hP hS hl) (fun q => kf (by first | exact q | exact fun r => r q) H locs ls hP hS hl)
theorem a_icmp_gt (C : Cx X own cc kc) {x y : Int32} {off : Int} (tgt : Nat) (d : decode cc pc = .ok (.if_icmp .gt off, 3)) (ht : (pc : Int) + off = (tgt : Int)) (kt : y < x → WA X M lv tgt st) (kf : ¬ (y < x) → WA X M lv (pc + 3) st) : WA X M lv pc (.int y :: .int x :: st) := by
  obtain ⟨p, l, e, R, s, m, args, below, meth, c, N, Q, nL, cells, slots⟩ := X
  obtain ⟨hx, hb, hml, hown, hts, hO, hfr, hlo, hce, hsl⟩ := C
  intro H locs ls hP hS hl
  exact lv_icmp_gt hx hb d ht (fun q => kt (by first | exact q | omega) H locs ls hP hS hl) (fun q => kf (by first | exact q | exact fun r => r q) H locs ls hP hS hl)
theorem a_if_gt (C : Cx X own cc kc) {x : Int32} {off : Int} (tgt : Nat) (d : decode cc pc = .ok (.ifCond .gt off, 3)) (ht : (pc : Int) + off = (tgt : Int)) (kt : 0 < x → WA X M lv tgt st) (kf : ¬ (0 < x) → WA X M lv (pc + 3) st) : WA X M lv pc (.int x :: st) := by
  obtain ⟨p, l, e, R, s, m, args, below, meth, c, N, Q, nL, cells, slots⟩ := X
  obtain ⟨hx, hb, hml, hown, hts, hO, hfr, hlo, hce, hsl⟩ := C
  intro H locs ls hP hS hl
  exact lv_if_gt hx hb d ht (fun q => kt (by first | exact q | omega) H locs ls hP hS hl) (fun q => kf (by first | exact q | exact fun r => r q) H locs ls hP hS hl)
theorem a_icmp_le (C : Cx X own cc kc) {x y : Int32} {off : Int} (tgt : Nat) (d : decode cc pc = .ok (.if_icmp .le off, 3)) (ht : (pc : Int) + off = (tgt : Int)) (kt : x ≤ y → WA X M lv tgt st) (kf : ¬ (x ≤ y) → WA X M lv (pc + 3) st) : WA X M lv pc (.int y :: .int x :: st) := by
  obtain ⟨p, l, e, R, s, m, args, below, meth, c, N, Q, nL, cells, slots⟩ := X
  obtain ⟨hx, hb, hml, hown, hts, hO, hfr, hlo, hce, hsl⟩ := C
  intro H locs ls hP hS hl
  exact lv_icmp_le hx hb d ht (fun q => kt (by first | exact q | omega) H locs ls hP hS hl) (fun q => kf (by first | exact q | exact fun r => r q) H locs ls hP hS hl)
theorem a_if_le (C : Cx X own cc kc) {x : Int32} {off : Int} (tgt : Nat) (d : decode cc pc = .ok (.ifCond .le off, 3)) (ht : (pc : Int) + off = (tgt : Int)) (kt : x ≤ 0 → WA X M lv tgt st) (kf : ¬ (x ≤ 0) → WA X M lv (pc + 3) st) : WA X M lv pc (.int x :: st) := by
  obtain ⟨p, l, e, R, s, m, args, below, meth, c, N, Q, nL, cells, slots⟩ := X
  obtain ⟨hx, hb, hml, hown, hts, hO, hfr, hlo, hce, hsl⟩ := C
  intro H locs ls hP hS hl
  exact lv_if_le hx hb d ht (fun q => kt (by first | exact q | omega) H locs ls hP hS hl) (fun q => kf (by first | exact q | exact fun r => r q) H locs ls hP hS hl)
/-- fewer locals, in another order -/
theorem a_sub {lv2 : List (Nat × Value)} (ks : List Nat) (h : lv_pick lv ks = lv2) (kk : WA X M lv2 pc st) : WA X M lv pc st := by
  obtain ⟨p, l, e, R, s, m, args, below, meth, c, N, Q, nL, cells, slots⟩ := X
  intro H locs ls hP hS hl
  exact kk H locs ls hP hS (lv_sub hl ks h)
theorem a_eqM {M2 : Mem} (h : M = M2) (kk : WA X M2 lv pc st) : WA X M lv pc st := h ▸ kk
theorem a_pc {pc2 : Nat} (h : pc = pc2) (kk : WA X M lv pc2 st) : WA X M lv pc st := h ▸ kk
/-- a switch -/
theorem a_tsw_in (C : Cx X own cc kc) {dflt lo hi : Int} {offs : Array Int} {len : Nat} {x : Int32} {off : Int} (v : Int32) (tgt : Nat) (d : decode cc pc = .ok (.tableswitch dflt lo hi offs, len)) (hv : x = v) (h1 : ¬ v.toInt < lo) (h2 : ¬ hi < v.toInt) (ho : offs[(v.toInt - lo).toNat]? = some off) (ht : (pc : Int) + off = (tgt : Int)) (kk : WA X M lv tgt st) : WA X M lv pc (.int x :: st) := by
  subst hv
  obtain ⟨p, l, e, R, s, m, args, below, meth, c, N, Q, nL, cells, slots⟩ := X
  obtain ⟨hx, hb, hml, hown, hts, hO, hfr, hlo, hce, hsl⟩ := C
  intro H locs ls hP hS hl
  exact lv_tableIn hx hb d h1 h2 ho ht (kk H locs ls hP hS hl)
theorem a_tsw_out (C : Cx X own cc kc) {dflt lo hi : Int} {offs : Array Int} {len : Nat} {x : Int32} (tgt : Nat) (d : decode cc pc = .ok (.tableswitch dflt lo hi offs, len)) (h : x.toInt < lo ∨ hi < x.toInt) (ht : (pc : Int) + dflt = (tgt : Int)) (kk : WA X M lv tgt st) : WA X M lv pc (.int x :: st) := by
  obtain ⟨p, l, e, R, s, m, args, below, meth, c, N, Q, nL, cells, slots⟩ := X
  obtain ⟨hx, hb, hml, hown, hts, hO, hfr, hlo, hce, hsl⟩ := C
  intro H locs ls hP hS hl
  exact lv_tableOut hx hb d h ht (kk H locs ls hP hS hl)
theorem a_lsw (C : Cx X own cc kc) {dflt : Int} {ps : Array (Int × Int)} {len : Nat} {x : Int32} {off : Int} (tgt : Nat) (d : decode cc pc = .ok (.lookupswitch dflt ps, len)) (hp : (ps.toList.zip (ps.toList.drop 1)).all (fun (a, next) => a.1 < next.1) = true) (ho : Op.lookupswitch.offset ps.toList dflt x.toInt = off) (ht : (pc : Int) + off = (tgt : Int)) (kk : WA X M lv tgt st) : WA X M lv pc (.int x :: st) := by
  obtain ⟨p, l, e, R, s, m, args, below, meth, c, N, Q, nL, cells, slots⟩ := X
  obtain ⟨hx, hb, hml, hown, hts, hO, hfr, hlo, hce, hsl⟩ := C
  intro H locs ls hP hS hl
  exact lv_lookup hx hb d hp ho ht (kk H locs ls hP hS hl)
theorem K1 {N : Rig} {s : State} (hO : Ok N s) {k : Nat} (hk : k < 95) (h3 : (shp k).1 < 3) : va_K N.1 vwCl [(N.2.2.1 k, atyL k)] s := ⟨hO.1.1, fun j q hq => by
  match j, hq with
  | 0, hq => cases hq; exact hO.2.1 k hk h3
  | j + 1, hq => simp at hq⟩
theorem K2 {N : Rig} {s : State} (hO : Ok N s) {a b : Nat} (ha : a < 95) (h3 : (shp a).1 < 3) (hb : b < 95) (h4 : (shp b).1 < 3) : va_K N.1 vwCl [(N.2.2.1 a, atyL a), (N.2.2.1 b, atyL b)] s := ⟨hO.1.1, fun j q hq => by
  match j, hq with
  | 0, hq => cases hq; exact hO.2.1 a ha h3
  | 1, hq => cases hq; exact hO.2.1 b hb h4
  | j + 2, hq => simp at hq⟩
theorem aty_i {k n : Nat} (h : shp k = (0, n)) : atyL k = .int := by unfold atyL; rw [h] <;> rfl
theorem aty_l {k n : Nat} (h : shp k = (1, n)) : atyL k = .long := by unfold atyL; rw [h] <;> rfl
theorem aty_r {k n : Nat} (h : shp k = (2, n)) : atyL k = .array .long := by unfold atyL; rw [h] <;> rfl
theorem rdI_s {n a : Nat} {i v : Int32} (h : rdI n a M i = some v) : vp_in i n ∧ v = M.1 a (ix i) := by
  unfold rdI at h
  by_cases c : oob i n
  · rw [if_pos c] at h; cases h
  · rw [if_neg c] at h; exact ⟨c, (Option.some.inj h).symm⟩
theorem rdL_s {n a : Nat} {i : Int32} {v : Int64} (h : rdL n a M i = some v) : vp_in i n ∧ v = M.2.1 a (ix i) := by
  unfold rdL at h
  by_cases c : oob i n
  · rw [if_pos c] at h; cases h
  · rw [if_neg c] at h; exact ⟨c, (Option.some.inj h).symm⟩
theorem stI_s {n a : Nat} {i x : Int32} {M2 : Mem} (h : stI n a M i x = some M2) : vp_in i n ∧ M2 = wI M a (ix i) x := by
  unfold stI at h
  by_cases c : oob i n
  · rw [if_pos c] at h; cases h
  · rw [if_neg c] at h; exact ⟨c, (Option.some.inj h).symm⟩
theorem stL_s {n a : Nat} {i : Int32} {x : Int64} {M2 : Mem} (h : stL n a M i x = some M2) : vp_in i n ∧ M2 = wL M a (ix i) x := by
  unfold stL at h
  by_cases c : oob i n
  · rw [if_pos c] at h; cases h
  · rw [if_neg c] at h; exact ⟨c, (Option.some.inj h).symm⟩
theorem rdT_s {n : Nat} {f : Nat → Int32} {i v : Int32} (h : rdT n f i = some v) : vp_in i n ∧ v = f (ix i) := by
  unfold rdT at h
  by_cases c : oob i n
  · rw [if_pos c] at h; cases h
  · rw [if_neg c] at h; exact ⟨c, (Option.some.inj h).symm⟩
theorem rdR_s {i : Int32} {v : Nat} (h : rdR i = some v) : vp_in i 6 ∧ v = 27 + ix i := by
  unfold rdR at h
  by_cases c : oob i 6
  · rw [if_pos c] at h; cases h
  · rw [if_neg c] at h; exact ⟨c, (Option.some.inj h).symm⟩
theorem lt3 {k a n : Nat} (h : shp k = (a, n)) (ha : a < 3) : (shp k).1 < 3 := by rw [h]; exact ha
theorem a_iald (C : Cx X own cc kc) {n a : Nat} {i v : Int32} (ha : shp a = (0, n)) (hv : rdI n a M i = some v) (d : decode cc pc = .ok (.iaload, 1)) (kk : WA X M lv (pc + 1) (.int v :: st)) : WA X M lv pc (.int i :: .ref (X.N.2.1 a) :: st) := by
  obtain ⟨p, l, e, R, s, m, args, below, meth, c, N, Q, nL, cells, slots⟩ := X
  obtain ⟨hx, hb, hml, hown, hts, hO, hfr, hlo, hce, hsl⟩ := C
  intro H locs ls hP hS hl
  obtain ⟨hin, rfl⟩ := rdI_s hv
  have hlt := shp_lt ha (by decide)
  have h1 := wld_at N M hlt
  rw [cellE_i ha] at h1
  have hK := K1 hO hlt (lt3 ha (by decide))
  rw [aty_i ha] at hK
  exact va_iald hx hb hK hP a 0 h1 rfl hin d (kk H locs ls hP hS hl)
theorem a_lald (C : Cx X own cc kc) {n a : Nat} {i : Int32} {v : Int64} (ha : shp a = (1, n)) (hv : rdL n a M i = some v) (d : decode cc pc = .ok (.laload, 1)) (kk : WA X M lv (pc + 1) (.long v :: st)) : WA X M lv pc (.int i :: .ref (X.N.2.1 a) :: st) := by
  obtain ⟨p, l, e, R, s, m, args, below, meth, c, N, Q, nL, cells, slots⟩ := X
  obtain ⟨hx, hb, hml, hown, hts, hO, hfr, hlo, hce, hsl⟩ := C
  intro H locs ls hP hS hl
  obtain ⟨hin, rfl⟩ := rdL_s hv
  have hlt := shp_lt ha (by decide)
  have h1 := wld_at N M hlt
  rw [cellE_l ha] at h1
  have hK := K1 hO hlt (lt3 ha (by decide))
  rw [aty_l ha] at hK
  exact va_lald hx hb hK hP a 0 h1 rfl hin d (kk H locs ls hP hS hl)
theorem a_aald (C : Cx X own cc kc) {i : Int32} {v : Nat} (hv : rdR i = some v) (d : decode cc pc = .ok (.aaload, 1)) (kk : WA X M lv (pc + 1) (.ref (X.N.2.1 v) :: st)) : WA X M lv pc (.int i :: .ref (X.N.2.1 26) :: st) := by
  obtain ⟨p, l, e, R, s, m, args, below, meth, c, N, Q, nL, cells, slots⟩ := X
  obtain ⟨hx, hb, hml, hown, hts, hO, hfr, hlo, hce, hsl⟩ := C
  intro H locs ls hP hS hl
  obtain ⟨hin, rfl⟩ := rdR_s hv
  have ha : shp 26 = (2, 6) := rfl
  have hlt := shp_lt ha (by decide)
  have h1 := wld_at N M hlt
  rw [cellE_r ha] at h1
  have hK := K1 hO hlt (lt3 ha (by decide))
  rw [aty_r ha] at hK
  have hn : i.toNatClampNeg < 6 := Nat.not_le.mp fun q => hin (Or.inr q)
  exact W.aald (v := va_rf (some (N.2.1 (27 + ix i)))) (ty := .array .long) hx hb (hP 26 _ h1) ((hK.2 0 _ rfl).1 6 (fun j => va_rf (some (N.2.1 (27 + j))))) rfl (fun q => by cases q) (by show ¬ (i < 0 ∨ (arrV _ _ _).slots.size ≤ _); rw [arrV_size]; exact hin) (by show (arrV _ _ _).slots[_]? = _; rw [arrV_read _ _ hn]) rfl rfl d (kk H locs ls hP hS hl)
theorem a_alen (C : Cx X own cc kc) {k n a : Nat} {v : Int32} (ha : shp a = (k, n)) (hk : k < 3) (hv : Int32.ofNat n = v) (d : decode cc pc = .ok (.arraylength, 1)) (kk : WA X M lv (pc + 1) (.int v :: st)) : WA X M lv pc (.ref (X.N.2.1 a) :: st) := by
  obtain ⟨p, l, e, R, s, m, args, below, meth, c, N, Q, nL, cells, slots⟩ := X
  obtain ⟨hx, hb, hml, hown, hts, hO, hfr, hlo, hce, hsl⟩ := C
  intro H locs ls hP hS hl
  have hlt := shp_lt ha (by omega)
  have h1 := wld_at N M hlt
  have hK := K1 hO hlt (lt3 ha hk)
  match k, hk, ha with
  | 0, _, ha => rw [cellE_i ha] at h1; exact va_alen hx hb hK hP a 0 h1 rfl hv d (kk H locs ls hP hS hl)
  | 1, _, ha => rw [cellE_l ha] at h1; exact va_alen hx hb hK hP a 0 h1 rfl hv d (kk H locs ls hP hS hl)
  | 2, _, ha => rw [cellE_r ha] at h1; exact va_alen hx hb hK hP a 0 h1 rfl hv d (kk H locs ls hP hS hl)
theorem a_iast (C : Cx X own cc kc) {n a : Nat} {i x : Int32} {M2 : Mem} (ha : shp a = (0, n)) (hv : stI n a M i x = some M2) (d : decode cc pc = .ok (.iastore, 1)) (kk : WA X M2 lv (pc + 1) st) : WA X M lv pc (.int x :: .int i :: .ref (X.N.2.1 a) :: st) := by
  obtain ⟨p, l, e, R, s, m, args, below, meth, c, N, Q, nL, cells, slots⟩ := X
  obtain ⟨hx, hb, hml, hown, hts, hO, hfr, hlo, hce, hsl⟩ := C
  intro H locs ls hP hS hl
  obtain ⟨hin, rfl⟩ := stI_s hv
  have hlt := shp_lt ha (by decide)
  have h1 := wld_at N M hlt
  rw [cellE_i ha] at h1
  have hK := K1 hO hlt (lt3 ha (by decide))
  rw [aty_i ha] at hK
  refine va_iast hx hb hK hP (wld_D hO M) hS a 0 h1 rfl hin d (fun H1 locs1 hP1 _ hS1 => kk H1 locs1 ls ?_ hS1 hl)
  rw [wld_set (M' := wI M a (ix i) x) hlt (by rw [cellE_i ha, wI, upA_same]) (fun j hj => cellE_congr (upA_ne M _ hj) rfl (fun _ => rfl))] at hP1
  exact hP1
theorem a_last (C : Cx X own cc kc) {n a : Nat} {i : Int32} {x : Int64} {M2 : Mem} (ha : shp a = (1, n)) (hv : stL n a M i x = some M2) (d : decode cc pc = .ok (.lastore, 1)) (kk : WA X M2 lv (pc + 1) st) : WA X M lv pc (.long x :: .int i :: .ref (X.N.2.1 a) :: st) := by
  obtain ⟨p, l, e, R, s, m, args, below, meth, c, N, Q, nL, cells, slots⟩ := X
  obtain ⟨hx, hb, hml, hown, hts, hO, hfr, hlo, hce, hsl⟩ := C
  intro H locs ls hP hS hl
  obtain ⟨hin, rfl⟩ := stL_s hv
  have hlt := shp_lt ha (by decide)
  have h1 := wld_at N M hlt
  rw [cellE_l ha] at h1
  have hK := K1 hO hlt (lt3 ha (by decide))
  rw [aty_l ha] at hK
  refine va_last hx hb hK hP (wld_D hO M) hS a 0 h1 rfl hin d (fun H1 locs1 hP1 _ hS1 => kk H1 locs1 ls ?_ hS1 hl)
  rw [wld_set (M' := wL M a (ix i) x) hlt (by rw [cellE_l ha, wL, upL_same]) (fun j hj => cellE_congr (M := M) (M' := wL M a (ix i) x) rfl (upL_ne M _ hj) (fun _ => rfl))] at hP1
  exact hP1
theorem a_get (C : Cx X own cc kc) {o ci n f idx : Nat} {Cn : String} {T : u_T} {v : Value} (ho : shp o = (ci + 3, n)) (hn9 : o < 95) (hc : vwCl[ci]? = some (Cn, T, n)) (hin : ∀ w ∈ u_ws Cn T n, w ∈ TB) (hf : f < n) (hw : Cond.fieldLink own idx (T f).1 (T f).2.1 (T f).2.2.1 ∈ TB) (hv : fldV X.N M o ci f = v) (d : decode cc pc = .ok (.getfield idx, 3)) (kk : WA X M lv (pc + 3) (v :: st)) : WA X M lv pc (.ref (X.N.2.1 o) :: st) := by
  obtain ⟨p, l, e, R, s, m, args, below, meth, c, N, Q, nL, cells, slots⟩ := X
  obtain ⟨hx, hb, hml, hown, hts, hO, hfr, hlo, hce, hsl⟩ := C
  intro H locs ls hP hS hl
  have h1 := wld_at N M hn9
  rw [cellE_o ho] at h1
  exact va_get hx hb hts hin hown hO.1 hP o h1 hc f hf (hts _ hw) (fun _ h => h) (by rw [fld_at hf]; exact congrArg some hv) d (kk H locs ls hP hS hl)
theorem a_put (C : Cx X own cc kc) {o ci n f idx : Nat} {Cn : String} {T : u_T} {v : Value} {M2 : Mem} {ty : FieldType} (ho : shp o = (ci + 3, n)) (hn9 : o < 95) (hc : vwCl[ci]? = some (Cn, T, n)) (hin : ∀ w ∈ u_ws Cn T n, w ∈ TB) (ty0 : Nat → FieldType) (hty : ∀ k, k < n → parseFieldDescriptor (T k).2.2.1 = some (ty0 k)) (hnm : ∀ a, a < n → ∀ b, b < n → a ≠ b → (T a).2.1 ≠ (T b).2.1) (hf : f < n) (hw : Cond.fieldLink own idx (T f).1 (T f).2.1 (T f).2.2.1 ∈ TB) (hfin : (T f).2.2.2 = false) (hd : parseFieldDescriptor (T f).2.2.1 = some ty) (hnr : narrow ty v = v) (hfit : fits ty v = true)
    (hv : fldV X.N M2 o ci f = v) (hoth : ∀ g, g ≠ f → fldV X.N M2 o ci g = fldV X.N M o ci g) (hcel : ∀ j, j ≠ o → cellE X.N M2 j = cellE X.N M j) (d : decode cc pc = .ok (.putfield idx, 3)) (kk : WA X M2 lv (pc + 3) st) : WA X M lv pc (v :: .ref (X.N.2.1 o) :: st) := by
  obtain ⟨p, l, e, R, s, m, args, below, meth, c, N, Q, nL, cells, slots⟩ := X
  obtain ⟨hx, hb, hml, hown, hts, hO, hfr, hlo, hce, hsl⟩ := C
  intro H locs ls hP hS hl
  have h1 := wld_at N M hn9
  rw [cellE_o ho] at h1
  refine va_put hx hb hts hin ty0 hty hnm hown hO.1 hP (wld_D hO M) hS o h1 hc f hf (hts _ hw) (fun _ h => h) hfin hd hnr hfit (by simpa using hf) d (fun H1 locs1 hP1 _ hS1 => kk H1 locs1 ls ?_ hS1 hl)
  rw [wld_set (M' := M2) hn9 (by rw [cellE_o ho, obj_set hoth hv]) hcel] at hP1
  exact hP1
theorem wI_fld {N : Rig} {M : Mem} {o c f : Nat} {x : Int32} (h : fty c f = 0) : fldV N (wI M o f x) o c f = .int x := by
  rw [fldV_i h, wI, upA_same]
  exact congrArg Value.int (if_pos rfl)
theorem wI_fldo {N : Rig} {M : Mem} {o c f g : Nat} {x : Int32} (hg : g ≠ f) : fldV N (wI M o f x) o c g = fldV N M o c g := by
  have h : (wI M o f x).1 o g = M.1 o g := by rw [wI, upA_same]; exact if_neg hg
  unfold fldV
  rw [h]
  rfl
theorem wL_fld {N : Rig} {M : Mem} {o c f : Nat} {x : Int64} (h : fty c f = 1) : fldV N (wL M o f x) o c f = .long x := by
  rw [fldV_l h, wL, upL_same]
  exact congrArg Value.long (if_pos rfl)
theorem wL_fldo {N : Rig} {M : Mem} {o c f g : Nat} {x : Int64} (hg : g ≠ f) : fldV N (wL M o f x) o c g = fldV N M o c g := by
  have h : (wL M o f x).2.1 o g = M.2.1 o g := by rw [wL, upL_same]; exact if_neg hg
  unfold fldV
  rw [h]
  rfl
theorem wI_cel {N : Rig} {M : Mem} {o f : Nat} {x : Int32} : ∀ j, j ≠ o → cellE N (wI M o f x) j = cellE N M j := fun _ hj => cellE_congr (upA_ne M _ hj) rfl (fun _ => rfl)
theorem wL_cel {N : Rig} {M : Mem} {o f : Nat} {x : Int64} : ∀ j, j ≠ o → cellE N (wL M o f x) j = cellE N M j := fun _ hj => cellE_congr (M := M) (M' := wL M o f x) rfl (upL_ne M _ hj) (fun _ => rfl)
theorem stZ_s {a i : Nat} {x : Int32} {M2 : Mem} (h : stZ a i M x = some M2) : (x = 0 ∨ x = 1) ∧ M2 = wI M a i x := by
  unfold stZ at h
  by_cases c : x = 0 ∨ x = 1
  · rw [if_pos c] at h; exact ⟨c, (Option.some.inj h).symm⟩
  · rw [if_neg c] at h; cases h
theorem narZ {x : Int32} (h : x = 0 ∨ x = 1) : narrow .boolean (.int x) = .int x ∧ fits .boolean (.int x) = true := by rcases h with rfl | rfl <;> exact ⟨rfl, rfl⟩
end WAR
