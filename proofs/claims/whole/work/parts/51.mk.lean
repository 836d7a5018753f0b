/-! WHAT A CONSTRUCTOR STANDS ON, and its rows -/
def mk_nests : List Cond := [.methodLinkNest RX10 9 yX9_init "LuckShoes", .methodLinkNest RX10 18 yX6_init "LuckShoes", .methodLinkNest RX10 25 yX8_init "LuckShoes", .methodLinkNest RX10 32 yX2_init "LuckShoes", .methodLinkNest RX10 39 yX1_init "LuckShoes", .methodLinkNest RX10 53 yX0_init "LuckShoes", .methodLinkNest RX10 64 yX5_init "LuckShoes", .methodLinkNest RX6 11 yX5_init "LuckShoes", .methodLinkNest RX8 11 yX5_init "LuckShoes", .methodLinkNest RX9 20 yX5_init "LuckShoes", .methodLinkNest RX9 27 yX3_init "LuckShoes"]
theorem mk_nests_is : ∀ w ∈ mk_nests, ∃ (o : String) (i : Nat) (y : MethodName) (h : String), w = .methodLinkNest o i y h := by
  intro w hw
  simp only [mk_nests, List.mem_cons, List.not_mem_nil, or_false] at hw
  rcases hw with rfl | rfl | rfl | rfl | rfl | rfl | rfl | rfl | rfl | rfl | rfl <;> exact ⟨_, _, _, _, rfl⟩
/-- the tables' numbers; the classes of int[], long[], long[][] -/
abbrev Dg : Type := va_G × ClassId × ClassId × ClassId
def mk_tys (G : Dg) : List (ClassId × FieldType) := [(G.2.1, .int), (G.2.2.1, .long), (G.2.2.2, .array .long)]
def mkK (G : Dg) (U : State) : Prop := va_K G.1 vwCl (mk_tys G) U ∧ gd_K G.2.2.2 G.2.2.1 .long U ∧ ∀ w ∈ mk_nests, va_Nw w U
theorem mkK.same {G : Dg} {u U : State} (h : mkK G u) (h1 : u.vm = U.vm) : mkK G U := by
  have ha : u.vm.Alike U.vm := h1 ▸ Vm.Alike.refl u.vm
  refine ⟨va_K.moved ha h.1, h.2.1.moved ha, fun w hw => ?_⟩
  obtain ⟨o, i, y, q, rfl⟩ := mk_nests_is w hw
  exact va_Nw.same rfl h1 (h.2.2 _ hw)
theorem mkK.warm {G : Dg} {u U : State} (h : mkK G u) (hW : u.WarmedH U.vm) : mkK G U := by
  refine ⟨va_K.moved hW.alike h.1, h.2.1.moved hW.alike, fun w hw => ?_⟩
  obtain ⟨o, i, y, q, rfl⟩ := mk_nests_is w hw
  exact va_Nw.warmM hW (h.2.2 _ hw)
def iA (G : Dg) (n : Nat) : va_E := .inl (G.2.1, n, .inl (fun _ => 0))
def lA (G : Dg) (n : Nat) : va_E := .inl (G.2.2.1, n, .inr (.inl (fun _ => 0)))
/-- a constructor's contract: on one new object, its fields at their defaults; what it makes comes behind -/
def Mk (l : Launch) (G : Dg) (y : MethodName) (b : ByteArray) (nL k ci : Nat) (fs : List Value) (mc ms : Nat) (post : Nat → va_W → Prop) : Prop :=
  ∀ h0 sz : Nat, Met l y (wsy y b nL none) ({ frames := k, cells := mc, slots := ms, locals := 50 * k }) (va_Pc [.ref h0] (fun U => U.heap.size = sz ∧ va_P G.1 vwCl [(h0, .inr (ci, fs))] U.heap ∧ mkK G U)) (va_Qv (post h0) (fun w t => va_P G.1 vwCl w t.heap ∧ va_D (va_A [(h0, .inr (ci, fs))] sz) w) (va_A [(h0, .inr (ci, fs))] sz)) mc ms (va_A [(h0, .inr (ci, fs))] sz)
abbrev Bmb : Type := Program × Launch × Env × Room × State × MethodId × Array Value × List Frame × Method × Code × Dg × (State → Prop) × Nat × (Nat → Prop)
abbrev Bmb.l (X : Bmb) : Launch := X.2.1
abbrev Bmb.G (X : Bmb) : Dg := X.2.2.2.2.2.2.2.2.2.2.1
abbrev Bmb.nL (X : Bmb) : Nat := X.2.2.2.2.2.2.2.2.2.2.2.2.1
def WC (X : Bmb) (w : va_W) (cells slots : Nat) (lv : List (Nat × Value)) (pc : Nat) (st : List Value) : Prop := match X with
  | (p, l, e, R, s, m, args, below, meth, c, G, Q, nL, A) => ∀ (H : Heap) (locs : List Loc) (ls : Array Slot), va_P G.1 vwCl w H → va_D A w → va_S A s.heap H locs → lv_has ls nL lv → W p l e R s m args below meth c H locs cells slots Q (F0 m pc ls st)
def Cb (X : Bmb) (own : String) (cc : ByteArray) (k mc ms : Nat) : Prop := match X with
  | (p, _, _, R, s, m, args, _, _, c, G, _, nL, A) => p.tables.exec = Jvm.exec ∧ c.code = cc ∧ c.maxLocals = nL ∧ s.vm.findClass own = some m.cls ∧ (∀ w ∈ TB, w.before args s = true) ∧ mkK G s ∧ (∀ q : Nat, s.heap.size ≤ q → A q) ∧ k ≤ R.frames ∧ 50 * k ≤ R.locals ∧ mc ≤ R.cells ∧ ms ≤ R.slots
def Nm (X : Bmb) : Prop := X.2.2.2.2.2.2.2.2.1.name = "<init>"
theorem rg_nd : ∀ (l : List Nat), l.Nodup → va_nd l = true
  | [], _ => rfl
  | a :: l, h => by
    have h2 := List.nodup_cons.mp h
    unfold va_nd
    rw [rg_nd l h2.2]
    simp [h2.1]
theorem rg_app (w : va_W) (x : Nat × va_E) : (List.range w.length).map (fun i => (w ++ [x])[i]?) = w.map some := by
  apply List.ext_getElem?
  intro j
  by_cases hj : j < w.length
  · rw [List.getElem?_map, List.getElem?_range hj, List.getElem?_map]
    show some ((w ++ [x])[j]?) = _
    rw [List.getElem?_append_left hj, List.getElem?_eq_getElem hj]
    rfl
  · rw [List.getElem?_eq_none (by simp; omega), List.getElem?_eq_none (by simp; omega)]
theorem rg_last (w : va_W) (x : Nat × va_E) : [w.length].map (fun i => (w ++ [x])[i]?) = [x].map some := by simp
theorem rg_lastF (w : va_W) (x : Nat × va_E) : [w.length].filterMap (fun i => (w ++ [x])[i]?) = [x] := by simp
theorem rg_dis (n : Nat) : ∀ i ∈ List.range n, i ∉ [n] := fun i hi h => by
  rw [List.mem_singleton] at h
  have := List.mem_range.mp hi
  omega
section WCR
variable {X : Bmb} {own : String} {cc : ByteArray} {kc mc ms : Nat} {w : va_W} {cells slots : Nat} {lv : List (Nat × Value)} {pc : Nat} {st : List Value}
theorem kr_sub {lv2 : List (Nat × Value)} (ks : List Nat) (h : lv_pick lv ks = lv2) (kk : WC X w cells slots lv2 pc st) : WC X w cells slots lv pc st := by
  obtain ⟨p, l, e, R, s, m, args, below, meth, c, G, Q, nL, A⟩ := X
  intro H locs ls hP hD hS hl
  exact kk H locs ls hP hD hS (lv_sub hl ks h)
theorem kr_eqw {w2 : va_W} (h : w = w2) (kk : WC X w2 cells slots lv pc st) : WC X w cells slots lv pc st := h ▸ kk
theorem kr_aload (C : Cb X own cc kc mc ms) {k : Fin 4} {i : Nat} {x : Nat} (d : decode cc pc = .ok (.aload_n k, 1)) (hi : (k : Nat) = i) (j : Nat) (h : lv[j]? = some (i, .ref x)) (kk : WC X w cells slots lv (pc + 1) (.ref x :: st)) : WC X w cells slots lv pc st := by
  obtain ⟨p, l, e, R, s, m, args, below, meth, c, G, Q, nL, A⟩ := X
  obtain ⟨hx, hb, -⟩ := C
  intro H locs ls hP hD hS hl
  exact lv_aload_n hx hb d hi (lv_at hl j h) (kk H locs ls hP hD hS hl)
theorem kr_iload (C : Cb X own cc kc mc ms) {k : Fin 4} {i : Nat} {x : Int32} (d : decode cc pc = .ok (.iload_n k, 1)) (hi : (k : Nat) = i) (j : Nat) (h : lv[j]? = some (i, .int x)) (kk : WC X w cells slots lv (pc + 1) (.int x :: st)) : WC X w cells slots lv pc st := by
  obtain ⟨p, l, e, R, s, m, args, below, meth, c, G, Q, nL, A⟩ := X
  obtain ⟨hx, hb, -⟩ := C
  intro H locs ls hP hD hS hl
  exact lv_iload_n hx hb d hi (lv_at hl j h) (kk H locs ls hP hD hS hl)
theorem kr_istore (C : Cb X own cc kc mc ms) {k : Fin 4} {i : Nat} {x : Int32} (lv2 : List (Nat × Value)) (d : decode cc pc = .ok (.istore_n k, 1)) (hi : (k : Nat) = i) (hn : i < X.nL) (h2 : (i, Value.int x) :: lv.filter (fun q => !(q.1 == i) && !(q.1 + 1 == i && q.2.category == 2)) = lv2) (kk : WC X w cells slots lv2 (pc + 1) st) : WC X w cells slots lv pc (.int x :: st) := by
  obtain ⟨p, l, e, R, s, m, args, below, meth, c, G, Q, nL, A⟩ := X
  obtain ⟨hx, hb, -⟩ := C
  intro H locs ls hP hD hS hl
  exact lv_istore_n hx hb d hi hl hn h2 (fun ls hl => kk H locs ls hP hD hS hl)
theorem kr_astore (C : Cb X own cc kc mc ms) {k : Fin 4} {i : Nat} {x : Nat} (lv2 : List (Nat × Value)) (d : decode cc pc = .ok (.astore_n k, 1)) (hi : (k : Nat) = i) (hn : i < X.nL) (h2 : (i, Value.ref x) :: lv.filter (fun q => !(q.1 == i) && !(q.1 + 1 == i && q.2.category == 2)) = lv2) (kk : WC X w cells slots lv2 (pc + 1) st) : WC X w cells slots lv pc (.ref x :: st) := by
  obtain ⟨p, l, e, R, s, m, args, below, meth, c, G, Q, nL, A⟩ := X
  obtain ⟨hx, hb, -⟩ := C
  intro H locs ls hP hD hS hl
  exact lv_astore_n hx hb d hi hl hn h2 (fun ls hl => kk H locs ls hP hD hS hl)
theorem kr_iinc (C : Cb X own cc kc mc ms) {i : Nat} {n : Int} {x : Int32} (j : Nat) (v : Int32) (lv2 : List (Nat × Value)) (d : decode cc pc = .ok (.iinc i n, 3)) (hj : lv[j]? = some (i, .int x)) (hv : x + Int32.ofInt n = v) (hn : i < X.nL) (h2 : (i, Value.int v) :: lv.filter (fun q => !(q.1 == i) && !(q.1 + 1 == i && q.2.category == 2)) = lv2) (kk : WC X w cells slots lv2 (pc + 3) st) : WC X w cells slots lv pc st := by
  obtain ⟨p, l, e, R, s, m, args, below, meth, c, G, Q, nL, A⟩ := X
  obtain ⟨hx, hb, -⟩ := C
  intro H locs ls hP hD hS hl
  exact lv_iinc hx hb d hl hj hv hn h2 (fun ls hl => kk H locs ls hP hD hS hl)
theorem kr_iconst (C : Cb X own cc kc mc ms) {n : Int} (v : Int32) (d : decode cc pc = .ok (.iconst n, 1)) (hv : Int32.ofInt n = v) (kk : WC X w cells slots lv (pc + 1) (.int v :: st)) : WC X w cells slots lv pc st := by
  obtain ⟨p, l, e, R, s, m, args, below, meth, c, G, Q, nL, A⟩ := X
  obtain ⟨hx, hb, -⟩ := C
  intro H locs ls hP hD hS hl
  exact lv_iconst hx hb d hv (kk H locs ls hP hD hS hl)
theorem kr_bipush (C : Cb X own cc kc mc ms) {n : Int} (v : Int32) (d : decode cc pc = .ok (.bipush n, 2)) (hv : (Int8.ofInt n).toInt32 = v) (kk : WC X w cells slots lv (pc + 2) (.int v :: st)) : WC X w cells slots lv pc st := by
  obtain ⟨p, l, e, R, s, m, args, below, meth, c, G, Q, nL, A⟩ := X
  obtain ⟨hx, hb, -⟩ := C
  intro H locs ls hP hD hS hl
  exact lv_bipush hx hb d hv (kk H locs ls hP hD hS hl)
theorem kr_sipush (C : Cb X own cc kc mc ms) {n : Int} (v : Int32) (d : decode cc pc = .ok (.sipush n, 3)) (hv : (Int16.ofInt n).toInt32 = v) (kk : WC X w cells slots lv (pc + 3) (.int v :: st)) : WC X w cells slots lv pc st := by
  obtain ⟨p, l, e, R, s, m, args, below, meth, c, G, Q, nL, A⟩ := X
  obtain ⟨hx, hb, -⟩ := C
  intro H locs ls hP hD hS hl
  exact lv_sipush hx hb d hv (kk H locs ls hP hD hS hl)
theorem kr_lconst (C : Cb X own cc kc mc ms) {n : Fin 2} (v : Int64) (d : decode cc pc = .ok (.lconst n, 1)) (hv : Int64.ofNat (n : Nat) = v) (kk : WC X w cells slots lv (pc + 1) (.long v :: st)) : WC X w cells slots lv pc st := by
  obtain ⟨p, l, e, R, s, m, args, below, meth, c, G, Q, nL, A⟩ := X
  obtain ⟨hx, hb, -⟩ := C
  intro H locs ls hP hD hS hl
  exact lv_lconst hx hb d hv (kk H locs ls hP hD hS hl)
theorem kr_goto (C : Cb X own cc kc mc ms) {off : Int} (tgt : Nat) (d : decode cc pc = .ok (.goto off, 3)) (ht : (pc : Int) + off = (tgt : Int)) (kk : WC X w cells slots lv tgt st) : WC X w cells slots lv pc st := by
  obtain ⟨p, l, e, R, s, m, args, below, meth, c, G, Q, nL, A⟩ := X
  obtain ⟨hx, hb, -⟩ := C
  intro H locs ls hP hD hS hl
  exact lv_goto hx hb d ht (kk H locs ls hP hD hS hl)
theorem kr_ge (C : Cb X own cc kc mc ms) {x y : Int32} {off : Int} (tgt : Nat) (d : decode cc pc = .ok (.if_icmp .ge off, 3)) (ht : (pc : Int) + off = (tgt : Int)) (k1 : y ≤ x → WC X w cells slots lv tgt st) (k2 : ¬ y ≤ x → WC X w cells slots lv (pc + 3) st) : WC X w cells slots lv pc (.int y :: .int x :: st) := by
  obtain ⟨p, l, e, R, s, m, args, below, meth, c, G, Q, nL, A⟩ := X
  obtain ⟨hx, hb, -⟩ := C
  intro H locs ls hP hD hS hl
  exact lv_icmp_ge hx hb d ht (fun h => k1 h H locs ls hP hD hS hl) (fun h => k2 h H locs ls hP hD hS hl)
theorem kr_obj (C : Cb X own cc (kc + 1) mc ms) {idx a : Nat} (w1 : Cond.methodLink own idx objectInit ∈ TB) (d : decode cc pc = .ok (.invokespecial idx, 3)) (kk : WC X w cells slots lv (pc + 3) []) : WC X w cells slots lv pc [.ref a] := by
  obtain ⟨p, l, e, R, s, m, args, below, meth, c, G, Q, nL, A⟩ := X
  obtain ⟨hx, hb, hml, hown, hts, hK, hA, hfr, hlo, hce, hsl⟩ := C
  intro H locs ls hP hD hS hl
  refine W.objInit hx hb hown (hts _ w1) (hts _ wd_101) (hts _ wd_102) rfl (by rw [hml]; exact hl.1) rfl d (by omega) (by show 2 * 0 + 0 + 12 ≤ R.locals; omega) ?_
  exact W.eq (g2 := F0 m (pc + 3) ls []) rfl (kk H locs ls hP hD hS hl)
theorem kr_newI (C : Cb X own cc kc mc ms) {n : Int32} {N : Nat} (d : decode cc pc = .ok (.newarray .int, 2)) (hn : ¬ n < 0) (hN : n.toNatClampNeg = N) (hb : Nat.ble N 1000 = true) (h1 : Nat.ble (cells + 1) mc = true) (h2 : Nat.ble (slots + N) ms = true) (kk : ∀ q : Nat, WC X (w ++ [(q, iA X.G N)]) (cells + 1) (slots + N) lv (pc + 2) (.ref q :: st)) : WC X w cells slots lv pc (.int n :: st) := by
  obtain ⟨p, l, e, R, s, m, args, below, meth, c, G, Q, nL, A⟩ := X
  obtain ⟨hx, hcb, hml, hown, hts, hK, hA, hfr, hlo, hce, hsl⟩ := C
  intro H locs ls hP hD hS hl
  have b1 := Nat.le_of_ble_eq_true hb
  have b2 := Nat.le_of_ble_eq_true h1
  have b3 := Nat.le_of_ble_eq_true h2
  refine va_newa (atype := .int) (ty := .int) (a0 := (N, .inl (fun _ => 0))) hx hcb (hts _ wd_146) rfl hK.1 hP hD hS hA (fun _ => rfl) hn hN (by show N * 4 ≤ _; omega) (by omega) (by omega) d (fun q cA H1 hK1 hP1 hD1 hS1 => ?_)
  have e1 : s.vm.findClass ("[" ++ (FieldType.int).toString) = some cA := (hK1.2 3 (cA, .int) rfl).2
  have e2 : s.vm.findClass ("[" ++ (FieldType.int).toString) = some G.2.1 := (hK.1.2 0 (G.2.1, .int) rfl).2
  cases e1.symm.trans e2
  exact kk q H1 locs ls hP1 hD1 hS1 hl
theorem kr_newL (C : Cb X own cc kc mc ms) {n : Int32} {N : Nat} (d : decode cc pc = .ok (.newarray .long, 2)) (hn : ¬ n < 0) (hN : n.toNatClampNeg = N) (hb : Nat.ble N 1000 = true) (h1 : Nat.ble (cells + 1) mc = true) (h2 : Nat.ble (slots + N) ms = true) (kk : ∀ q : Nat, WC X (w ++ [(q, lA X.G N)]) (cells + 1) (slots + N) lv (pc + 2) (.ref q :: st)) : WC X w cells slots lv pc (.int n :: st) := by
  obtain ⟨p, l, e, R, s, m, args, below, meth, c, G, Q, nL, A⟩ := X
  obtain ⟨hx, hcb, hml, hown, hts, hK, hA, hfr, hlo, hce, hsl⟩ := C
  intro H locs ls hP hD hS hl
  have b1 := Nat.le_of_ble_eq_true hb
  have b2 := Nat.le_of_ble_eq_true h1
  have b3 := Nat.le_of_ble_eq_true h2
  refine va_newa (atype := .long) (ty := .long) (a0 := (N, .inr (.inl (fun _ => 0)))) hx hcb (hts _ wd_404) rfl hK.1 hP hD hS hA (fun _ => rfl) hn hN (by show N * 8 ≤ _; omega) (by omega) (by omega) d (fun q cA H1 hK1 hP1 hD1 hS1 => ?_)
  have e1 : s.vm.findClass ("[" ++ (FieldType.long).toString) = some cA := (hK1.2 3 (cA, .long) rfl).2
  have e2 : s.vm.findClass ("[" ++ (FieldType.long).toString) = some G.2.2.1 := (hK.1.2 1 (G.2.2.1, .long) rfl).2
  cases e1.symm.trans e2
  exact kk q H1 locs ls hP1 hD1 hS1 hl
theorem kr_put (C : Cb X own cc kc mc ms) {h0 ci n f idx : Nat} {Cn : String} {T : u_T} {v : Value} {fs : List Value} {ty : FieldType} (fs2 : List Value) (hc : vwCl[ci]? = some (Cn, T, n)) (hin : ∀ w ∈ u_ws Cn T n, w ∈ TB) (ty0 : Nat → FieldType) (hty : ∀ k, k < n → parseFieldDescriptor (T k).2.2.1 = some (ty0 k)) (hnm : ∀ a, a < n → ∀ b, b < n → a ≠ b → (T a).2.1 ≠ (T b).2.1) (hf : f < n) (hw : Cond.fieldLink own idx (T f).1 (T f).2.1 (T f).2.2.1 ∈ TB) (hfin : (T f).2.2.2 = false) (hd : parseFieldDescriptor (T f).2.2.1 = some ty) (hnr : narrow ty v = v) (hfit : fits ty v = true) (hl0 : f < fs.length) (h2 : fs.set f v = fs2) (d : decode cc pc = .ok (.putfield idx, 3)) (kk : WC X ((h0, .inr (ci, fs2)) :: w) cells slots lv (pc + 3) st) : WC X ((h0, .inr (ci, fs)) :: w) cells slots lv pc (v :: .ref h0 :: st) := by
  subst h2
  obtain ⟨p, l, e, R, s, m, args, below, meth, c, G, Q, nL, A⟩ := X
  obtain ⟨hx, hcb, hml, hown, hts, hK, hA, hfr, hlo, hce, hsl⟩ := C
  intro H locs ls hP hD hS hl
  exact va_put hx hcb hts hin ty0 hty hnm hown hK.1 hP hD hS 0 rfl hc f hf (hts _ hw) (fun _ h => h) hfin hd hnr hfit hl0 d (fun H1 locs1 hP1 hD1 hS1 => kk H1 locs1 ls hP1 hD1 hS1 hl)
theorem kr_putF (C : Cb X own cc kc mc ms) (hm : Nm X) {h0 ci n f idx : Nat} {Cn : String} {T : u_T} {v : Value} {fs : List Value} {ty : FieldType} (fs2 : List Value) (hc : vwCl[ci]? = some (Cn, T, n)) (hin : ∀ w ∈ u_ws Cn T n, w ∈ TB) (ty0 : Nat → FieldType) (hty : ∀ k, k < n → parseFieldDescriptor (T k).2.2.1 = some (ty0 k)) (hnm : ∀ a, a < n → ∀ b, b < n → a ≠ b → (T a).2.1 ≠ (T b).2.1) (hf : f < n) (hw : Cond.fieldLink own idx (T f).1 (T f).2.1 (T f).2.2.1 ∈ TB) (hfin : (T f).2.2.2 = true) (hde : (T f).1 = own) (hd : parseFieldDescriptor (T f).2.2.1 = some ty) (hnr : narrow ty v = v) (hfit : fits ty v = true) (hl0 : f < fs.length) (h2 : fs.set f v = fs2) (d : decode cc pc = .ok (.putfield idx, 3)) (kk : WC X ((h0, .inr (ci, fs2)) :: w) cells slots lv (pc + 3) st) : WC X ((h0, .inr (ci, fs)) :: w) cells slots lv pc (v :: .ref h0 :: st) := by
  subst h2
  obtain ⟨p, l, e, R, s, m, args, below, meth, c, G, Q, nL, A⟩ := X
  obtain ⟨hx, hcb, hml, hown, hts, hK, hA, hfr, hlo, hce, hsl⟩ := C
  intro H locs ls hP hD hS hl
  exact va_putF hx hcb hts hin ty0 hty hnm hown hK.1 hP hD hS 0 rfl hc f hf (hts _ hw) (fun _ h => h) hfin hm hde hd hnr hfit hl0 d (fun H1 locs1 hP1 hD1 hS1 => kk H1 locs1 ls hP1 hD1 hS1 hl)
theorem kr_get (C : Cb X own cc kc mc ms) {h0 ci n f idx : Nat} {Cn : String} {T : u_T} {v : Value} {fs : List Value} (hc : vwCl[ci]? = some (Cn, T, n)) (hin : ∀ w ∈ u_ws Cn T n, w ∈ TB) (hf : f < n) (hw : Cond.fieldLink own idx (T f).1 (T f).2.1 (T f).2.2.1 ∈ TB) (hv : fs[f]? = some v) (d : decode cc pc = .ok (.getfield idx, 3)) (kk : WC X ((h0, .inr (ci, fs)) :: w) cells slots lv (pc + 3) (v :: st)) : WC X ((h0, .inr (ci, fs)) :: w) cells slots lv pc (.ref h0 :: st) := by
  obtain ⟨p, l, e, R, s, m, args, below, meth, c, G, Q, nL, A⟩ := X
  obtain ⟨hx, hcb, hml, hown, hts, hK, hA, hfr, hlo, hce, hsl⟩ := C
  intro H locs ls hP hD hS hl
  exact va_get hx hcb hts hin hown hK.1 hP 0 rfl hc f hf (hts _ hw) (fun _ h => h) hv d (kk H locs ls hP hD hS hl)
theorem kr_ast (C : Cb X own cc kc mc ms) {a n : Nat} {g : Nat → Int32} {i x : Int32} (j : Nat) (w2 : va_W) (ha : w[j]? = some (a, .inl (X.G.2.1, n, .inl g))) (hi : vp_in i n) (h2 : w.set j (a, .inl (X.G.2.1, n, .inl (upd g i.toNatClampNeg x))) = w2) (d : decode cc pc = .ok (.iastore, 1)) (kk : WC X w2 cells slots lv (pc + 1) st) : WC X w cells slots lv pc (.int x :: .int i :: .ref a :: st) := by
  subst h2
  obtain ⟨p, l, e, R, s, m, args, below, meth, c, G, Q, nL, A⟩ := X
  obtain ⟨hx, hcb, hml, hown, hts, hK, hA, hfr, hlo, hce, hsl⟩ := C
  intro H locs ls hP hD hS hl
  exact va_iast hx hcb hK.1 hP hD hS j 0 ha rfl hi d (fun H1 locs1 hP1 hD1 hS1 => kk H1 locs1 ls hP1 hD1 hS1 hl)
theorem kr_len (C : Cb X own cc kc mc ms) {a n : Nat} {g : Nat → Int32} {v : Int32} (j : Nat) (ha : w[j]? = some (a, .inl (X.G.2.1, n, .inl g))) (hv : Int32.ofNat n = v) (d : decode cc pc = .ok (.arraylength, 1)) (kk : WC X w cells slots lv (pc + 1) (.int v :: st)) : WC X w cells slots lv pc (.ref a :: st) := by
  obtain ⟨p, l, e, R, s, m, args, below, meth, c, G, Q, nL, A⟩ := X
  obtain ⟨hx, hcb, hml, hown, hts, hK, hA, hfr, hlo, hce, hsl⟩ := C
  intro H locs ls hP hD hS hl
  exact va_alen hx hcb hK.1 hP j 0 ha (ty := .int) rfl hv d (kk H locs ls hP hD hS hl)
/-- six rows of sixty longs -/
theorem kr_grid (C : Cb X own cc kc mc ms) {idx : Nat} (w1 : Cond.classLink own idx "[[J" ∈ TB) (h1 : Nat.ble (cells + 7) mc = true) (h2 : Nat.ble (slots + 366) ms = true) (d : decode cc pc = .ok (.multianewarray idx 2, 4)) (kk : ∀ q : Nat, WC X (w ++ [(q, .inl (X.G.2.2.2, 6, .inr (.inr (.inr (.inr (fun i => some (q + 1 + i))))))), (q + 1, lA X.G 60), (q + 2, lA X.G 60), (q + 3, lA X.G 60), (q + 4, lA X.G 60), (q + 5, lA X.G 60), (q + 6, lA X.G 60)]) (cells + 7) (slots + 366) lv (pc + 4) (.ref q :: st)) : WC X w cells slots lv pc (.int 60 :: .int 6 :: st) := by
  obtain ⟨p, l, e, R, s, m, args, below, meth, c, G, Q, nL, A⟩ := X
  obtain ⟨hx, hcb, hml, hown, hts, hK, hA, hfr, hlo, hce, hsl⟩ := C
  intro H locs ls hP hD hS hl
  have b1 := Nat.le_of_ble_eq_true h1
  have b2 := Nat.le_of_ble_eq_true h2
  have eA : s.vm.findClass ("[" ++ (FieldType.array .long).toString) = some G.2.2.2 := (hK.1.2 2 (G.2.2.2, .array .long) rfl).2
  refine gd_row (ty := .long) (N := 6) (K := 60) hx hcb hown (hts _ w1) eA hK.2.1 (hK.1.2 1 (G.2.2.1, .long) rfl).1 (by decide) (by decide) rfl rfl (by decide) (by decide) (by decide) (by omega) (by omega) d hS.1 rfl (fun H1 hz ho hr hk => ?_)
  have hkeep : ∀ (k : Nat) (x : Nat × va_E), w[k]? = some x → H1[x.1]? = H[x.1]? := fun k x hx => hk x.1 ((hP k x hx).lt)
  have hnew : ∀ (k : Nat) (x : Nat × va_E), ([(H.size, .inl (G.2.2.2, 6, .inr (.inr (.inr (.inr (fun i => some (H.size + 1 + i))))))), (H.size + 1, lA G 60), (H.size + 2, lA G 60), (H.size + 3, lA G 60), (H.size + 4, lA G 60), (H.size + 5, lA G 60), (H.size + 6, lA G 60)] : va_W)[k]? = some x → x.1 = H.size + k ∧ va_at G.1 vwCl x H1 := by
    intro k x hx
    match k, hx with
    | 0, hx => cases hx; exact ⟨rfl, ho⟩
    | 1, hx => cases hx; exact ⟨rfl, hr 0 (by decide)⟩
    | 2, hx => cases hx; exact ⟨rfl, hr 1 (by decide)⟩
    | 3, hx => cases hx; exact ⟨rfl, hr 2 (by decide)⟩
    | 4, hx => cases hx; exact ⟨rfl, hr 3 (by decide)⟩
    | 5, hx => cases hx; exact ⟨rfl, hr 4 (by decide)⟩
    | 6, hx => cases hx; exact ⟨rfl, hr 5 (by decide)⟩
    | k + 7, hx => simp at hx
  have hP1 := (hP.kept hkeep).app (fun k x hx => (hnew k x hx).2)
  refine W.eq rfl (kk H.size H1 locs ls hP1 (va_D.app hD ⟨fun i j x y hi hj hxy => ?_, fun k x hx => ?_⟩ (fun i j x y hi hj hxy => ?_)) ⟨by have := hS.1; omega, fun x h1 h2 => (hk x (Nat.lt_of_lt_of_le h1 hS.1)).trans (hS.2.1 x h1 h2), hS.2.2⟩ hl)
  · have e1 := (hnew i x hi).1
    have e2 := (hnew j y hj).1
    omega
  · rw [(hnew k x hx).1]
    have := hS.1
    exact hA _ (by omega)
  · have e1 := (hP i x hi).lt
    have e2 := (hnew j y hj).1
    omega
theorem kr_mkN (C : Cb X own cc kc mc ms) {ci n i1 i2 k mc1 ms1 : Nat} {Cn : String} {T : u_T} {y : MethodName} {b : ByteArray} {fs : List Value} {post : Nat → va_W → Prop} (hM : Mk X.l X.G y b 1 k ci fs mc1 ms1 post) (hnest : Cond.methodLinkNest own i2 y "LuckShoes" ∈ mk_nests) (w1 : Cond.classLink own i1 Cn ∈ TB) (w2 : Cond.instantiable Cn n ∈ TB) (w3 : Cond.initialized Cn ∈ TB) (w4 : Cond.instanceMethod y ∈ TB) (w5 : Cond.code y b 1 none ∈ TB) (hy : y.cls = Cn) (hyn : y.name = "<init>") (hyd : y.cls ≠ "java/lang/invoke/MethodHandle" ∧ y.cls ≠ "java/lang/invoke/VarHandle" ∧ (parseMethodDescriptor y.desc).map (fun d => d.parameters.length) = some 0) (hc : vwCl[ci]? = some (Cn, T, n)) (hin : ∀ w ∈ u_ws Cn T n, w ∈ TB) (ty0 : Nat → FieldType) (hty : ∀ k, k < n → parseFieldDescriptor (T k).2.2.1 = some (ty0 k)) (hfs : ∀ j, j < n → defaultValue (ty0 j) = vp_V fs j) (hk : Nat.ble (k + 1) kc = true) (h1 : Nat.ble (cells + 1 + mc1) mc = true) (h2 : Nat.ble (slots + n + ms1) ms = true) (h8 : Nat.ble ((st.map fun v => v.category).sum + 1) 8 = true)
    (d1 : decode cc pc = .ok (.new i1, 3)) (d2 : decode cc (pc + 3) = .ok (.dup, 1)) (d3 : decode cc (pc + 4) = .ok (.invokespecial i2, 3)) (kk : ∀ (q : Nat) (wn : va_W), post q wn → WC X (w ++ wn) (cells + 1 + mc1) (slots + n + ms1) lv (pc + 7) (.ref q :: st)) : WC X w cells slots lv pc st := by
  obtain ⟨p, l, e, R, s, m, args, below, meth, c, G, Q, nL, A⟩ := X
  obtain ⟨hx, hcb, hml, hown, hts, hK, hA, hfr, hlo, hce, hsl⟩ := C
  intro H locs ls hP hD hS hl
  have b0 := Nat.le_of_ble_eq_true hk
  have b1 := Nat.le_of_ble_eq_true h1
  have b2 := Nat.le_of_ble_eq_true h2
  have b8 := Nat.le_of_ble_eq_true h8
  refine va_new (ci := ci) (fs := fs) hx hcb hts hin ty0 hty hown (hts _ w1) (hts _ w2) (hts _ w3) hK.1 hP hD hS hA hc hfs (by omega) (by omega) d1 (fun q H1 hP1 hD1 hS1 => ?_)
  refine lv_dup hx hcb d2 rfl ?_
  have hPc : va_P G.1 vwCl [(q, .inr (ci, fs))] H1 := hP1.sub [w.length] (rg_lastF w _)
  have hFc := va_free (wc := [(q, .inr (ci, fs))]) hD1 hS1 hA [w.length] (rg_last w _)
  have hgood : GoodIn TB (wsy y b 1 none) := by
    intro v hv
    refine TB_goodIn v ?_
    rcases List.mem_cons.mp hv with rfl | hv
    · exact w5
    · exact hv
  refine va_callv (va_runIN (As := []) (rest := .ref q :: st) (host := "LuckShoes") ⟨hx, hcb, hml, hown, hts⟩ (hM q H1.size) ⟨va_cnB 0 hts hgood rfl rfl rfl (hK.2.2 _ hnest) (hts _ (hy ▸ w3)) hyd ⟨by show k + 1 ≤ R.frames; omega, by show 8 + (1 + 11) + 50 * k ≤ R.locals; omega⟩, hyn, hts _ w4⟩ ⟨fun a U g mk q => ⟨q.1, q.2.1, q.2.2.1, mkK.same q.2.2.2 rfl⟩, fun U hU hW => ⟨rfl, by rw [hU], by rw [hU]; exact hPc, mkK.warm hK hW⟩⟩ rfl rfl hl.1 rfl (lv_room (by simp only [List.map_cons, List.sum_cons]; show 1 + _ ≤ 8; omega)) d3 ⟨by omega, by omega⟩) hS1 (fun a _ h => hFc a h) hFc (fun u t H2 locs2 ht hvm hw hB hz hkk hS2 => ?_)
  obtain ⟨hP2, hD2⟩ := hB
  rw [ht] at hP2
  obtain ⟨hP3, hD3⟩ := va_join (wr := w) (w1 := u) hP1 hD1 [w.length] (List.range w.length) (rg_last w _) (rg_app w _) (rg_nd _ List.nodup_range) (rg_dis _) hkk hFc hP2 hD2
  exact kk q u hw H2 locs2 ls hP3 hD3 hS2 hl
theorem kr_mkI (C : Cb X own cc kc mc ms) {ci n i1 i2 k nL1 mc1 ms1 : Nat} {Cn : String} {T : u_T} {y : MethodName} {b : ByteArray} {fs : List Value} {post : Nat → va_W → Prop} (hM : Mk X.l X.G y b nL1 k ci fs mc1 ms1 post) (wl : Cond.methodLink own i2 y ∈ TB) (w1 : Cond.classLink own i1 Cn ∈ TB) (w2 : Cond.instantiable Cn n ∈ TB) (w3 : Cond.initialized Cn ∈ TB) (w4 : Cond.instanceMethod y ∈ TB) (w5 : Cond.code y b nL1 none ∈ TB) (hy : y.cls = Cn) (hyn : y.name = "<init>") (hyd : y.cls ≠ "java/lang/invoke/MethodHandle" ∧ y.cls ≠ "java/lang/invoke/VarHandle" ∧ (parseMethodDescriptor y.desc).map (fun d => d.parameters.length) = some 0) (hc : vwCl[ci]? = some (Cn, T, n)) (hin : ∀ w ∈ u_ws Cn T n, w ∈ TB) (ty0 : Nat → FieldType) (hty : ∀ k, k < n → parseFieldDescriptor (T k).2.2.1 = some (ty0 k)) (hfs : ∀ j, j < n → defaultValue (ty0 j) = vp_V fs j) (hk : Nat.ble (k + 1) kc = true) (hn2 : Nat.ble nL1 2 = true) (h1 : Nat.ble (cells + 1 + mc1) mc = true) (h2 : Nat.ble (slots + n + ms1) ms = true) (h8 : Nat.ble ((st.map fun v => v.category).sum + 1) 8 = true)
    (d1 : decode cc pc = .ok (.new i1, 3)) (d2 : decode cc (pc + 3) = .ok (.dup, 1)) (d3 : decode cc (pc + 4) = .ok (.invokespecial i2, 3)) (kk : ∀ (q : Nat) (wn : va_W), post q wn → WC X (w ++ wn) (cells + 1 + mc1) (slots + n + ms1) lv (pc + 7) (.ref q :: st)) : WC X w cells slots lv pc st := by
  obtain ⟨p, l, e, R, s, m, args, below, meth, c, G, Q, nL, A⟩ := X
  obtain ⟨hx, hcb, hml, hown, hts, hK, hA, hfr, hlo, hce, hsl⟩ := C
  intro H locs ls hP hD hS hl
  have b0 := Nat.le_of_ble_eq_true hk
  have b1 := Nat.le_of_ble_eq_true h1
  have b2 := Nat.le_of_ble_eq_true h2
  have b8 := Nat.le_of_ble_eq_true h8
  have b9 := Nat.le_of_ble_eq_true hn2
  refine va_new (ci := ci) (fs := fs) hx hcb hts hin ty0 hty hown (hts _ w1) (hts _ w2) (hts _ w3) hK.1 hP hD hS hA hc hfs (by omega) (by omega) d1 (fun q H1 hP1 hD1 hS1 => ?_)
  refine lv_dup hx hcb d2 rfl ?_
  have hPc : va_P G.1 vwCl [(q, .inr (ci, fs))] H1 := hP1.sub [w.length] (rg_lastF w _)
  have hFc := va_free (wc := [(q, .inr (ci, fs))]) hD1 hS1 hA [w.length] (rg_last w _)
  have hgood : GoodIn TB (wsy y b nL1 none) := by
    intro v hv
    refine TB_goodIn v ?_
    rcases List.mem_cons.mp hv with rfl | hv
    · exact w5
    · exact hv
  refine va_callv (va_runI (As := []) (rest := .ref q :: st) ⟨hx, hcb, hml, hown, hts⟩ (hM q H1.size) (cwI 0 hts hgood rfl rfl rfl (hts _ (hy ▸ w3)) (hts _ wl) (hts _ w4) hyn hyd ⟨by show k + 1 ≤ R.frames; omega, by show 8 + (nL1 + 11) + 50 * k ≤ R.locals; omega⟩) ⟨fun a U g mk q => ⟨q.1, q.2.1, q.2.2.1, mkK.same q.2.2.2 rfl⟩, fun U hU hW => ⟨rfl, by rw [hU], by rw [hU]; exact hPc, mkK.warm hK hW⟩⟩ rfl rfl hl.1 rfl (lv_room (by simp only [List.map_cons, List.sum_cons]; show 1 + _ ≤ 8; omega)) d3 ⟨by omega, by omega⟩) hS1 (fun a _ h => hFc a h) hFc (fun u t H2 locs2 ht hvm hw hB hz hkk hS2 => ?_)
  obtain ⟨hP2, hD2⟩ := hB
  rw [ht] at hP2
  obtain ⟨hP3, hD3⟩ := va_join (wr := w) (w1 := u) hP1 hD1 [w.length] (List.range w.length) (rg_last w _) (rg_app w _) (rg_nd _ List.nodup_range) (rg_dis _) hkk hFc hP2 hD2
  exact kk q u hw H2 locs2 ls hP3 hD3 hS2 hl
end WCR
/-- a contract out of a walk -/
theorem mk_of {l : Launch} {G : Dg} {y : MethodName} {b : ByteArray} {nL k ci mc ms : Nat} {fs : List Value} {post : Nat → va_W → Prop} (hy : plainName y.cls = true) (hn : Nat.ble 1 nL = true) (hyn : y.name = "<init>")
    (H : ∀ (X : Bmb) (h0 : Nat), X.l = l → X.G = G → X.nL = nL → Cb X y.cls b k mc ms → Nm X → (∀ (wn : va_W) (cells slots pc : Nat) (lv : List (Nat × Value)), cells = mc → slots = ms → post h0 wn → decode b pc = .ok (.return_, 1) → WC X wn cells slots lv pc []) → WC X [(h0, .inr (ci, fs))] 0 0 [(0, .ref h0)] 0 []) : Mk l G y b nL k ci fs mc ms post := by
  intro h0 sz
  refine Met.ofW (cc := b) (maxL := nL) (ret := none) hy rfl ?_
  intro p e s m args below meth c s₁ B hml hv
  obtain ⟨rfl, hsz, hP, hK⟩ := hv
  subst hsz
  have hts := atoms_spec (ws := wsy y b nL none) B.pre
  have hown : s.vm.findClass y.cls = some m.cls := findClass_of_methodNamed B.named
  have hin : meth.name = "<init>" := ((name_of_methodNamed B.named B.method).1).trans hyn
  have K := H (p, l, e, { frames := k, cells := mc, slots := ms, locals := 50 * k }, s, m, [Value.ref h0].toArray, below, meth, c, G, MQ below (va_Qv (post h0) (fun w t => va_P G.1 vwCl w t.heap ∧ va_D (va_A [(h0, .inr (ci, fs))] s.heap.size) w) (va_A [(h0, .inr (ci, fs))] s.heap.size)) [Value.ref h0].toArray s mc ms (va_A [(h0, .inr (ci, fs))] s.heap.size), nL, va_A [(h0, .inr (ci, fs))] s.heap.size) h0 rfl rfl rfl ⟨B.exec, B.bytes, hml, hown, fun w hw => hts w (List.mem_cons_of_mem _ hw), hK, fun q h => Or.inr h, Nat.le_refl _, Nat.le_refl _, Nat.le_refl _, Nat.le_refl _⟩ hin (fun wn cells slots pc lv e1 e2 hpost d => ?_)
  · have hl := lv_entry [Value.ref h0] (n := nL) (Nat.le_of_ble_eq_true hn)
    rw [lg_entry_eq]
    refine K s.heap [] _ hP ⟨fun i j x y hi hj _ => ?_, fun k x hx => ?_⟩ va_S.rf hl
    · have h1 : i < 1 := (List.getElem?_eq_some_iff.mp hi).1
      have h2 : j < 1 := (List.getElem?_eq_some_iff.mp hj).1
      omega
    · exact va_A.in hx
  · subst e1
    subst e2
    intro H1 locs ls hP1 hD1 hS1 hl1
    exact W.vret B.exec B.bytes B.returns (fun t ht hW => ⟨⟨wn, rfl, hpost, by rw [ht]; exact hP1, hD1⟩, hS1.F ht⟩) hS1.2.2 d B.notSynchronized
