/-! NEW ROWS OF ROWS: 'multianewarray' of two dimensions, its inner arrays of numbers -/
section GRID
variable {p : Program} {l : Launch} {e : Env} {R : Room} {s : State} {m : MethodId} {args : Array Value} {below : List Frame} {meth : Method} {c : Code} {locs : List Loc} {cells slots : Nat}
/-- the outer array when i of its rows are there -/
def gd_o (cA : ClassId) (h N i : Nat) : Cell := arrV cA N (fun j => if j < i then .ref (h + 1 + j) else .null)
theorem gd_o_put (cA : ClassId) (h N i : Nat) : (gd_o cA h N i).setSlot i (.ref (h + 1 + i)) = gd_o cA h N (i + 1) := by
  unfold gd_o
  rw [arrV_store]
  refine congrArg (arrV cA N) (funext fun j => ?_)
  unfold updV
  by_cases e1 : j = i
  · subst e1
    rw [if_pos rfl, if_pos (Nat.lt_succ_self j)]
  · rw [if_neg e1]
    show (if j < i then Value.ref (h + 1 + j) else Value.null) = if j < i + 1 then Value.ref (h + 1 + j) else Value.null
    by_cases e2 : j < i
    · rw [if_pos e2, if_pos (Nat.lt_succ_of_lt e2)]
    · rw [if_neg e2, if_neg (fun q => e1 (by omega))]
/-- what stands when i rows are made -/
def gd_I (St : State → List Loc → Nat → Nat → Prop) (S : State) (cA cJ : ClassId) (N K : Nat) (dv : Value) (locs : List Loc) (cells slots i : Nat) (F : State) : Prop :=
  (∃ L : List Loc, (∀ x ∈ L, x.base = S.heap.size) ∧ St F (locs ++ L) (cells + 1 + i) (slots + N + i * K)) ∧ F.vm = S.vm ∧ F.heap.size = S.heap.size + 1 + i ∧ F.heap[S.heap.size]? = some (gd_o cA S.heap.size N i) ∧ (∀ j, j < i → F.heap[S.heap.size + 1 + j]? = some (arrV cJ K (fun _ => dv))) ∧ ∀ a : Nat, a < S.heap.size → F.heap[a]? = S.heap[a]?
theorem gd_I0 {S : State} {cA cJ : ClassId} {N K : Nat} {dv : Value} (X : Stand p l e R s m args below meth c S locs cells slots) : gd_I (fun F L a b => Stand p l e R s m args below meth c F L a b) S cA cJ N K dv locs cells slots 0 (S.pushCell (arrV cA N (fun _ => .null))) := by
  have h := X.pushed (arrV cA N (fun _ => .null))
  rw [arrV_size] at h
  have e0 : gd_o cA S.heap.size N 0 = arrV cA N (fun _ => .null) := by
    unfold gd_o
    refine congrArg (arrV cA N) (funext fun j => ?_)
    rw [if_neg (Nat.not_lt_zero j)]
  refine ⟨⟨[], fun x hx => (by cases hx), ?_⟩, rfl, ?_, ?_, fun j hj => absurd hj (Nat.not_lt_zero j), fun a ha => State.heap_pushCell_of_lt _ _ ha⟩
  · simpa using h
  · simp
  · rw [e0]
    simp
/-- the states that the rows are made through -/
def gd_F (S : State) (cA cJ : ClassId) (N K : Nat) (dv : Value) : Nat → State
  | 0 => S.pushCell (arrV cA N (fun _ => .null))
  | i + 1 => ((gd_F S cA cJ N K dv i).pushCell (arrV cJ K (fun _ => dv))).setCell S.heap.size ((gd_o cA S.heap.size N i).setSlot i (.ref (gd_F S cA cJ N K dv i).heap.size))
theorem gd_Is {S F : State} {cA cJ : ClassId} {N K i : Nat} {dv : Value} (h : gd_I (fun F L a b => Stand p l e R s m args below meth c F L a b) S cA cJ N K dv locs cells slots i F) : gd_I (fun F L a b => Stand p l e R s m args below meth c F L a b) S cA cJ N K dv locs cells slots (i + 1) ((F.pushCell (arrV cJ K (fun _ => dv))).setCell S.heap.size ((gd_o cA S.heap.size N i).setSlot i (.ref F.heap.size))) := by
  obtain ⟨⟨L, hL, X⟩, hv, hz, ho, hi, hk⟩ := h
  have hlt : S.heap.size < F.heap.size := by omega
  have ho2 : (F.pushCell (arrV cJ K (fun _ => dv))).heap[S.heap.size]? = some (gd_o cA S.heap.size N i) := by
    rw [State.heap_pushCell_of_lt (h := hlt)]
    exact ho
  have X1 := X.pushed (arrV cJ K (fun _ => dv))
  rw [arrV_size] at X1
  have X2 := X1.stored ho2 i (.ref F.heap.size)
  refine ⟨⟨L ++ [⟨S.heap.size, i⟩], fun x hx => ?_, ?_⟩, hv, ?_, ?_, fun j hj => ?_, fun a ha => ?_⟩
  · rcases List.mem_append.mp hx with q | q
    · exact hL x q
    · rw [List.mem_singleton.mp q]
  · have e1 : slots + N + (i + 1) * K = slots + N + i * K + K := by rw [Nat.succ_mul]; omega
    rw [e1, ← List.append_assoc]
    exact X2
  · simp [State.setCell, hz]
    omega
  · rw [hz, gd_o_put]
    exact State.heap_setCell_self ho2
  · rw [State.heap_setCell_other (show S.heap.size ≠ S.heap.size + 1 + j by omega)]
    by_cases q : j < i
    · have hq : S.heap.size + 1 + j < F.heap.size := by omega
      rw [State.heap_pushCell_of_lt (h := hq)]
      exact hi j q
    · rw [show S.heap.size + 1 + j = F.heap.size by omega]
      exact State.heap_pushCell_size _ _
  · have hq : a < F.heap.size := by omega
    rw [State.heap_setCell_other (Nat.ne_of_gt ha), State.heap_pushCell_of_lt (h := hq)]
    exact hk a ha
theorem gd_Ia {S : State} {cA cJ : ClassId} {N K : Nat} {dv : Value} (X : Stand p l e R s m args below meth c S locs cells slots) : ∀ i, gd_I (fun F L a b => Stand p l e R s m args below meth c F L a b) S cA cJ N K dv locs cells slots i (gd_F S cA cJ N K dv i)
  | 0 => gd_I0 X
  | i + 1 => gd_Is (gd_Ia X i)
/-- one row -/
theorem gd_one {E : CtlPost} {d : Bool} {acts : List Action} {F : State} {cJ cc : ClassId} {kJ : Class} {ty : FieldType} {k : Int32} (hk : F.vm.classes[cJ]? = some kJ) (hkind : kJ.kind = .array cc ty) (h0 : ¬ k < 0) (b1 : ¬ k.toNatClampNeg > e.platform.arrayLengthLimit) (b2 : ¬ k.toNatClampNeg * componentBytes ty > e.platform.maxHeapBytes)
    (h1 : F.heap.size < e.platform.maxCells) (h2 : F.slotsUsed + k.toNatClampNeg ≤ e.platform.maxSlots) {Q : Addr → Bool → List Action → State → Prop} (hq : ∀ acts', Q F.heap.size d acts' (F.pushCell (arrV cJ k.toNatClampNeg (fun _ => defaultValue ty)))) : wp (multianewarray.make cJ [k]) Q E e d acts F := by
  rw [multianewarray.make]
  simp only [wp_bind', W.ite, h0, if_false, wp_pure', W.theClass, hk, hkind, Option.some.injEq, exists_eq_left']
  refine W.newArray_of hk hkind b1 b2 h1 h2 (fits_default ty) (fun acts' => ?_)
  have := hq acts'
  rw [← arrV_new] at this
  exact this
theorem gd_all {E : CtlPost} {d : Bool} {acts : List Action} {S : State} {g0 : JFrame} (X : Stand p l e R s m args below meth c S locs cells slots) {cA cJ cc : ClassId} {kA kJ : Class} {ty : FieldType} {n k : Int32} {N K : Nat} (hkA : S.vm.classes[cA]? = some kA) (hkindA : kA.kind = .array cJ (.array ty)) (hkJ : S.vm.classes[cJ]? = some kJ) (hkindJ : kJ.kind = .array cc ty) (hn : ¬ n < 0) (h0 : ¬ k < 0) (eN : n.toNatClampNeg = N) (eK : k.toNatClampNeg = K)
    (a1 : ¬ N > e.platform.arrayLengthLimit) (a2 : ¬ N * componentBytes (.array ty) > e.platform.maxHeapBytes) (b1 : ¬ K > e.platform.arrayLengthLimit) (b2 : ¬ K * componentBytes ty > e.platform.maxHeapBytes) (hc : cells + (1 + N) ≤ R.cells) (hs : slots + (N + N * K) ≤ R.slots) {Q : Addr → Bool → List Action → State → Prop}
    (hq : ∀ d' acts', Q S.heap.size d' acts' ((gd_F S cA cJ N K (defaultValue ty) N).setTop g0)) : wp (multianewarray.make cA [n, k]) Q E e d acts (S.setTop g0) := by
  subst eN
  subst eK
  obtain ⟨r1, r2⟩ := X.roomAbove hc hs
  have hf : ([k].find? (· < 0)) = none := by simp [h0]
  rw [multianewarray.make]
  simp only [wp_bind', W.ite, hn, if_false, wp_pure', W.theClass, State.vm_setTop, hkA, hkindA, Option.some.injEq, exists_eq_left']
  refine W.newArray_of (s := S.setTop g0) hkA hkindA a1 a2 (by show S.heap.size < _; omega) (by show S.slotsUsed + _ ≤ _; omega) rfl (fun acts1 => ?_)
  simp only [hf]
  rw [ite_self, wp_bind', Std.Legacy.Range.forIn_eq_forIn_range']
  have hz : ([:n.toNatClampNeg] : Std.Legacy.Range).size = n.toNatClampNeg := by simp [Std.Legacy.Range.size]
  rw [hz]
  have e0 : (S.setTop g0).pushCell { cls := cA, slots := Array.replicate n.toNatClampNeg .null } = (S.pushCell (arrV cA n.toNatClampNeg (fun _ => .null))).setTop g0 := by
    rw [← arrV_new]
    rfl
  rw [e0]
  refine wp_forIn_inv (fun rest s' => ∃ i, i ≤ n.toNatClampNeg ∧ rest = List.range' i (n.toNatClampNeg - i) ∧ s' = (gd_F S cA cJ n.toNatClampNeg k.toNatClampNeg (defaultValue ty) i).setTop g0) _ _ ⟨0, Nat.zero_le _, rfl, rfl⟩ ?_ ?_
  · rintro x rest s' d' acts' Q' ⟨i, hi, hl, rfl⟩ hnext
    have hlt : i < n.toNatClampNeg := by
      rcases Nat.lt_or_ge i n.toNatClampNeg with q | q
      · exact q
      · rw [show n.toNatClampNeg - i = 0 by omega] at hl
        cases hl
    rw [show n.toNatClampNeg - i = (n.toNatClampNeg - (i + 1)) + 1 by omega, List.range'_succ] at hl
    obtain ⟨rfl, hrest⟩ := List.cons.inj hl
    have hI := gd_Ia (cA := cA) (cJ := cJ) (N := n.toNatClampNeg) (K := k.toNatClampNeg) (dv := defaultValue ty) X x
    have eF : gd_F S cA cJ n.toNatClampNeg k.toNatClampNeg (defaultValue ty) (x + 1) = ((gd_F S cA cJ n.toNatClampNeg k.toNatClampNeg (defaultValue ty) x).pushCell (arrV cJ k.toNatClampNeg (fun _ => defaultValue ty))).setCell S.heap.size ((gd_o cA S.heap.size n.toNatClampNeg x).setSlot x (.ref (gd_F S cA cJ n.toNatClampNeg k.toNatClampNeg (defaultValue ty) x).heap.size)) := rfl
    generalize gd_F S cA cJ n.toNatClampNeg k.toNatClampNeg (defaultValue ty) x = F at hI eF ⊢
    obtain ⟨⟨L, hL, XF⟩, hv, hzF, ho, hin, hk⟩ := hI
    have hm : (x + 1) * k.toNatClampNeg ≤ n.toNatClampNeg * k.toNatClampNeg := Nat.mul_le_mul_right _ hlt
    rw [Nat.succ_mul] at hm
    obtain ⟨q1, q2⟩ := XF.roomAbove (a := 1) (b := k.toNatClampNeg) (by omega) (by omega)
    simp only [wp_bind']
    refine gd_one (F := F.setTop g0) (by rw [State.vm_setTop, hv]; exact hkJ) hkindJ h0 b1 b2 (by show F.heap.size < _; omega) (by show F.slotsUsed + _ ≤ _; omega) (fun acts2 => ?_)
    have ho2 : (F.pushCell (arrV cJ k.toNatClampNeg (fun _ => defaultValue ty))).heap[S.heap.size]? = some (gd_o cA S.heap.size n.toNatClampNeg x) := by
      have hq : S.heap.size < F.heap.size := by omega
      rw [State.heap_pushCell_of_lt (h := hq)]
      exact ho
    simp only [wp_bind', W.writeLoc, wp_pure']
    refine ⟨gd_o cA S.heap.size n.toNatClampNeg x, ho2, by simp [gd_o, arrV], by rw [gd_o, arrV_size]; exact hlt, ?_, hnext _ _ _ ⟨x + 1, hlt, hrest, by rw [eF]; rfl⟩⟩
    show State.fitsSlot _ cA .none x (.ref F.heap.size) = true
    have hkF : F.vm.classes[cA]? = some kA := by rw [hv]; exact hkA
    simp [State.fitsSlot, State.slotType?, hkF, hkindA]
    rfl
  · rintro s' d' acts' ⟨i, hi, hl, rfl⟩
    have hiN : i = n.toNatClampNeg := by
      rcases Nat.lt_or_ge i n.toNatClampNeg with q | q
      · rw [show n.toNatClampNeg - i = (n.toNatClampNeg - (i + 1)) + 1 by omega, List.range'_succ] at hl
        cases hl
      · omega
    subst hiN
    simp only [wp_pure']
    exact hq _ _
variable {H : Heap} {Q : State → Prop} {cc : ByteArray} {pc : Nat} {ls : Array Slot} {rest : List Value} {D : va_G} {cl : List vw_C} {A : Nat → Prop} {ws : va_W} {H0 : Heap}
/-- the outer class's component, by its number -/
def gd_K (cA cJ : ClassId) (ty : FieldType) (U : State) : Prop := ∃ k : Class, U.vm.classes[cA]? = some k ∧ k.kind = .array cJ (.array ty)
theorem gd_K.moved {cA cJ : ClassId} {ty : FieldType} {u U : State} (hvm : u.vm.Alike U.vm) (h : gd_K cA cJ ty u) : gd_K cA cJ ty U := by
  obtain ⟨k, h1, h2⟩ := h
  obtain ⟨k1, h3, h4⟩ := hvm.2.2 _ _ h1
  exact ⟨k1, h3, by rw [h4]; exact h2⟩
theorem gd_row (hexec : p.tables.exec = Jvm.exec) (hb : c.code = cc) {own : String} {index : Nat} {ty : FieldType} {cA cJ : ClassId} (hown : s.vm.findClass own = some m.cls) (hclink : (Cond.classLink own index ("[" ++ (FieldType.array ty).toString)).before args s = true) (hcA : s.vm.findClass ("[" ++ (FieldType.array ty).toString) = some cA) (hG : gd_K cA cJ ty s) (hJ : ArrOfT s cJ ty)
    {n k : Int32} {N K : Nat} (hn : ¬ n < 0) (h0 : ¬ k < 0) (eN : n.toNatClampNeg = N) (eK : k.toNatClampNeg = K) (hb1 : N * 4 ≤ 536870912) (hb2 : K * componentBytes ty ≤ 536870912) (hb3 : K ≤ 536870912) (hc : cells + (1 + N) ≤ R.cells) (hs : slots + (N + N * K) ≤ R.slots) (hd : decode cc pc = .ok (.multianewarray index 2, 4)) (hS : H0.size ≤ H.size) (hH0 : H0 = s.heap)
    (kk : ∀ H1 : Heap, H1.size = H.size + 1 + N → H1[H.size]? = some (gd_o cA H.size N N) → (∀ j, j < N → H1[H.size + 1 + j]? = some (arrV cJ K (fun _ => defaultValue ty))) → (∀ a : Nat, a < H.size → H1[a]? = H[a]?) → W p l e R s m args below meth c H1 locs (cells + 1 + N) (slots + N + N * K) Q (F0 m (pc + 4) ls (.ref H.size :: rest))) : W p l e R s m args below meth c H locs cells slots Q (F0 m pc ls (.int k :: .int n :: rest)) := by
  intro T hT X
  subst hT
  subst hb
  have hpl : e.platform.magicAccessors = ({} : Platform).magicAccessors := by rw [X.admits.platform]
  obtain ⟨kA, hkA, hkindA⟩ := hG
  obtain ⟨-, kJ, hkJ0, cJ2, hkindJ⟩ := hJ 0 (fun _ => .null)
  have hkJ : s.vm.classes[cJ]? = some kJ := hkJ0
  obtain ⟨c0, hfc, hcl⟩ := Cond.classLink_spec hown hclink e.platform hpl
  cases hcA.symm.trans hfc
  obtain ⟨hg1, hw1, hr1⟩ := State.classEntry (e := e) X.warmed hcl
  generalize T.vm.noted m.cls index (.cls cA) = vm1 at hg1 hw1 hr1
  obtain ⟨kA1, hkA1, eA⟩ := hw1.alike.2.2 _ _ hkA
  obtain ⟨kJ1, hkJ1, eJ⟩ := hw1.alike.2.2 _ _ hkJ
  have X1 := X.noted hw1
  have lim : ∀ z : Nat, z ≤ 536870912 → ¬ z > e.platform.arrayLengthLimit := fun z hz => by rw [Launch.admits_arrayLengthLimit X.admits]; omega
  have heap : ∀ z : Nat, z ≤ 536870912 → ¬ z > e.platform.maxHeapBytes := fun z hz => by rw [Launch.admits_maxHeapBytes X.admits]; omega
  have hI := gd_Ia (cA := cA) (cJ := cJ) (N := N) (K := K) (dv := defaultValue ty) X1 N
  obtain ⟨⟨L, hL, XF⟩, hv, hz, ho, hin, hk⟩ := hI
  obtain ⟨t, st, hQ⟩ := kk (gd_F (T.setVm vm1) cA cJ N K (defaultValue ty) N).heap hz ho hin hk (gd_F (T.setVm vm1) cA cJ N K (defaultValue ty) N) rfl (XF.forget (fun x hx => by rw [hL x hx]; rw [← hH0]; exact hS))
  refine ⟨t, ?_, hQ⟩
  jvm_step X.here [hexec, hd]
  simp only [multianewarray.sem, wp_bind', W.resolveClassAt_links (State.method?_setTop (F0 m pc ls (.int k :: .int n :: rest)) X.here.top) hg1]
  rw [W.popN, if_neg (by decide)]
  refine ⟨F0 m pc ls (.int k :: .int n :: rest), State.topJava?_setTop' (s := T.setVm vm1) _ X.here.top, [.int n, .int k], rest, rfl, rfl, ?_⟩
  simp only [List.mapM_cons, List.mapM_nil, wp_bind', wp_pure']
  have e1 : ((T.setTop (F0 m pc ls (.int k :: .int n :: rest))).setVm vm1).setTop (F0 m pc ls rest) = (T.setVm vm1).setTop (F0 m pc ls rest) := by
    show ((T.setVm vm1).setTop _).setTop _ = _
    rw [State.setTop_setTop]
  show wp _ _ _ _ _ _ (((T.setTop (F0 m pc ls (.int k :: .int n :: rest))).setVm vm1).setTop (F0 m pc ls rest))
  rw [e1]
  refine gd_all (g0 := F0 m pc ls rest) X1 hkA1 (by rw [eA]; exact hkindA) hkJ1 (by rw [eJ]; exact hkindJ) hn h0 eN eK (lim N (by omega)) (heap _ (by show N * 4 ≤ _; exact hb1)) (lim K hb3) (heap _ hb2) hc hs (fun d' acts' => ?_)
  simp only [wp_bind', W.mark, W.pushRef]
  refine ⟨F0 m pc ls rest, State.topJava?_setTop' _ XF.here.top, fun acts => ?_⟩
  rw [State.setTop_setTop]
  simp [jvm, XF.here.top]
  exact st
end GRID
