theorem lsw_eq {x k : Int32} {ps : List (Int × Int)} {d off : Int} (h : x = k) (e : Op.lookupswitch.offset ps d k.toInt = off) : Op.lookupswitch.offset ps d x.toInt = off := h ▸ e
def rmv (k : Nat) : Room := { frames := k, cells := 0, slots := 0, locals := 50 * k }
def Pre (N : Rig) (M : Mem) : State → Prop := fun U => Ok N U ∧ va_P N.1 vwCl (wld N M) U.heap
def Pst (N : Rig) (u : Mem) (t : State) : Prop := va_P N.1 vwCl (wld N u) t.heap
def nar (ret : Option FieldType) (r : Int32) : Prop := ∀ ty, ret = some ty → narrow ty (.int r) = .int r
def wsy (y : MethodName) (b : ByteArray) (nL : Nat) (ret : Option FieldType) : List Cond := .code y b nL ret :: TB
def QcI (N : Rig) (ret : Option FieldType) (r : Int32) (M2 : Mem) : Array Value → State → Outcome → State → Prop := va_Qi (fun (r' : Int32) (u : Mem) => r' = r ∧ u = M2 ∧ nar ret r) (Pst N) (AwS N)
def QcL (N : Rig) (r : Int64) (M2 : Mem) : Array Value → State → Outcome → State → Prop := va_Ql (fun (r' : Int64) (u : Mem) => r' = r ∧ u = M2) (Pst N) (AwS N)
def QcV (N : Rig) (M2 : Mem) : Array Value → State → Outcome → State → Prop := va_Qv (fun (u : Mem) => u = M2) (Pst N) (AwS N)
def QcR (N : Rig) (o : Nat) (M2 : Mem) : Array Value → State → Outcome → State → Prop := va_Qr (fun (u : Mem) => u = M2) (fun u a t => Pst N u t ∧ a = N.2.1 o) (AwS N)
def Ct (l : Launch) (N : Rig) (y : MethodName) (b : ByteArray) (nL : Nat) (ret : Option FieldType) (k : Nat) (as : List Value) (M : Mem) (Qc : Array Value → State → Outcome → State → Prop) : Prop :=
  Met l y (wsy y b nL ret) (rmv k) (va_Pc as (Pre N M)) Qc 0 0 (AwS N)
/-- how a walk ends -/
def En (X : Amb) (ret : Option FieldType) (Qc : Array Value → State → Outcome → State → Prop) : Prop := match X with
  | (_, _, _, _, s, _, args, below, meth, _, N, Q, _, cells, slots) => Q = MQ below Qc args s cells slots (AwS N) ∧ meth.sig.returnType = ret ∧ meth.locks = false
theorem ct_of {l : Launch} {N : Rig} {y : MethodName} {b : ByteArray} {nL : Nat} {ret : Option FieldType} {k : Nat} {as : List Value} {M : Mem} {Qc : Array Value → State → Outcome → State → Prop} (hy : plainName y.cls = true) (hn : Nat.ble (lg_sl as).length nL = true)
    (H : ∀ X : Amb, X.l = l → X.N = N → X.nL = nL → Cx X y.cls b k → En X ret Qc → WA X M (lv_args 0 as) 0 []) : Ct l N y b nL ret k as M Qc := by
  refine Met.ofW (cc := b) (maxL := nL) (ret := ret) hy rfl ?_
  intro p e s m args below meth c s₁ B hml hv
  obtain ⟨rfl, hO, hP⟩ := hv
  have hts := atoms_spec (ws := wsy y b nL ret) B.pre
  have hown : s.vm.findClass y.cls = some m.cls := findClass_of_methodNamed B.named
  have K := H (p, l, e, rmv k, s, m, as.toArray, below, meth, c, N, MQ below Qc as.toArray s 0 0 (AwS N), nL, 0, 0) rfl rfl rfl ⟨B.exec, B.bytes, hml, hown, fun w hw => hts w (List.mem_cons_of_mem _ hw), hO, Nat.le_refl _, Nat.le_refl _, Nat.le_refl _, Nat.le_refl _⟩ ⟨rfl, B.returns, B.notSynchronized⟩
  have hl := lv_entry as (n := nL) (Nat.le_of_ble_eq_true hn)
  rw [lg_entry_eq]
  exact K s.heap [] _ hP va_S.rf hl
theorem nlt {X : Amb} {n i : Nat} (h : X.nL = n) (hb : Nat.blt i n = true) : i < X.nL := by rw [h]; exact Nat.le_of_ble_eq_true hb
theorem nltL {X : Amb} {n i : Nat} (h : X.nL = n) (hb : Nat.blt (i + 1) n = true) : i + 1 < X.nL := by rw [h]; exact Nat.le_of_ble_eq_true hb
/-- the words of a method that is called: of an object, of a class -/
def MWv (y : MethodName) (b : ByteArray) (nL : Nat) (ret : Option FieldType) (n : Nat) : Prop := (Cond.instanceMethod y ∈ TB ∧ Cond.selects y.cls y y ∈ TB ∧ Cond.initialized y.cls ∈ TB ∧ Cond.code y b nL ret ∈ TB) ∧ (y.cls ≠ "java/lang/invoke/MethodHandle" ∧ y.cls ≠ "java/lang/invoke/VarHandle" ∧ (parseMethodDescriptor y.desc).map (fun d => d.parameters.length) = some n) ∧ Nat.ble nL 30 = true
def MWs (y : MethodName) (b : ByteArray) (nL : Nat) (ret : Option FieldType) (n : Nat) : Prop := (Cond.static y ∈ TB ∧ Cond.initialized y.cls ∈ TB ∧ Cond.code y b nL ret ∈ TB) ∧ (y.cls ≠ "java/lang/invoke/MethodHandle" ∧ y.cls ≠ "java/lang/invoke/VarHandle" ∧ (parseMethodDescriptor y.desc).map (fun d => d.parameters.length) = some n) ∧ Nat.ble nL 30 = true
theorem MWv.good {y : MethodName} {b : ByteArray} {nL n idx : Nat} {ret : Option FieldType} {own : String} (h : MWv y b nL ret n) (hw : Cond.methodLink own idx y ∈ TB) : GoodIn TB (wsV own idx y.cls y (wsy y b nL ret)) := by
  intro w hm
  refine TB_goodIn w ?_
  simp only [wsV, wsy, List.mem_append, List.mem_cons, List.not_mem_nil, or_false] at hm
  rcases hm with (rfl | rfl | rfl | rfl) | rfl | hm
  · exact hw
  · exact h.1.1
  · exact h.1.2.1
  · exact h.1.2.2.1
  · exact h.1.2.2.2
  · exact hm
theorem MWs.good {y : MethodName} {b : ByteArray} {nL n idx : Nat} {ret : Option FieldType} {own : String} (h : MWs y b nL ret n) (hw : Cond.methodLink own idx y ∈ TB) : GoodIn TB (va_wsS own idx y (wsy y b nL ret)) := by
  intro w hm
  refine TB_goodIn w ?_
  simp only [va_wsS, wsy, List.mem_append, List.mem_cons, List.not_mem_nil, or_false] at hm
  rcases hm with (rfl | rfl | rfl) | rfl | hm
  · exact hw
  · exact h.1.1
  · exact h.1.2.1
  · exact h.1.2.2
  · exact hm
theorem MWs.good0 {y : MethodName} {b : ByteArray} {nL n : Nat} {ret : Option FieldType} (h : MWs y b nL ret n) : GoodIn TB (wsy y b nL ret) := by
  intro w hm
  refine TB_goodIn w ?_
  simp only [wsy, List.mem_cons] at hm
  rcases hm with rfl | hm
  · exact h.1.2.2
  · exact hm
theorem pre_blind {N : Rig} {M : Mem} {as : List Value} : FrameBlind (va_Pc as (Pre N M)) := fun a U g mk q => ⟨q.1, q.2.1.same rfl rfl, q.2.2⟩
section WAC
variable {X : Amb} {own : String} {cc : ByteArray} {kc : Nat} {M : Mem} {lv : List (Nat × Value)} {pc : Nat} {st : List Value}
theorem rm_ok {k kc nL2 : Nat} {R : Room} (hk : Nat.ble (k + 1) kc = true) (h1 : kc ≤ R.frames) (h2 : 50 * kc ≤ R.locals) (h3 : Nat.ble nL2 30 = true) : (rmv k).frames + 1 ≤ R.frames ∧ 8 + (nL2 + 11) + (rmv k).locals ≤ R.locals := by
  have := Nat.le_of_ble_eq_true hk
  have := Nat.le_of_ble_eq_true h3
  show k + 1 ≤ R.frames ∧ 8 + (nL2 + 11) + 50 * k ≤ R.locals
  omega
theorem a_callVI (C : Cx X own cc kc) {o ci n idx k nL2 np : Nat} {Cn : String} {T : u_T} {y : MethodName} {b : ByteArray} {ret : Option FieldType} (As : List Value) {r : Int32} {M2 : Mem} {st0 : List Value} (hct : Ct X.l X.N y b nL2 ret k (.ref (X.N.2.1 o) :: As) M (QcI X.N ret r M2)) (hk : Nat.ble (k + 1) kc = true) (hm : MWv y b nL2 ret np) (hw : Cond.methodLink own idx y ∈ TB) (ho : shp o = (ci + 3, n)) (hn9 : Nat.blt o 95 = true) (hc : vwCl[ci]? = some (Cn, T, n)) (hcl : y.cls = Cn) (hnp : As.length = np) (hst : st0 = As.reverse ++ .ref (X.N.2.1 o) :: st) (h8 : Nat.ble (st.map fun v => v.category).sum 8 = true) (d : decode cc pc = .ok (.invokevirtual idx, 3)) (kk : nar ret r → WA X M2 lv (pc + 3) (.int r :: st)) : WA X M lv pc st0 := by
  obtain ⟨p, l, e, R, s, m, args, below, meth, c, N, Q, nL, cells, slots⟩ := X
  obtain ⟨hx, hb, hml, hown, hts, hO, hfr, hlo, hce, hsl⟩ := C
  intro H locs ls hP hS hl
  subst hcl
  have h1 := wld_at N M (Nat.le_of_ble_eq_true hn9)
  rw [cellE_o ho] at h1
  refine va_calli (va_runV (As := As) (rest := st) ⟨hx, hb, hml, hown, hts⟩ hct (cwV np hts (hm.good hw) rfl rfl rfl ⟨rfl, hm.2.1⟩ (rm_ok hk hfr hlo hm.2.2)) ⟨pre_blind, va_recv hO.1 hP (ci := ci) (q0 := o) hc h1, fun U hU hW => ⟨rfl, hO.warm hW hU hS, by rw [hU]; exact hP⟩⟩ rfl hnp hl.1 hst (lv_room (Nat.le_of_ble_eq_true h8)) d ⟨hce, hsl⟩) hS (fun q _ h => h) (fun q h => h) (fun r' u t H1 locs1 ht hvm hw hB hz1 hk1 hS1 => ?_)
  obtain ⟨rfl, rfl, hnr⟩ := hw
  unfold Pst at hB
  rw [ht] at hB
  exact kk hnr H1 locs1 ls hB hS1 hl
theorem a_callSI (C : Cx X own cc kc) {idx k nL2 np : Nat} {y : MethodName} {b : ByteArray} {ret : Option FieldType} (As : List Value) {r : Int32} {M2 : Mem} {st0 : List Value} (hct : Ct X.l X.N y b nL2 ret k As M (QcI X.N ret r M2)) (hk : Nat.ble (k + 1) kc = true) (hm : MWs y b nL2 ret np) (hw : Cond.methodLink own idx y ∈ TB) (hnp : As.length = np) (hst : st0 = As.reverse ++ st) (h8 : Nat.ble (st.map fun v => v.category).sum 8 = true) (d : decode cc pc = .ok (.invokestatic idx, 3)) (kk : nar ret r → WA X M2 lv (pc + 3) (.int r :: st)) : WA X M lv pc st0 := by
  obtain ⟨p, l, e, R, s, m, args, below, meth, c, N, Q, nL, cells, slots⟩ := X
  obtain ⟨hx, hb, hml, hown, hts, hO, hfr, hlo, hce, hsl⟩ := C
  intro H locs ls hP hS hl
  refine va_calli (va_runS (As := As) (rest := st) ⟨hx, hb, hml, hown, hts⟩ hct (va_cwS np hts (hm.good hw) rfl rfl rfl hm.2.1 (rm_ok hk hfr hlo hm.2.2)) ⟨pre_blind, fun U hU hW => ⟨rfl, hO.warm hW hU hS, by rw [hU]; exact hP⟩⟩ rfl hnp hl.1 hst (lv_room (Nat.le_of_ble_eq_true h8)) d ⟨hce, hsl⟩) hS (fun q _ h => h) (fun q h => h) (fun r' u t H1 locs1 ht hvm hw hB hz1 hk1 hS1 => ?_)
  obtain ⟨rfl, rfl, hnr⟩ := hw
  unfold Pst at hB
  rw [ht] at hB
  exact kk hnr H1 locs1 ls hB hS1 hl
theorem a_callVL (C : Cx X own cc kc) {o ci n idx k nL2 np : Nat} {Cn : String} {T : u_T} {y : MethodName} {b : ByteArray} {ret : Option FieldType} (As : List Value) {r : Int64} {M2 : Mem} {st0 : List Value} (hct : Ct X.l X.N y b nL2 ret k (.ref (X.N.2.1 o) :: As) M (QcL X.N r M2)) (hk : Nat.ble (k + 1) kc = true) (hm : MWv y b nL2 ret np) (hw : Cond.methodLink own idx y ∈ TB) (ho : shp o = (ci + 3, n)) (hn9 : Nat.blt o 95 = true) (hc : vwCl[ci]? = some (Cn, T, n)) (hcl : y.cls = Cn) (hnp : As.length = np) (hst : st0 = As.reverse ++ .ref (X.N.2.1 o) :: st) (h8 : Nat.ble (st.map fun v => v.category).sum 8 = true) (d : decode cc pc = .ok (.invokevirtual idx, 3)) (kk : WA X M2 lv (pc + 3) (.long r :: st)) : WA X M lv pc st0 := by
  obtain ⟨p, l, e, R, s, m, args, below, meth, c, N, Q, nL, cells, slots⟩ := X
  obtain ⟨hx, hb, hml, hown, hts, hO, hfr, hlo, hce, hsl⟩ := C
  intro H locs ls hP hS hl
  subst hcl
  have h1 := wld_at N M (Nat.le_of_ble_eq_true hn9)
  rw [cellE_o ho] at h1
  refine va_calll (va_runV (As := As) (rest := st) ⟨hx, hb, hml, hown, hts⟩ hct (cwV np hts (hm.good hw) rfl rfl rfl ⟨rfl, hm.2.1⟩ (rm_ok hk hfr hlo hm.2.2)) ⟨pre_blind, va_recv hO.1 hP (ci := ci) (q0 := o) hc h1, fun U hU hW => ⟨rfl, hO.warm hW hU hS, by rw [hU]; exact hP⟩⟩ rfl hnp hl.1 hst (lv_room (Nat.le_of_ble_eq_true h8)) d ⟨hce, hsl⟩) hS (fun q _ h => h) (fun q h => h) (fun r' u t H1 locs1 ht hvm hw hB hz1 hk1 hS1 => ?_)
  obtain ⟨rfl, rfl⟩ := hw
  unfold Pst at hB
  rw [ht] at hB
  exact kk H1 locs1 ls hB hS1 hl
theorem a_callSL (C : Cx X own cc kc) {idx k nL2 np : Nat} {y : MethodName} {b : ByteArray} {ret : Option FieldType} (As : List Value) {r : Int64} {M2 : Mem} {st0 : List Value} (hct : Ct X.l X.N y b nL2 ret k As M (QcL X.N r M2)) (hk : Nat.ble (k + 1) kc = true) (hm : MWs y b nL2 ret np) (hw : Cond.methodLink own idx y ∈ TB) (hnp : As.length = np) (hst : st0 = As.reverse ++ st) (h8 : Nat.ble (st.map fun v => v.category).sum 8 = true) (d : decode cc pc = .ok (.invokestatic idx, 3)) (kk : WA X M2 lv (pc + 3) (.long r :: st)) : WA X M lv pc st0 := by
  obtain ⟨p, l, e, R, s, m, args, below, meth, c, N, Q, nL, cells, slots⟩ := X
  obtain ⟨hx, hb, hml, hown, hts, hO, hfr, hlo, hce, hsl⟩ := C
  intro H locs ls hP hS hl
  refine va_calll (va_runS (As := As) (rest := st) ⟨hx, hb, hml, hown, hts⟩ hct (va_cwS np hts (hm.good hw) rfl rfl rfl hm.2.1 (rm_ok hk hfr hlo hm.2.2)) ⟨pre_blind, fun U hU hW => ⟨rfl, hO.warm hW hU hS, by rw [hU]; exact hP⟩⟩ rfl hnp hl.1 hst (lv_room (Nat.le_of_ble_eq_true h8)) d ⟨hce, hsl⟩) hS (fun q _ h => h) (fun q h => h) (fun r' u t H1 locs1 ht hvm hw hB hz1 hk1 hS1 => ?_)
  obtain ⟨rfl, rfl⟩ := hw
  unfold Pst at hB
  rw [ht] at hB
  exact kk H1 locs1 ls hB hS1 hl
theorem a_callVV (C : Cx X own cc kc) {o ci n idx k nL2 np : Nat} {Cn : String} {T : u_T} {y : MethodName} {b : ByteArray} {ret : Option FieldType} (As : List Value)  {M2 : Mem} {st0 : List Value} (hct : Ct X.l X.N y b nL2 ret k (.ref (X.N.2.1 o) :: As) M (QcV X.N M2)) (hk : Nat.ble (k + 1) kc = true) (hm : MWv y b nL2 ret np) (hw : Cond.methodLink own idx y ∈ TB) (ho : shp o = (ci + 3, n)) (hn9 : Nat.blt o 95 = true) (hc : vwCl[ci]? = some (Cn, T, n)) (hcl : y.cls = Cn) (hnp : As.length = np) (hst : st0 = As.reverse ++ .ref (X.N.2.1 o) :: st) (h8 : Nat.ble (st.map fun v => v.category).sum 8 = true) (d : decode cc pc = .ok (.invokevirtual idx, 3)) (kk : WA X M2 lv (pc + 3) st) : WA X M lv pc st0 := by
  obtain ⟨p, l, e, R, s, m, args, below, meth, c, N, Q, nL, cells, slots⟩ := X
  obtain ⟨hx, hb, hml, hown, hts, hO, hfr, hlo, hce, hsl⟩ := C
  intro H locs ls hP hS hl
  subst hcl
  have h1 := wld_at N M (Nat.le_of_ble_eq_true hn9)
  rw [cellE_o ho] at h1
  refine va_callv (va_runV (As := As) (rest := st) ⟨hx, hb, hml, hown, hts⟩ hct (cwV np hts (hm.good hw) rfl rfl rfl ⟨rfl, hm.2.1⟩ (rm_ok hk hfr hlo hm.2.2)) ⟨pre_blind, va_recv hO.1 hP (ci := ci) (q0 := o) hc h1, fun U hU hW => ⟨rfl, hO.warm hW hU hS, by rw [hU]; exact hP⟩⟩ rfl hnp hl.1 hst (lv_room (Nat.le_of_ble_eq_true h8)) d ⟨hce, hsl⟩) hS (fun q _ h => h) (fun q h => h) (fun u t H1 locs1 ht hvm hw hB hz1 hk1 hS1 => ?_)
  subst hw
  unfold Pst at hB
  rw [ht] at hB
  exact kk H1 locs1 ls hB hS1 hl
theorem a_callSV (C : Cx X own cc kc) {idx k nL2 np : Nat} {y : MethodName} {b : ByteArray} {ret : Option FieldType} (As : List Value)  {M2 : Mem} {st0 : List Value} (hct : Ct X.l X.N y b nL2 ret k As M (QcV X.N M2)) (hk : Nat.ble (k + 1) kc = true) (hm : MWs y b nL2 ret np) (hw : Cond.methodLink own idx y ∈ TB) (hnp : As.length = np) (hst : st0 = As.reverse ++ st) (h8 : Nat.ble (st.map fun v => v.category).sum 8 = true) (d : decode cc pc = .ok (.invokestatic idx, 3)) (kk : WA X M2 lv (pc + 3) st) : WA X M lv pc st0 := by
  obtain ⟨p, l, e, R, s, m, args, below, meth, c, N, Q, nL, cells, slots⟩ := X
  obtain ⟨hx, hb, hml, hown, hts, hO, hfr, hlo, hce, hsl⟩ := C
  intro H locs ls hP hS hl
  refine va_callv (va_runS (As := As) (rest := st) ⟨hx, hb, hml, hown, hts⟩ hct (va_cwS np hts (hm.good hw) rfl rfl rfl hm.2.1 (rm_ok hk hfr hlo hm.2.2)) ⟨pre_blind, fun U hU hW => ⟨rfl, hO.warm hW hU hS, by rw [hU]; exact hP⟩⟩ rfl hnp hl.1 hst (lv_room (Nat.le_of_ble_eq_true h8)) d ⟨hce, hsl⟩) hS (fun q _ h => h) (fun q h => h) (fun u t H1 locs1 ht hvm hw hB hz1 hk1 hS1 => ?_)
  subst hw
  unfold Pst at hB
  rw [ht] at hB
  exact kk H1 locs1 ls hB hS1 hl
theorem a_callVR (C : Cx X own cc kc) {o ci n idx k nL2 np : Nat} {Cn : String} {T : u_T} {y : MethodName} {b : ByteArray} {ret : Option FieldType} (As : List Value) {ro : Nat} {M2 : Mem} {st0 : List Value} (hct : Ct X.l X.N y b nL2 ret k (.ref (X.N.2.1 o) :: As) M (QcR X.N ro M2)) (hk : Nat.ble (k + 1) kc = true) (hm : MWv y b nL2 ret np) (hw : Cond.methodLink own idx y ∈ TB) (ho : shp o = (ci + 3, n)) (hn9 : Nat.blt o 95 = true) (hc : vwCl[ci]? = some (Cn, T, n)) (hcl : y.cls = Cn) (hnp : As.length = np) (hst : st0 = As.reverse ++ .ref (X.N.2.1 o) :: st) (h8 : Nat.ble (st.map fun v => v.category).sum 8 = true) (d : decode cc pc = .ok (.invokevirtual idx, 3)) (kk : WA X M2 lv (pc + 3) (.ref (X.N.2.1 ro) :: st)) : WA X M lv pc st0 := by
  obtain ⟨p, l, e, R, s, m, args, below, meth, c, N, Q, nL, cells, slots⟩ := X
  obtain ⟨hx, hb, hml, hown, hts, hO, hfr, hlo, hce, hsl⟩ := C
  intro H locs ls hP hS hl
  subst hcl
  have h1 := wld_at N M (Nat.le_of_ble_eq_true hn9)
  rw [cellE_o ho] at h1
  refine va_callr (va_runV (As := As) (rest := st) ⟨hx, hb, hml, hown, hts⟩ hct (cwV np hts (hm.good hw) rfl rfl rfl ⟨rfl, hm.2.1⟩ (rm_ok hk hfr hlo hm.2.2)) ⟨pre_blind, va_recv hO.1 hP (ci := ci) (q0 := o) hc h1, fun U hU hW => ⟨rfl, hO.warm hW hU hS, by rw [hU]; exact hP⟩⟩ rfl hnp hl.1 hst (lv_room (Nat.le_of_ble_eq_true h8)) d ⟨hce, hsl⟩) hS (fun q _ h => h) (fun q h => h) (fun u ra t H1 locs1 ht hvm hw hB hz1 hk1 hS1 => ?_)
  subst hw
  obtain ⟨hB, rfl⟩ := hB
  unfold Pst at hB
  rw [ht] at hB
  exact kk H1 locs1 ls hB hS1 hl
theorem a_callN (C : Cx X RX9 cc kc) {k nL2 np : Nat} {b : ByteArray} {ret : Option FieldType} (As : List Value) {r : Int32} {M2 : Mem} {st0 : List Value} (hct : Ct X.l X.N yX10_isCell b nL2 ret k As M (QcI X.N ret r M2)) (hk : Nat.ble (k + 1) kc = true) (hm : MWs yX10_isCell b nL2 ret np) (hnp : As.length = np) (hst : st0 = As.reverse ++ st) (h8 : Nat.ble (st.map fun v => v.category).sum 8 = true) (d : decode cc pc = .ok (.invokestatic 50, 3)) (kk : nar ret r → WA X M2 lv (pc + 3) (.int r :: st)) : WA X M lv pc st0 := by
  obtain ⟨p, l, e, R, s, m, args, below, meth, c, N, Q, nL, cells, slots⟩ := X
  obtain ⟨hx, hb, hml, hown, hts, hO, hfr, hlo, hce, hsl⟩ := C
  intro H locs ls hP hS hl
  refine va_calli (va_runSN (As := As) (rest := st) (host := "LuckShoes") ⟨hx, hb, hml, hown, hts⟩ hct ⟨va_cnB np hts hm.good0 rfl rfl rfl hO.2.2.2.2.1 (hts _ hm.1.2.1) hm.2.1 (rm_ok hk hfr hlo hm.2.2), hts _ hm.1.1, trivial⟩ ⟨pre_blind, fun U hU hW => ⟨rfl, hO.warm hW hU hS, by rw [hU]; exact hP⟩⟩ rfl hnp hl.1 hst (lv_room (Nat.le_of_ble_eq_true h8)) d ⟨hce, hsl⟩) hS (fun q _ h => h) (fun q h => h) (fun r' u t H1 locs1 ht hvm hw hB hz1 hk1 hS1 => ?_)
  obtain ⟨rfl, rfl, hnr⟩ := hw
  unfold Pst at hB
  rw [ht] at hB
  exact kk hnr H1 locs1 ls hB hS1 hl
theorem a_iret (C : Cx X own cc kc) {ty : FieldType} {v r : Int32} {M2 : Mem} (E : En X (some ty) (QcI X.N (some ty) r M2)) (hn : narrow ty (.int v) = .int v) (hv : v = r) (hM : M = M2) (d : decode cc pc = .ok (.ireturn, 1)) : WA X M lv pc [.int v] := by
  subst hv
  subst hM
  obtain ⟨p, l, e, R, s, m, args, below, meth, c, N, Q, nL, cells, slots⟩ := X
  obtain ⟨hx, hb, hml, hown, hts, hO, hfr, hlo, hce, hsl⟩ := C
  obtain ⟨hQ, hr, hlocks⟩ := E
  replace hQ : Q = MQ below (QcI N (some ty) v M) args s cells slots (AwS N) := hQ
  subst hQ
  intro H locs ls hP hS hl
  exact W.zret hx hb hr hn (fun t ht hW => ⟨⟨v, M, rfl, ⟨rfl, rfl, fun ty2 h => by cases h; exact hn⟩, by unfold Pst; rw [ht]; exact hP⟩, hS.F ht⟩) hS.2.2 d hlocks
theorem a_lret (C : Cx X own cc kc) {v r : Int64} {M2 : Mem} (E : En X (some .long) (QcL X.N r M2)) (hv : v = r) (hM : M = M2) (d : decode cc pc = .ok (.lreturn, 1)) : WA X M lv pc [.long v] := by
  subst hv
  subst hM
  obtain ⟨p, l, e, R, s, m, args, below, meth, c, N, Q, nL, cells, slots⟩ := X
  obtain ⟨hx, hb, hml, hown, hts, hO, hfr, hlo, hce, hsl⟩ := C
  obtain ⟨hQ, hr, hlocks⟩ := E
  replace hQ : Q = MQ below (QcL N v M) args s cells slots (AwS N) := hQ
  subst hQ
  intro H locs ls hP hS hl
  exact W.lret hx hb hr (fun t ht hW => ⟨⟨v, M, rfl, ⟨rfl, rfl⟩, by unfold Pst; rw [ht]; exact hP⟩, hS.F ht⟩) hS.2.2 d hlocks
theorem a_vret (C : Cx X own cc kc) {M2 : Mem} (E : En X none (QcV X.N M2)) (hM : M = M2) (d : decode cc pc = .ok (.return_, 1)) : WA X M lv pc [] := by
  subst hM
  obtain ⟨p, l, e, R, s, m, args, below, meth, c, N, Q, nL, cells, slots⟩ := X
  obtain ⟨hx, hb, hml, hown, hts, hO, hfr, hlo, hce, hsl⟩ := C
  obtain ⟨hQ, hr, hlocks⟩ := E
  replace hQ : Q = MQ below (QcV N M) args s cells slots (AwS N) := hQ
  subst hQ
  intro H locs ls hP hS hl
  exact W.vret hx hb hr (fun t ht hW => ⟨⟨M, rfl, rfl, by unfold Pst; rw [ht]; exact hP⟩, hS.F ht⟩) hS.2.2 d hlocks
theorem a_aret (C : Cx X own cc kc) {M2 : Mem} {ro : Nat} {cn : String} (E : En X (some (.object cn)) (QcR X.N ro M2)) (hM : M = M2) (d : decode cc pc = .ok (.areturn, 1)) : WA X M lv pc [.ref (X.N.2.1 ro)] := by
  subst hM
  obtain ⟨p, l, e, R, s, m, args, below, meth, c, N, Q, nL, cells, slots⟩ := X
  obtain ⟨hx, hb, hml, hown, hts, hO, hfr, hlo, hce, hsl⟩ := C
  obtain ⟨hQ, hr, hlocks⟩ := E
  replace hQ : Q = MQ below (QcR N ro M) args s cells slots (AwS N) := hQ
  subst hQ
  intro H locs ls hP hS hl
  exact W.aret hx hb hr (Or.inl ⟨cn, rfl⟩) (Or.inr ⟨_, rfl⟩) (fun t ht hW => ⟨⟨M, _, rfl, rfl, by unfold Pst; rw [ht]; exact hP, rfl⟩, hS.F ht⟩) hS.2.2 d hlocks
theorem a_mmin (C : Cx X own cc kc) {idx : Nat} {x y : Int32} (hk : Nat.ble 1 kc = true) (hw : Cond.methodLink own idx Lib.Math.min.name ∈ TB) (w1 : Cond.static Lib.Math.min.name ∈ TB) (w2 : Cond.initialized "java/lang/Math" ∈ TB) (w3 : Cond.code Lib.Math.min.name Lib.Math.min.code 2 (some .int) ∈ TB) (h8 : Nat.ble (st.map fun v => v.category).sum 8 = true) (d : decode cc pc = .ok (.invokestatic idx, 3)) (kk : WA X M lv (pc + 3) (.int (mnI x y) :: st)) : WA X M lv pc (.int y :: .int x :: st) := by
  obtain ⟨p, l, e, R, s, m, args, below, meth, c, N, Q, nL, cells, slots⟩ := X
  obtain ⟨hx, hb, hml, hown, hts, hO, hfr, hlo, hce, hsl⟩ := C
  intro H locs ls hP hS hl
  have := Nat.le_of_ble_eq_true hk
  have := Nat.le_of_ble_eq_true h8
  exact va_mmin hx hb (hml.trans hl.1.symm) hown (hts _ hw) (hts _ w1) (hts _ w2) (hts _ w3) (by omega) (by omega) hce hsl d (kk H locs ls hP hS hl)
theorem a_mmax (C : Cx X own cc kc) {idx : Nat} {x y : Int32} (hk : Nat.ble 1 kc = true) (hw : Cond.methodLink own idx Lib.Math.max.name ∈ TB) (w1 : Cond.static Lib.Math.max.name ∈ TB) (w2 : Cond.initialized "java/lang/Math" ∈ TB) (w3 : Cond.code Lib.Math.max.name Lib.Math.max.code 2 (some .int) ∈ TB) (h8 : Nat.ble (st.map fun v => v.category).sum 8 = true) (d : decode cc pc = .ok (.invokestatic idx, 3)) (kk : WA X M lv (pc + 3) (.int (mxI x y) :: st)) : WA X M lv pc (.int y :: .int x :: st) := by
  obtain ⟨p, l, e, R, s, m, args, below, meth, c, N, Q, nL, cells, slots⟩ := X
  obtain ⟨hx, hb, hml, hown, hts, hO, hfr, hlo, hce, hsl⟩ := C
  intro H locs ls hP hS hl
  have := Nat.le_of_ble_eq_true hk
  have := Nat.le_of_ble_eq_true h8
  exact va_mmax hx hb (hml.trans hl.1.symm) hown (hts _ hw) (hts _ w1) (hts _ w2) (hts _ w3) (by omega) (by omega) hce hsl d (kk H locs ls hP hS hl)
theorem cpI_s {n0 n1 a b : Nat} {sp dp n : Int32} {M2 : Mem} (h : cpI n0 n1 a b M sp dp n = some M2) : ¬ sp < 0 ∧ ¬ dp < 0 ∧ ¬ n < 0 ∧ ix sp + ix n ≤ n0 ∧ ix dp + ix n ≤ n1 ∧ M2 = upA M b (va_cpy (M.1 a) (M.1 b) (ix sp) (ix dp) (ix n)) := by
  unfold cpI at h
  by_cases c : sp < 0 ∨ dp < 0 ∨ n < 0 ∨ n0 < ix sp + ix n ∨ n1 < ix dp + ix n
  · rw [if_pos c] at h; cases h
  · rw [if_neg c] at h
    simp only [not_or] at c
    exact ⟨c.1, c.2.1, c.2.2.1, Nat.not_lt.mp c.2.2.2.1, Nat.not_lt.mp c.2.2.2.2, (Option.some.inj h).symm⟩
theorem a_copyI (C : Cx X own cc kc) {idx n0 n1 a b : Nat} {sp dp n : Int32} {M2 : Mem} (ha : shp a = (0, n0)) (hb2 : shp b = (0, n1)) (hv : cpI n0 n1 a b M sp dp n = some M2) (hk : Nat.ble 1 kc = true) (hw : Cond.methodLink own idx arraycopyName ∈ TB) (w1 : Cond.native arraycopyName ∈ TB) (w2 : Cond.static arraycopyName ∈ TB) (w3 : Cond.initialized "java/lang/System" ∈ TB) (h8 : Nat.ble (st.map fun v => v.category).sum 8 = true) (d : decode cc pc = .ok (.invokestatic idx, 3)) (kk : WA X M2 lv (pc + 3) st) : WA X M lv pc (.int n :: .int dp :: .ref (X.N.2.1 b) :: .int sp :: .ref (X.N.2.1 a) :: st) := by
  obtain ⟨p, l, e, R, s, m, args, below, meth, c, N, Q, nL, cells, slots⟩ := X
  obtain ⟨hx, hb, hml, hown, hts, hO, hfr, hlo, hce, hsl⟩ := C
  intro H locs ls hP hS hl
  obtain ⟨q1, q2, q3, q4, q5, rfl⟩ := cpI_s hv
  have hla := shp_lt ha (by decide)
  have hlb := shp_lt hb2 (by decide)
  have e0 := wld_at N M hla
  have e1 := wld_at N M hlb
  rw [cellE_i ha] at e0
  rw [cellE_i hb2] at e1
  have hK := K2 hO hla (lt3 ha (by decide)) hlb (lt3 hb2 (by decide))
  rw [aty_i ha, aty_i hb2] at hK
  have := Nat.le_of_ble_eq_true hk
  have h8' := Nat.le_of_ble_eq_true h8
  have hnw : nativeFrameWords "java/lang/System" "arraycopy" 5 + 11 ≤ 30 := by decide
  refine va_copyi hx hb (hml.trans hl.1.symm) hown (hts _ hw) (hts _ w1) (hts _ w2) (hts _ w3) hK hP (wld_D hO M) hS a b 0 1 e0 e1 rfl rfl rfl q1 q2 q3 q4 q5 (fun _ _ => rfl) (by omega) (by omega) d (fun H1 locs1 hP1 _ hS1 => kk H1 locs1 ls ?_ hS1 hl)
  rw [wld_set (M' := upA M b (va_cpy (M.1 a) (M.1 b) (ix sp) (ix dp) (ix n))) hlb (by rw [cellE_i hb2, upA_same]) (fun j hj => cellE_congr (upA_ne M _ hj) rfl (fun _ => rfl))] at hP1
  exact hP1
theorem cpL_s {n0 n1 a b : Nat} {sp dp n : Int32} {M2 : Mem} (h : cpL n0 n1 a b M sp dp n = some M2) : ¬ sp < 0 ∧ ¬ dp < 0 ∧ ¬ n < 0 ∧ ix sp + ix n ≤ n0 ∧ ix dp + ix n ≤ n1 ∧ M2 = upL M b (va_cpy (M.2.1 a) (M.2.1 b) (ix sp) (ix dp) (ix n)) := by
  unfold cpL at h
  by_cases c : sp < 0 ∨ dp < 0 ∨ n < 0 ∨ n0 < ix sp + ix n ∨ n1 < ix dp + ix n
  · rw [if_pos c] at h; cases h
  · rw [if_neg c] at h
    simp only [not_or] at c
    exact ⟨c.1, c.2.1, c.2.2.1, Nat.not_lt.mp c.2.2.2.1, Nat.not_lt.mp c.2.2.2.2, (Option.some.inj h).symm⟩
theorem a_copyL (C : Cx X own cc kc) {idx n0 n1 a b : Nat} {sp dp n : Int32} {M2 : Mem} (ha : shp a = (1, n0)) (hb2 : shp b = (1, n1)) (hv : cpL n0 n1 a b M sp dp n = some M2) (hk : Nat.ble 1 kc = true) (hw : Cond.methodLink own idx arraycopyName ∈ TB) (w1 : Cond.native arraycopyName ∈ TB) (w2 : Cond.static arraycopyName ∈ TB) (w3 : Cond.initialized "java/lang/System" ∈ TB) (h8 : Nat.ble (st.map fun v => v.category).sum 8 = true) (d : decode cc pc = .ok (.invokestatic idx, 3)) (kk : WA X M2 lv (pc + 3) st) : WA X M lv pc (.int n :: .int dp :: .ref (X.N.2.1 b) :: .int sp :: .ref (X.N.2.1 a) :: st) := by
  obtain ⟨p, l, e, R, s, m, args, below, meth, c, N, Q, nL, cells, slots⟩ := X
  obtain ⟨hx, hb, hml, hown, hts, hO, hfr, hlo, hce, hsl⟩ := C
  intro H locs ls hP hS hl
  obtain ⟨q1, q2, q3, q4, q5, rfl⟩ := cpL_s hv
  have hla := shp_lt ha (by decide)
  have hlb := shp_lt hb2 (by decide)
  have e0 := wld_at N M hla
  have e1 := wld_at N M hlb
  rw [cellE_l ha] at e0
  rw [cellE_l hb2] at e1
  have hK := K2 hO hla (lt3 ha (by decide)) hlb (lt3 hb2 (by decide))
  rw [aty_l ha, aty_l hb2] at hK
  have := Nat.le_of_ble_eq_true hk
  have h8' := Nat.le_of_ble_eq_true h8
  have hnw : nativeFrameWords "java/lang/System" "arraycopy" 5 + 11 ≤ 30 := by decide
  refine va_copyl hx hb (hml.trans hl.1.symm) hown (hts _ hw) (hts _ w1) (hts _ w2) (hts _ w3) hK hP (wld_D hO M) hS a b 0 1 e0 e1 rfl rfl rfl q1 q2 q3 q4 q5 (fun _ _ => rfl) (by omega) (by omega) d (fun H1 locs1 hP1 _ hS1 => kk H1 locs1 ls ?_ hS1 hl)
  rw [wld_set (M' := upL M b (va_cpy (M.2.1 a) (M.2.1 b) (ix sp) (ix dp) (ix n))) hlb (by rw [cellE_l hb2, upL_same]) (fun j hj => cellE_congr (M := M) (M' := upL M b (va_cpy (M.2.1 a) (M.2.1 b) (ix sp) (ix dp) (ix n))) rfl (upL_ne M _ hj) (fun _ => rfl))] at hP1
  exact hP1
/-- a static table: its reference, an element -/
theorem a_getsN (C : Cx X RX9 cc kc) (d : decode cc pc = .ok (.getstatic 62, 3)) (kk : WA X M lv (pc + 3) (.ref (X.N.2.2.2 0) :: st)) : WA X M lv pc st := by
  obtain ⟨p, l, e, R, s, m, args, below, meth, c, N, Q, nL, cells, slots⟩ := X
  obtain ⟨hx, hb, hml, hown, hts, hO, hfr, hlo, hce, hsl⟩ := C
  intro H locs ls hP hS hl
  exact va_getsN hx hb (hO.2.2.2.1 0 (by decide)).1 hS hown (va_Nw.use rfl hO.2.2.2.2.2) (fun _ h => h) d (kk H locs ls hP hS hl)
theorem a_gets (C : Cx X own cc kc) {idx : Nat} (j : Nat) (hj : j < 3) (hw : Cond.fieldLink own idx (sN j).1 (sN j).2.1 "[I" ∈ TB) (d : decode cc pc = .ok (.getstatic idx, 3)) (kk : WA X M lv (pc + 3) (.ref (X.N.2.2.2 j) :: st)) : WA X M lv pc st := by
  obtain ⟨p, l, e, R, s, m, args, below, meth, c, N, Q, nL, cells, slots⟩ := X
  obtain ⟨hx, hb, hml, hown, hts, hO, hfr, hlo, hce, hsl⟩ := C
  intro H locs ls hP hS hl
  exact va_gets hx hb (hO.2.2.2.1 j hj).1 hS hown (hts _ hw) (fun _ h => h) d (kk H locs ls hP hS hl)
theorem a_tald (C : Cx X own cc kc) (j : Nat) (hj : j < 3) {i v : Int32} (hv : rdT (sN j).2.2.1 (sN j).2.2.2 i = some v) (d : decode cc pc = .ok (.iaload, 1)) (kk : WA X M lv (pc + 1) (.int v :: st)) : WA X M lv pc (.int i :: .ref (X.N.2.2.2 j) :: st) := by
  obtain ⟨p, l, e, R, s, m, args, below, meth, c, N, Q, nL, cells, slots⟩ := X
  obtain ⟨hx, hb, hml, hown, hts, hO, hfr, hlo, hce, hsl⟩ := C
  intro H locs ls hP hS hl
  obtain ⟨hin, rfl⟩ := rdT_s hv
  exact va_ti hx hb (hO.2.2.2.1 j hj).2 hS hin rfl d (kk H locs ls hP hS hl)
end WAC
