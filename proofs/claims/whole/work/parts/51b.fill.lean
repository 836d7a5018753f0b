/-! java.util.Arrays.fill(int[], int) -/
def flA (v : Int32) (f : Nat → Int32) (n : Nat) : Nat → Int32 := fun i => if i < n then v else f i
theorem flA_s (v : Int32) (f : Nat → Int32) (i : Nat) : upd (flA v f i) i v = flA v f (i + 1) := by
  funext j
  unfold upd flA
  by_cases e1 : j = i
  · rw [if_pos e1, if_pos (by omega)]
  · rw [if_neg e1]
    by_cases e2 : j < i
    · rw [if_pos e2, if_pos (by omega)]
    · rw [if_neg e2, if_neg (by omega)]
theorem flA_0 (v : Int32) (f : Nat → Int32) : flA v f 0 = f := by
  funext j
  unfold flA
  rw [if_neg (Nat.not_lt_zero j)]
theorem fill_loop {X : Bmb} {a n cells slots : Nat} {f : Nat → Int32} {v : Int32} (C : Cb X yJ7_fill_53178.cls cJ7_fill_53178 0 0 0) (hn : n ≤ 1000) (hnl : X.nL = 4) (kk : ∀ lv, WC X [(a, .inl (X.G.2.1, n, .inl (flA v f n)))] cells slots lv 20 []) : ∀ k i : Nat, i + k = n → WC X [(a, .inl (X.G.2.1, n, .inl (flA v f i)))] cells slots [(2, .int (nI i)), (3, .int (nI n)), (0, .ref a), (1, .int v)] 5 [] := by
  intro k
  induction k with
  | zero =>
    intro i hi
    have e : i = n := by omega
    subst e
    refine kr_iload C dJ7_fill_53178_5 rfl 0 rfl ?_
    refine kr_iload C dJ7_fill_53178_6 rfl 1 rfl ?_
    refine kr_ge C 20 dJ7_fill_53178_7 (by decide) (fun _ => kk _) (fun h => absurd (nI_le (Nat.le_refl i) (by omega)) h)
  | succ k ih =>
    intro i hi
    refine kr_iload C dJ7_fill_53178_5 rfl 0 rfl ?_
    refine kr_iload C dJ7_fill_53178_6 rfl 1 rfl ?_
    refine kr_ge C 20 dJ7_fill_53178_7 (by decide) (fun h => ?_) (fun h => ?_)
    · have := (nI_leI (a := n) (b := i) (by omega) (by omega)).mp h
      omega
    · refine kr_aload C dJ7_fill_53178_10 rfl 2 rfl ?_
      refine kr_iload C dJ7_fill_53178_11 rfl 0 rfl ?_
      refine kr_iload C dJ7_fill_53178_12 rfl 3 rfl ?_
      refine kr_ast C 0 [(a, .inl (X.G.2.1, n, .inl (flA v f (i + 1))))] rfl (vp_in_nI (n := i) (by omega) (by omega)) (by rw [nI_clamp (by omega), flA_s]; rfl) dJ7_fill_53178_13 ?_
      refine kr_iinc C 0 (nI (i + 1)) [(2, .int (nI (i + 1))), (3, .int (nI n)), (0, .ref a), (1, .int v)] dJ7_fill_53178_14 rfl (nI_1 i) (by rw [hnl]; decide) rfl ?_
      refine kr_goto C 5 dJ7_fill_53178_17 (by decide) ?_
      exact ih (i + 1) (by omega)
theorem fill_ct (l : Launch) (G : Dg) (a sz n : Nat) (f : Nat → Int32) (v : Int32) (hn : n ≤ 1000) : Met l yJ7_fill_53178 (wsy yJ7_fill_53178 cJ7_fill_53178 4 none) (rmv 0) (va_Pc [.ref a, .int v] (fun U => U.heap.size = sz ∧ va_P G.1 vwCl [(a, .inl (G.2.1, n, .inl f))] U.heap ∧ mkK G U)) (va_Qv (fun _ : Unit => True) (fun _ t => va_P G.1 vwCl [(a, .inl (G.2.1, n, .inl (flA v f n)))] t.heap ∧ va_D (va_A [(a, .inl (G.2.1, n, .inl f))] sz) [(a, .inl (G.2.1, n, .inl (flA v f n)))]) (va_A [(a, .inl (G.2.1, n, .inl f))] sz)) 0 0 (va_A [(a, .inl (G.2.1, n, .inl f))] sz) := by
  refine Met.ofW (cc := cJ7_fill_53178) (maxL := 4) (ret := none) (by decide) rfl ?_
  intro p e s m args below meth c s₁ B hml hv
  obtain ⟨rfl, hsz, hP, hK⟩ := hv
  subst hsz
  have hts := atoms_spec (ws := wsy yJ7_fill_53178 cJ7_fill_53178 4 none) B.pre
  have hown : s.vm.findClass yJ7_fill_53178.cls = some m.cls := findClass_of_methodNamed B.named
  have hl := lv_entry [Value.ref a, Value.int v] (n := 4) (Nat.le_of_ble_eq_true rfl)
  rw [lg_entry_eq]
  have C : Cb (p, l, e, rmv 0, s, m, [Value.ref a, Value.int v].toArray, below, meth, c, G, MQ below (va_Qv (fun _ : Unit => True) (fun _ t => va_P G.1 vwCl [(a, .inl (G.2.1, n, .inl (flA v f n)))] t.heap ∧ va_D (va_A [(a, .inl (G.2.1, n, .inl f))] s.heap.size) [(a, .inl (G.2.1, n, .inl (flA v f n)))]) (va_A [(a, .inl (G.2.1, n, .inl f))] s.heap.size)) [Value.ref a, Value.int v].toArray s 0 0 (va_A [(a, .inl (G.2.1, n, .inl f))] s.heap.size), 4, va_A [(a, .inl (G.2.1, n, .inl f))] s.heap.size) yJ7_fill_53178.cls cJ7_fill_53178 0 0 0 := ⟨B.exec, B.bytes, hml, hown, fun w hw => hts w (List.mem_cons_of_mem _ hw), hK, fun q h => Or.inr h, Nat.le_refl _, Nat.le_refl _, Nat.le_refl _, Nat.le_refl _⟩
  have hD0 : va_D (va_A [(a, .inl (G.2.1, n, .inl f))] s.heap.size) [(a, .inl (G.2.1, n, .inl f))] := ⟨fun i j x y hi hj _ => by
    have h1 : i < 1 := (List.getElem?_eq_some_iff.mp hi).1
    have h2 : j < 1 := (List.getElem?_eq_some_iff.mp hj).1
    omega, fun k x hx => va_A.in hx⟩
  obtain ⟨X, hX⟩ : ∃ X : Bmb, X = (p, l, e, rmv 0, s, m, [Value.ref a, Value.int v].toArray, below, meth, c, G, MQ below (va_Qv (fun _ : Unit => True) (fun _ t => va_P G.1 vwCl [(a, .inl (G.2.1, n, .inl (flA v f n)))] t.heap ∧ va_D (va_A [(a, .inl (G.2.1, n, .inl f))] s.heap.size) [(a, .inl (G.2.1, n, .inl (flA v f n)))]) (va_A [(a, .inl (G.2.1, n, .inl f))] s.heap.size)) [Value.ref a, Value.int v].toArray s 0 0 (va_A [(a, .inl (G.2.1, n, .inl f))] s.heap.size), 4, va_A [(a, .inl (G.2.1, n, .inl f))] s.heap.size) := ⟨_, rfl⟩
  rw [← hX] at C
  have hnl : X.nL = 4 := by rw [hX]
  have K : WC X [(a, .inl (X.G.2.1, n, .inl f))] 0 0 [(0, .ref a), (1, .int v)] 0 [] := by
    refine kr_iconst C 0 dJ7_fill_53178_0 (by decide) ?_
    refine kr_istore C [(2, .int 0), (0, .ref a), (1, .int v)] dJ7_fill_53178_1 rfl (by rw [hnl]; decide) rfl ?_
    refine kr_aload C dJ7_fill_53178_2 rfl 1 rfl ?_
    refine kr_len C 0 rfl (v := nI n) rfl dJ7_fill_53178_3 ?_
    refine kr_istore C [(3, .int (nI n)), (2, .int 0), (0, .ref a), (1, .int v)] dJ7_fill_53178_4 rfl (by rw [hnl]; decide) rfl ?_
    refine kr_sub (lv2 := [(2, .int (nI 0)), (3, .int (nI n)), (0, .ref a), (1, .int v)]) [1, 0, 2, 3] rfl ?_
    have L := fill_loop (f := f) (v := v) (a := a) (n := n) (cells := 0) (slots := 0) C hn hnl (fun lv => ?_) n 0 (by omega)
    · rw [flA_0] at L
      exact L
    · rw [hX]
      intro H1 locs ls hP1 hD1 hS1 hl1
      exact W.vret B.exec B.bytes B.returns (fun t ht hW => ⟨⟨(), rfl, trivial, by rw [ht]; exact hP1, hD1⟩, hS1.F ht⟩) hS1.2.2 dJ7_fill_53178_20 B.notSynchronized
  rw [hX] at K
  exact K s.heap [] _ hP hD0 va_S.rf hl
theorem kr_fill {X : Bmb} {own : String} {cc : ByteArray} {kc mc ms : Nat} {w : va_W} {cells slots : Nat} {lv : List (Nat × Value)} {pc : Nat} {st : List Value} (C : Cb X own cc (kc + 1) mc ms) {a n idx : Nat} {f : Nat → Int32} {v : Int32} (j : Nat) (isR : List Nat) (wr : va_W) (ha : w[j]? = some (a, .inl (X.G.2.1, n, .inl f))) (hR : isR.map (fun i => w[i]?) = wr.map some) (hnd : va_nd isR = true) (hdis : ∀ i ∈ isR, i ∉ [j]) (hn : n ≤ 1000) (hw : Cond.methodLink own idx yJ7_fill_53178 ∈ TB) (h8 : Nat.ble (st.map fun v => v.category).sum 8 = true) (h1 : cells ≤ mc) (h2 : slots ≤ ms)
    (d : decode cc pc = .ok (.invokestatic idx, 3)) (kk : WC X (wr ++ [(a, .inl (X.G.2.1, n, .inl (flA v f n)))]) cells slots lv (pc + 3) st) : WC X w cells slots lv pc (.int v :: .ref a :: st) := by
  obtain ⟨p, l, e, R, s, m, args, below, meth, c, G, Q, nL, A⟩ := X
  obtain ⟨hx, hcb, hml, hown, hts, hK, hA, hfr, hlo, hce, hsl⟩ := C
  intro H locs ls hP hD hS hl
  have hC : [j].map (fun i => w[i]?) = [((a, .inl (G.2.1, n, .inl f)) : Nat × va_E)].map some := by
    simp only [List.map_cons, List.map_nil]
    rw [ha]
  have hC2 : [j].filterMap (fun i => w[i]?) = [((a, .inl (G.2.1, n, .inl f)) : Nat × va_E)] := by
    have ha2 : w[j]? = some ((a, .inl (G.2.1, n, .inl f)) : Nat × va_E) := ha
    simp [ha2]
  have hPc : va_P G.1 vwCl [(a, .inl (G.2.1, n, .inl f))] H := hP.sub [j] hC2
  have hFc := va_free (wc := [(a, .inl (G.2.1, n, .inl f))]) hD hS hA [j] hC
  have hm : MWs yJ7_fill_53178 cJ7_fill_53178 4 none 2 := ⟨⟨wd_116, wd_83, wd_117⟩, by decide +kernel, rfl⟩
  refine va_callv (va_runS (As := [.ref a, .int v]) (rest := st) ⟨hx, hcb, hml, hown, hts⟩ (fill_ct l G a H.size n f v hn) (va_cwS 2 hts (hm.good hw) rfl rfl rfl hm.2.1 ⟨by show 0 + 1 ≤ R.frames; omega, by show 8 + (4 + 11) + 50 * 0 ≤ R.locals; omega⟩) ⟨fun b U g mk q => ⟨q.1, q.2.1, q.2.2.1, mkK.same q.2.2.2 rfl⟩, fun U hU hW => ⟨rfl, by rw [hU], by rw [hU]; exact hPc, mkK.warm hK hW⟩⟩ rfl rfl hl.1 rfl (lv_room (Nat.le_of_ble_eq_true h8)) d ⟨by omega, by omega⟩) hS (fun q _ h => hFc q h) hFc (fun u t H2 locs2 ht hvm hw2 hB hz hkk hS2 => ?_)
  obtain ⟨hP2, hD2⟩ := hB
  rw [ht] at hP2
  obtain ⟨hP3, hD3⟩ := va_join (wr := wr) hP hD [j] isR hC hR hnd hdis hkk hFc hP2 hD2
  exact kk H2 locs2 ls hP3 hD3 hS2 hl
