/-! WHAT HOLDS AT THE LAW'S ENTRY -/
theorem ao_long {args : Array Value} {s : State} {cJ : ClassId} (hJ : s.vm.findClass ("[" ++ (FieldType.long).toString) = some cJ) (h : (Cond.arrayOver (.array .long)).before args s = true) : ∃ cA : ClassId, s.vm.findClass ("[" ++ (FieldType.array .long).toString) = some cA ∧ gd_K cA cJ .long s := by
  have hJ2 : s.vm.findClass (FieldType.array .long).toString = some cJ := hJ
  simp only [Cond.before, Cond.holds, Cond.value, hJ2, Option.bind_some] at h
  generalize hf : (s.vm.classes.findIdx? fun x : Class => match x.kind with | .array component _ => component == cJ | _ => false) = o at h
  cases o with
  | none => simp at h
  | some c =>
    have h2 := (Array.findIdx?_eq_some_iff_getElem.mp hf)
    obtain ⟨hlt, hp, -⟩ := h2
    have hk : s.vm.classes[c]? = some s.vm.classes[c] := Array.getElem?_eq_getElem hlt
    generalize s.vm.classes[c] = k at hp hk
    simp only [Option.bind_some, hk, Option.map_some] at h
    cases hkind : k.kind with
    | array comp ty =>
      rw [hkind] at h hp
      simp only [beq_iff_eq] at hp
      subst hp
      have h3 : (decide (ty = FieldType.array .long) && decide (s.vm.findClass ("[" ++ (FieldType.array .long).toString) = some c)) = true := by simpa using h
      rw [Bool.and_eq_true, decide_eq_true_eq, decide_eq_true_eq] at h3
      obtain ⟨rfl, h4⟩ := h3
      exact ⟨c, h4, k, hk, hkind⟩
    | _ => rw [hkind] at hp; simp at hp
theorem ac_of {args : Array Value} {s : State} {ty : FieldType} (h : (Cond.arrayClass ty).before args s = true) (hr : ∀ cA, s.vm.findClass ("[" ++ ty.toString) = some cA → va_RA s cA ty) : ∃ cA : ClassId, s.vm.findClass ("[" ++ ty.toString) = some cA ∧ ArrOfT s cA ty ∧ va_RA s cA ty := by
  obtain ⟨cA, kA, comp, h1, h2, h3⟩ := Cond.arrayClass_spec h
  exact ⟨cA, h1, fun n z => ⟨fun k q => (by cases q), kA, h2, comp, h3⟩, hr cA h1⟩
theorem mkK_start {args : Array Value} {s : State} (hts : ∀ w ∈ lw_tbl, w.before args s = true) : ∃ G : Dg, mkK G s := by
  have htT : ∀ w ∈ TB, w.before args s = true := fun w h => hts w (TB_in w h)
  obtain ⟨c0, s0, hk0⟩ := u_known (C := RX0) (T := TX0) (N := 3) (n := 3) htT in_X0 (htT _ wd_406)
  obtain ⟨c1, s1, hk1⟩ := u_known (C := RX1) (T := TX1) (N := 4) (n := 4) htT in_X1 (htT _ wd_361)
  obtain ⟨c2, s2, hk2⟩ := u_known (C := RX2) (T := TX2) (N := 6) (n := 6) htT in_X2 (htT _ wd_331)
  obtain ⟨c3, s3, hk3⟩ := u_known (C := RX3) (T := TX3) (N := 14) (n := 14) htT in_X3 (htT _ wd_201)
  obtain ⟨c4, s4, hk4⟩ := u_known (C := RX4) (T := TX4) (N := 3) (n := 3) htT in_X4 (htT _ wd_383)
  obtain ⟨c5, s5, hk5⟩ := u_known (C := RX5) (T := TX5) (N := 9) (n := 9) htT in_X5 (htT _ wd_148)
  obtain ⟨c6, s6, hk6⟩ := u_known (C := RX6) (T := TX6) (N := 5) (n := 5) htT in_X6 (htT _ wd_270)
  obtain ⟨c7, s7, hk7⟩ := u_known (C := RX7) (T := TX7) (N := 5) (n := 5) htT in_X7 (htT _ wd_110)
  obtain ⟨c8, s8, hk8⟩ := u_known (C := RX8) (T := TX8) (N := 8) (n := 8) htT in_X8 (htT _ wd_297)
  obtain ⟨c9, s9, hk9⟩ := u_known (C := RX9) (T := TX9) (N := 3) (n := 3) htT in_X9 (htT _ wd_104)
  obtain ⟨c10, s10, hk10⟩ := u_known (C := RX10) (T := TX10) (N := 11) (n := 11) htT in_X10 (htT _ wd_96)
  obtain ⟨c11, s11, hk11⟩ := u_known (C := RX11) (T := TX11) (N := 45) (n := 45) htT in_X11 (htT _ wd_1072)
  obtain ⟨cI, fI, aI, rI⟩ := ac_of (htT _ wd_146) (fun cA h => h)
  obtain ⟨cJ, fJ, aJ, rJ⟩ := ac_of (htT _ wd_404) (fun cA h => h)
  obtain ⟨cG, fG, kG⟩ := ao_long fJ (hts _ (List.mem_of_getElem? (i := 389) (by decide +kernel)))
  have aG : ArrOfT s cG (.array .long) := fun n z => by
    obtain ⟨k, h1, h2⟩ := kG
    exact ⟨fun k q => (by cases q), k, h1, cJ, h2⟩
  refine ⟨((fun k => ([c0, c1, c2, c3, c4, c5, c6, c7, c8, c9, c10, c11] : List ClassId).getD k 0, fun k => ([s0, s1, s2, s3, s4, s5, s6, s7, s8, s9, s10, s11] : List (Nat → Nat)).getD k (fun _ => 0)), cI, cJ, cG), ⟨fun k q hq => ?_, fun k q hq => ?_⟩, kG, ?_⟩
  · match k, hq with
    | 0, hq => cases hq; exact hk0
    | 1, hq => cases hq; exact hk1
    | 2, hq => cases hq; exact hk2
    | 3, hq => cases hq; exact hk3
    | 4, hq => cases hq; exact hk4
    | 5, hq => cases hq; exact hk5
    | 6, hq => cases hq; exact hk6
    | 7, hq => cases hq; exact hk7
    | 8, hq => cases hq; exact hk8
    | 9, hq => cases hq; exact hk9
    | 10, hq => cases hq; exact hk10
    | 11, hq => cases hq; exact hk11
    | k + 12, hq => simp [vwCl] at hq
  · match k, hq with
    | 0, hq => cases hq; exact ⟨aI, rI⟩
    | 1, hq => cases hq; exact ⟨aJ, rJ⟩
    | 2, hq => cases hq; exact ⟨aG, fG⟩
    | k + 3, hq => simp [mk_tys] at hq
  · intro w hw
    simp only [mk_nests, List.mem_cons, List.not_mem_nil, or_false] at hw
    rcases hw with rfl | rfl | rfl | rfl | rfl | rfl | rfl | rfl | rfl | rfl | rfl
    · exact va_any rfl (hts _ (List.mem_of_getElem? (i := 105) (by decide +kernel)))
    · exact va_any rfl (hts _ (List.mem_of_getElem? (i := 271) (by decide +kernel)))
    · exact va_any rfl (hts _ (List.mem_of_getElem? (i := 298) (by decide +kernel)))
    · exact va_any rfl (hts _ (List.mem_of_getElem? (i := 332) (by decide +kernel)))
    · exact va_any rfl (hts _ (List.mem_of_getElem? (i := 362) (by decide +kernel)))
    · exact va_any rfl (hts _ (List.mem_of_getElem? (i := 407) (by decide +kernel)))
    · exact va_any rfl (hts _ (List.mem_of_getElem? (i := 425) (by decide +kernel)))
    · exact va_any rfl (hts _ (List.mem_of_getElem? (i := 276) (by decide +kernel)))
    · exact va_any rfl (hts _ (List.mem_of_getElem? (i := 303) (by decide +kernel)))
    · exact va_any rfl (hts _ (List.mem_of_getElem? (i := 149) (by decide +kernel)))
    · exact va_any rfl (hts _ (List.mem_of_getElem? (i := 202) (by decide +kernel)))
set_option maxHeartbeats 4000000 in
theorem tab_G {b : Nat} {s : State} (hts : ∀ w ∈ lw_tbl, w.before #[Value.ref b] s = true) (hgv : (Jvm.Cond.and given_1 narrow_1).before #[Value.ref b] s = true) : ∃ t : Nat, va_Z "LuckShoes" "GREATEST" "[I" (.ref t) (fun q => s.heap.size ≤ q) s s.heap ∧ va_T .int t 8 (fun i => .int (tbG i)) (fun q => s.heap.size ≤ q) s s.heap := by
  have hs := flat_of_before _ hgv
  have hA : ∀ a : Nat, a < s.heap.size → ¬ s.heap.size ≤ a := fun a h => Nat.not_le.mpr h
  have hel : ∀ j : Nat, j < 8 → (Term.elem (.static "LuckShoes" "GREATEST" "[I") (.int (Int32.ofNat j))).eval #[Value.ref b] s none [] s = some (.int (tbG j)) := by
    intro j hj
    match j, hj with
    | 0, _ => exact va_eqt (hs (.eq (.elem (.static "LuckShoes" "GREATEST" "[I") (.int 0)) (.int 9)) (by decide +kernel))
    | 1, _ => exact va_eqt (hs (.eq (.elem (.static "LuckShoes" "GREATEST" "[I") (.int 1)) (.int 9999)) (by decide +kernel))
    | 2, _ => exact va_eqt (hs (.eq (.elem (.static "LuckShoes" "GREATEST" "[I") (.int 2)) (.int 2)) (by decide +kernel))
    | 3, _ => exact va_eqt (hs (.eq (.elem (.static "LuckShoes" "GREATEST" "[I") (.int 3)) (.int 35)) (by decide +kernel))
    | 4, _ => exact va_eqt (hs (.eq (.elem (.static "LuckShoes" "GREATEST" "[I") (.int 4)) (.int 99)) (by decide +kernel))
    | 5, _ => exact va_eqt (hs (.eq (.elem (.static "LuckShoes" "GREATEST" "[I") (.int 5)) (.int 1)) (by decide +kernel))
    | 6, _ => exact va_eqt (hs (.eq (.elem (.static "LuckShoes" "GREATEST" "[I") (.int 6)) (.int 9999)) (by decide +kernel))
    | 7, _ => exact va_eqt (hs (.eq (.elem (.static "LuckShoes" "GREATEST" "[I") (.int 7)) (.int 23)) (by decide +kernel))
    | j + 8, hj => omega
  obtain ⟨t, ht, hT⟩ := va_Tof (args := #[Value.ref b]) (s := s) (tm := (.static "LuckShoes" "GREATEST" "[I")) (ty := .int) (N := 8) (f := fun i => .int (tbG i)) (A := fun q => s.heap.size ≤ q) (by decide) (hs (.arrayOf (.static "LuckShoes" "GREATEST" "[I") .int) (by decide +kernel)) (va_eqt (hs (.eq (.length (.static "LuckShoes" "GREATEST" "[I")) (.int 8)) (by decide +kernel))) hel hA
  exact ⟨t, va_Zof (hts _ (List.mem_of_getElem? (i := 504) (by decide +kernel))) (hts _ (TB_in _ wd_80)) ht hA, hT⟩
set_option maxHeartbeats 4000000 in
theorem tab_A {b : Nat} {s : State} (hts : ∀ w ∈ lw_tbl, w.before #[Value.ref b] s = true) (hgv : (Jvm.Cond.and given_1 narrow_1).before #[Value.ref b] s = true) : ∃ t : Nat, va_Z "LuckShoes$Bodies" "ABOVE" "[I" (.ref t) (fun q => s.heap.size ≤ q) s s.heap ∧ va_T .int t 8 (fun i => .int (tbA i)) (fun q => s.heap.size ≤ q) s s.heap := by
  have hs := flat_of_before _ hgv
  have hA : ∀ a : Nat, a < s.heap.size → ¬ s.heap.size ≤ a := fun a h => Nat.not_le.mpr h
  have hel : ∀ j : Nat, j < 8 → (Term.elem (.static "LuckShoes$Bodies" "ABOVE" "[I") (.int (Int32.ofNat j))).eval #[Value.ref b] s none [] s = some (.int (tbA j)) := by
    intro j hj
    match j, hj with
    | 0, _ => exact va_eqt (hs (.eq (.elem (.static "LuckShoes$Bodies" "ABOVE" "[I") (.int 0)) (.int (-1))) (by decide +kernel))
    | 1, _ => exact va_eqt (hs (.eq (.elem (.static "LuckShoes$Bodies" "ABOVE" "[I") (.int 1)) (.int 0)) (by decide +kernel))
    | 2, _ => exact va_eqt (hs (.eq (.elem (.static "LuckShoes$Bodies" "ABOVE" "[I") (.int 2)) (.int 0)) (by decide +kernel))
    | 3, _ => exact va_eqt (hs (.eq (.elem (.static "LuckShoes$Bodies" "ABOVE" "[I") (.int 3)) (.int 2)) (by decide +kernel))
    | 4, _ => exact va_eqt (hs (.eq (.elem (.static "LuckShoes$Bodies" "ABOVE" "[I") (.int 4)) (.int 1)) (by decide +kernel))
    | 5, _ => exact va_eqt (hs (.eq (.elem (.static "LuckShoes$Bodies" "ABOVE" "[I") (.int 5)) (.int 3)) (by decide +kernel))
    | 6, _ => exact va_eqt (hs (.eq (.elem (.static "LuckShoes$Bodies" "ABOVE" "[I") (.int 6)) (.int 0)) (by decide +kernel))
    | 7, _ => exact va_eqt (hs (.eq (.elem (.static "LuckShoes$Bodies" "ABOVE" "[I") (.int 7)) (.int 4)) (by decide +kernel))
    | j + 8, hj => omega
  obtain ⟨t, ht, hT⟩ := va_Tof (args := #[Value.ref b]) (s := s) (tm := (.static "LuckShoes$Bodies" "ABOVE" "[I")) (ty := .int) (N := 8) (f := fun i => .int (tbA i)) (A := fun q => s.heap.size ≤ q) (by decide) (hs (.arrayOf (.static "LuckShoes$Bodies" "ABOVE" "[I") .int) (by decide +kernel)) (va_eqt (hs (.eq (.length (.static "LuckShoes$Bodies" "ABOVE" "[I")) (.int 8)) (by decide +kernel))) hel hA
  exact ⟨t, va_Zof (hts _ (List.mem_of_getElem? (i := 978) (by decide +kernel))) (hts _ (TB_in _ wd_89)) ht hA, hT⟩
set_option maxHeartbeats 4000000 in
theorem tab_O {b : Nat} {s : State} (hts : ∀ w ∈ lw_tbl, w.before #[Value.ref b] s = true) (hgv : (Jvm.Cond.and given_1 narrow_1).before #[Value.ref b] s = true) : ∃ t : Nat, va_Z "LuckShoes$Bodies" "OWN" "[I" (.ref t) (fun q => s.heap.size ≤ q) s s.heap ∧ va_T .int t 32 (fun i => .int (tbO i)) (fun q => s.heap.size ≤ q) s s.heap := by
  have hs := flat_of_before _ hgv
  have hA : ∀ a : Nat, a < s.heap.size → ¬ s.heap.size ≤ a := fun a h => Nat.not_le.mpr h
  have hel : ∀ j : Nat, j < 32 → (Term.elem (.static "LuckShoes$Bodies" "OWN" "[I") (.int (Int32.ofNat j))).eval #[Value.ref b] s none [] s = some (.int (tbO j)) := by
    intro j hj
    match j, hj with
    | 0, _ => exact va_eqt (hs (.eq (.elem (.static "LuckShoes$Bodies" "OWN" "[I") (.int 0)) (.int 1)) (by decide +kernel))
    | 1, _ => exact va_eqt (hs (.eq (.elem (.static "LuckShoes$Bodies" "OWN" "[I") (.int 1)) (.int 10)) (by decide +kernel))
    | 2, _ => exact va_eqt (hs (.eq (.elem (.static "LuckShoes$Bodies" "OWN" "[I") (.int 2)) (.int 11)) (by decide +kernel))
    | 3, _ => exact va_eqt (hs (.eq (.elem (.static "LuckShoes$Bodies" "OWN" "[I") (.int 3)) (.int 2)) (by decide +kernel))
    | 4, _ => exact va_eqt (hs (.eq (.elem (.static "LuckShoes$Bodies" "OWN" "[I") (.int 4)) (.int 20)) (by decide +kernel))
    | 5, _ => exact va_eqt (hs (.eq (.elem (.static "LuckShoes$Bodies" "OWN" "[I") (.int 5)) (.int 0)) (by decide +kernel))
    | 6, _ => exact va_eqt (hs (.eq (.elem (.static "LuckShoes$Bodies" "OWN" "[I") (.int 6)) (.int 0)) (by decide +kernel))
    | 7, _ => exact va_eqt (hs (.eq (.elem (.static "LuckShoes$Bodies" "OWN" "[I") (.int 7)) (.int 0)) (by decide +kernel))
    | 8, _ => exact va_eqt (hs (.eq (.elem (.static "LuckShoes$Bodies" "OWN" "[I") (.int 8)) (.int 0)) (by decide +kernel))
    | 9, _ => exact va_eqt (hs (.eq (.elem (.static "LuckShoes$Bodies" "OWN" "[I") (.int 9)) (.int 30)) (by decide +kernel))
    | 10, _ => exact va_eqt (hs (.eq (.elem (.static "LuckShoes$Bodies" "OWN" "[I") (.int 10)) (.int 0)) (by decide +kernel))
    | 11, _ => exact va_eqt (hs (.eq (.elem (.static "LuckShoes$Bodies" "OWN" "[I") (.int 11)) (.int 0)) (by decide +kernel))
    | 12, _ => exact va_eqt (hs (.eq (.elem (.static "LuckShoes$Bodies" "OWN" "[I") (.int 12)) (.int 0)) (by decide +kernel))
    | 13, _ => exact va_eqt (hs (.eq (.elem (.static "LuckShoes$Bodies" "OWN" "[I") (.int 13)) (.int 41)) (by decide +kernel))
    | 14, _ => exact va_eqt (hs (.eq (.elem (.static "LuckShoes$Bodies" "OWN" "[I") (.int 14)) (.int 40)) (by decide +kernel))
    | 15, _ => exact va_eqt (hs (.eq (.elem (.static "LuckShoes$Bodies" "OWN" "[I") (.int 15)) (.int 0)) (by decide +kernel))
    | 16, _ => exact va_eqt (hs (.eq (.elem (.static "LuckShoes$Bodies" "OWN" "[I") (.int 16)) (.int 0)) (by decide +kernel))
    | 17, _ => exact va_eqt (hs (.eq (.elem (.static "LuckShoes$Bodies" "OWN" "[I") (.int 17)) (.int 0)) (by decide +kernel))
    | 18, _ => exact va_eqt (hs (.eq (.elem (.static "LuckShoes$Bodies" "OWN" "[I") (.int 18)) (.int 50)) (by decide +kernel))
    | 19, _ => exact va_eqt (hs (.eq (.elem (.static "LuckShoes$Bodies" "OWN" "[I") (.int 19)) (.int 0)) (by decide +kernel))
    | 20, _ => exact va_eqt (hs (.eq (.elem (.static "LuckShoes$Bodies" "OWN" "[I") (.int 20)) (.int 0)) (by decide +kernel))
    | 21, _ => exact va_eqt (hs (.eq (.elem (.static "LuckShoes$Bodies" "OWN" "[I") (.int 21)) (.int 0)) (by decide +kernel))
    | 22, _ => exact va_eqt (hs (.eq (.elem (.static "LuckShoes$Bodies" "OWN" "[I") (.int 22)) (.int 0)) (by decide +kernel))
    | 23, _ => exact va_eqt (hs (.eq (.elem (.static "LuckShoes$Bodies" "OWN" "[I") (.int 23)) (.int 60)) (by decide +kernel))
    | 24, _ => exact va_eqt (hs (.eq (.elem (.static "LuckShoes$Bodies" "OWN" "[I") (.int 24)) (.int 70)) (by decide +kernel))
    | 25, _ => exact va_eqt (hs (.eq (.elem (.static "LuckShoes$Bodies" "OWN" "[I") (.int 25)) (.int 0)) (by decide +kernel))
    | 26, _ => exact va_eqt (hs (.eq (.elem (.static "LuckShoes$Bodies" "OWN" "[I") (.int 26)) (.int 0)) (by decide +kernel))
    | 27, _ => exact va_eqt (hs (.eq (.elem (.static "LuckShoes$Bodies" "OWN" "[I") (.int 27)) (.int 0)) (by decide +kernel))
    | 28, _ => exact va_eqt (hs (.eq (.elem (.static "LuckShoes$Bodies" "OWN" "[I") (.int 28)) (.int 0)) (by decide +kernel))
    | 29, _ => exact va_eqt (hs (.eq (.elem (.static "LuckShoes$Bodies" "OWN" "[I") (.int 29)) (.int 80)) (by decide +kernel))
    | 30, _ => exact va_eqt (hs (.eq (.elem (.static "LuckShoes$Bodies" "OWN" "[I") (.int 30)) (.int 0)) (by decide +kernel))
    | 31, _ => exact va_eqt (hs (.eq (.elem (.static "LuckShoes$Bodies" "OWN" "[I") (.int 31)) (.int 81)) (by decide +kernel))
    | j + 32, hj => omega
  obtain ⟨t, ht, hT⟩ := va_Tof (args := #[Value.ref b]) (s := s) (tm := (.static "LuckShoes$Bodies" "OWN" "[I")) (ty := .int) (N := 32) (f := fun i => .int (tbO i)) (A := fun q => s.heap.size ≤ q) (by decide) (hs (.arrayOf (.static "LuckShoes$Bodies" "OWN" "[I") .int) (by decide +kernel)) (va_eqt (hs (.eq (.length (.static "LuckShoes$Bodies" "OWN" "[I")) (.int 32)) (by decide +kernel))) hel hA
  exact ⟨t, va_Zof (hts _ (List.mem_of_getElem? (i := 976) (by decide +kernel))) (hts _ (TB_in _ wd_89)) ht hA, hT⟩
theorem ok_start {b : Nat} {G : Dg} {u t : Nat → Nat} {s : State} (hts : ∀ w ∈ lw_tbl, w.before #[Value.ref b] s = true) (hK : mkK G s) (hi : ∀ i j, i < 95 → j < 95 → u i = u j → i = j) (hu : ∀ k, k < 95 → s.heap.size ≤ u k) (ht : ∀ j, j < 3 → va_Z (sN j).1 (sN j).2.1 "[I" (.ref (t j)) (fun q => s.heap.size ≤ q) s s.heap ∧ va_T .int (t j) (sN j).2.2.1 (fun i => .int ((sN j).2.2.2 i)) (fun q => s.heap.size ≤ q) s s.heap) : Ok (rig G u t) s := by
  have hw : ∀ q : Nat, AwS (rig G u t) q → s.heap.size ≤ q := fun q h => by
    obtain ⟨k, hk, rfl⟩ := h
    exact hu k hk
  refine ⟨⟨hK.1.1, fun k q h => by simp at h⟩, fun k hk h3 => ?_, hi, fun j hj => ⟨(ht j hj).1.narrow hw, (ht j hj).2.narrow hw⟩, va_any rfl (hts _ (List.mem_of_getElem? (i := 499) (by decide +kernel))), va_any rfl (hts _ (List.mem_of_getElem? (i := 503) (by decide +kernel)))⟩
  show ArrOfT s (match (shp k).1 with | 0 => G.2.1 | 1 => G.2.2.1 | _ => G.2.2.2) (match (shp k).1 with | 0 => .int | 1 => .long | _ => .array .long) ∧ va_RA s (match (shp k).1 with | 0 => G.2.1 | 1 => G.2.2.1 | _ => G.2.2.2) (match (shp k).1 with | 0 => .int | 1 => .long | _ => .array .long)
  generalize (shp k).1 = z at h3
  match z, h3 with
  | 0, _ => exact hK.1.2 0 _ rfl
  | 1, _ => exact hK.1.2 1 _ rfl
  | 2, _ => exact hK.1.2 2 _ rfl
  | z + 3, h3 => omega
