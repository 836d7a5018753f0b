/-! THE REFERENCE'S CONSTRUCTOR -/
theorem kr_gen {X : Bmb} {a : Nat × va_E} {w : va_W} {cells slots pc : Nat} {lv : List (Nat × Value)} {st : List Value} (kk : ∀ v, v = w → WC X (a :: v) cells slots lv pc st) : WC X (a :: w) cells slots lv pc st := kk w rfl
theorem ld_step {X : Bmb} {h0 hq j cells slots mc ms i : Nat} {fs : List Value} {w : va_W} {g : Nat → Int32} (C : Cb X yX11_init.cls cX11_init 1 mc ms) (hnl : X.nL = 2) (hf : fs[36]? = some (.ref hq)) (hi : i < 6) (hj : w[j]? = some (hq, .inl (X.G.2.1, 6, .inl g))) (kk : WC X ((h0, .inr (11, fs)) :: w.set j (hq, .inl (X.G.2.1, 6, .inl (upd g i (-1))))) cells slots [(1, .int (nI (i + 1))), (0, .ref h0)] 233 []) : WC X ((h0, .inr (11, fs)) :: w) cells slots [(1, .int (nI i)), (0, .ref h0)] 233 [] := by
  refine kr_iload C dX11_init_233 rfl 0 rfl ?_
  refine kr_bipush C (nI 6) dX11_init_234 (by decide) ?_
  refine kr_ge C 252 dX11_init_236 (by decide) (fun h => ?_) (fun _ => ?_)
  · have := (nI_leI (a := 6) (b := i) (by omega) (by omega)).mp h
    omega
  refine kr_aload C dX11_init_239 rfl 1 rfl ?_
  refine kr_get C (ci := 11) (n := 45) (f := 36) (Cn := RX11) (T := TX11) rfl in_X11 (by decide) wd_1113 hf dX11_init_240 ?_
  refine kr_iload C dX11_init_243 rfl 0 rfl ?_
  refine kr_iconst C (-1) dX11_init_244 (by decide) ?_
  refine kr_ast C (n := 6) (g := g) (j + 1) ((h0, .inr (11, fs)) :: w.set j (hq, .inl (X.G.2.1, 6, .inl (upd g i (-1))))) hj (vp_in_nI hi (by omega)) (by rw [nI_clamp (by omega)]; rfl) dX11_init_245 ?_
  refine kr_iinc C 0 (nI (i + 1)) [(1, .int (nI (i + 1))), (0, .ref h0)] dX11_init_246 rfl (nI_1 i) (by rw [hnl]; decide) rfl ?_
  exact kr_goto C 233 dX11_init_249 (by decide) kk
theorem ld_loop {X : Bmb} {h0 hq j cells slots mc ms : Nat} {fs : List Value} {w : va_W} (C : Cb X yX11_init.cls cX11_init 1 mc ms) (hnl : X.nL = 2) (hf : fs[36]? = some (.ref hq)) (hj : w[j]? = some (hq, .inl (X.G.2.1, 6, .inl (flA (-1) (fun _ => 0) 0)))) (kk : ∀ lv, WC X ((h0, .inr (11, fs)) :: w.set j (hq, .inl (X.G.2.1, 6, .inl (flA (-1) (fun _ => 0) 6)))) cells slots lv 252 []) : WC X ((h0, .inr (11, fs)) :: w) cells slots [(1, .int 0), (0, .ref h0)] 233 [] := by
  have hlen : j < w.length := (List.getElem?_eq_some_iff.mp hj).1
  have key : ∀ (k i : Nat), i + k = 6 → WC X ((h0, .inr (11, fs)) :: w.set j (hq, .inl (X.G.2.1, 6, .inl (flA (-1) (fun _ => 0) i)))) cells slots [(1, .int (nI i)), (0, .ref h0)] 233 [] := by
    intro k
    induction k with
    | zero =>
      intro i hi
      have e : i = 6 := by omega
      subst e
      refine kr_iload C dX11_init_233 rfl 0 rfl ?_
      refine kr_bipush C (nI 6) dX11_init_234 (by decide) ?_
      exact kr_ge C 252 dX11_init_236 (by decide) (fun _ => kk _) (fun h => absurd (nI_le (Nat.le_refl 6) (by decide)) h)
    | succ k ih =>
      intro i hi
      refine ld_step C hnl hf (i := i) (by omega) (List.getElem?_set_self hlen) ?_
      rw [List.set_set, flA_s]
      exact ih (i + 1) (by omega)
  have K := key 6 0 rfl
  have e0 : w.set j (hq, .inl (X.G.2.1, 6, .inl (flA (-1) (fun _ => 0) 0))) = w := by
    apply List.ext_getElem?
    intro a
    by_cases e : j = a
    · subst e
      rw [List.getElem?_set_self hlen, hj]
    · rw [List.getElem?_set_ne e]
  rw [e0] at K
  exact K
def p_X11 (G : Dg) (h : Nat) (w : va_W) : Prop := ∃ q7 : Nat, ∃ q15 : Nat, ∃ q23 : Nat, ∃ q31 : Nat, ∃ q39 : Nat, ∃ q47 : Nat, ∃ q55 : Nat, ∃ q63 : Nat, ∃ q72 : Nat, ∃ q80 : Nat, ∃ q88 : Nat, ∃ q96 : Nat, ∃ q105 : Nat, ∃ q114 : Nat, ∃ q122 : Nat, ∃ q129 : Nat, ∃ q137 : Nat, ∃ q144 : Nat, ∃ q153 : Nat, ∃ q161 : Nat, ∃ q169 : Nat, ∃ q177 : Nat, ∃ q185 : Nat, ∃ q194 : Nat, ∃ q202 : Nat, ∃ q210 : Nat, ∃ q218 : Nat, ∃ q226 : Nat, w = (h, .inr (11, [.ref q7, .ref q15, .ref q23, .int 0, .ref q31, .int 0, .int 0, .ref q39, .int 0, .int 0, .ref q47, .ref q55, .ref q63, .ref q72, .int 0, .int 0, .int 0, .int 0, .ref q80, .ref q88, .ref q96, .ref q105, .ref q114, .ref q122, .ref q129, .int 0, .int 0, .ref q137, .ref q144, .int 0, .int 0, .ref q153, .int 0, .ref q161, .int 0, .ref q169, .ref q177, .ref q185, .ref q194, .ref q202, .int 0, .int 0, .ref q210, .ref q218, .ref q226])) :: ([(q7, iA G 36), (q15, iA G 36), (q23, iA G 36), (q31, iA G 32), (q39, iA G 120), (q47, iA G 60), (q55, iA G 60), (q63, iA G 60), (q72, iA G 200), (q80, iA G 61), (q88, iA G 61), (q96, iA G 61), (q105, iA G 200), (q114, iA G 200), (q122, iA G 6), (q129, iA G 5), (q137, iA G 105), (q144, iA G 5), (q153, iA G 160), (q161, iA G 50), (q169, iA G 24), (q177, .inl (G.2.1, 6, .inl (flA (-1) (fun _ => 0) 6))), (q185, iA G 6), (q194, lA G 360), (q202, iA G 36), (q210, iA G 105), (q218, iA G 105), (q226, iA G 105)])
set_option maxRecDepth 20000 in
set_option maxHeartbeats 4000000 in
theorem k_X11 (l : Launch) (G : Dg) : Mk l G yX11_init cX11_init 2 1 11 [.null, .null, .null, .int 0, .null, .int 0, .int 0, .null, .int 0, .int 0, .null, .null, .null, .null, .int 0, .int 0, .int 0, .int 0, .null, .null, .null, .null, .null, .null, .null, .int 0, .int 0, .null, .null, .int 0, .int 0, .null, .int 0, .null, .int 0, .null, .null, .null, .null, .null, .int 0, .int 0, .null, .null, .null] 28 2301 (p_X11 G) := by
  refine mk_of (by decide) rfl rfl (fun X h0 hl hG hnl C hm ret => ?_)
  subst hl
  subst hG
  refine kr_aload C dX11_init_0 rfl 0 rfl ?_
  refine kr_obj (kc := 0) C wd_1076 dX11_init_1 ?_
  refine kr_aload C dX11_init_4 rfl 0 rfl ?_
  refine kr_bipush C 36 dX11_init_5 (by decide) ?_
  refine kr_newI C (N := 36) dX11_init_7 (by decide) (by decide) rfl rfl rfl (fun q7 => ?_)
  refine kr_eqw (w2 := (h0, .inr (11, [.null, .null, .null, .int 0, .null, .int 0, .int 0, .null, .int 0, .int 0, .null, .null, .null, .null, .int 0, .int 0, .int 0, .int 0, .null, .null, .null, .null, .null, .null, .null, .int 0, .int 0, .null, .null, .int 0, .int 0, .null, .int 0, .null, .int 0, .null, .null, .null, .null, .null, .int 0, .int 0, .null, .null, .null])) :: ([] ++ [(q7, iA X.G 36)])) rfl ?_
  refine kr_gen (fun v7 e7 => ?_)
  refine kr_putF C hm (ci := 11) (n := 45) (f := 0) (Cn := RX11) (T := TX11) (ty := (.array .int)) [.ref q7, .null, .null, .int 0, .null, .int 0, .int 0, .null, .int 0, .int 0, .null, .null, .null, .null, .int 0, .int 0, .int 0, .int 0, .null, .null, .null, .null, .null, .null, .null, .int 0, .int 0, .null, .null, .int 0, .int 0, .null, .int 0, .null, .int 0, .null, .null, .null, .null, .null, .int 0, .int 0, .null, .null, .null] rfl in_X11 tyX11 tyX11_ok nmX11 (by decide) wd_1077 rfl rfl (by decide +kernel) rfl rfl (Nat.le_of_ble_eq_true rfl) rfl dX11_init_9 ?_
  refine kr_aload C dX11_init_12 rfl 0 rfl ?_
  refine kr_bipush C 36 dX11_init_13 (by decide) ?_
  refine kr_newI C (N := 36) dX11_init_15 (by decide) (by decide) rfl rfl rfl (fun q15 => ?_)
  refine kr_eqw (w2 := (h0, .inr (11, [.ref q7, .null, .null, .int 0, .null, .int 0, .int 0, .null, .int 0, .int 0, .null, .null, .null, .null, .int 0, .int 0, .int 0, .int 0, .null, .null, .null, .null, .null, .null, .null, .int 0, .int 0, .null, .null, .int 0, .int 0, .null, .int 0, .null, .int 0, .null, .null, .null, .null, .null, .int 0, .int 0, .null, .null, .null])) :: (v7 ++ [(q15, iA X.G 36)])) rfl ?_
  refine kr_gen (fun v15 e15 => ?_)
  refine kr_putF C hm (ci := 11) (n := 45) (f := 1) (Cn := RX11) (T := TX11) (ty := (.array .int)) [.ref q7, .ref q15, .null, .int 0, .null, .int 0, .int 0, .null, .int 0, .int 0, .null, .null, .null, .null, .int 0, .int 0, .int 0, .int 0, .null, .null, .null, .null, .null, .null, .null, .int 0, .int 0, .null, .null, .int 0, .int 0, .null, .int 0, .null, .int 0, .null, .null, .null, .null, .null, .int 0, .int 0, .null, .null, .null] rfl in_X11 tyX11 tyX11_ok nmX11 (by decide) wd_1078 rfl rfl (by decide +kernel) rfl rfl (Nat.le_of_ble_eq_true rfl) rfl dX11_init_17 ?_
  refine kr_aload C dX11_init_20 rfl 0 rfl ?_
  refine kr_bipush C 36 dX11_init_21 (by decide) ?_
  refine kr_newI C (N := 36) dX11_init_23 (by decide) (by decide) rfl rfl rfl (fun q23 => ?_)
  refine kr_eqw (w2 := (h0, .inr (11, [.ref q7, .ref q15, .null, .int 0, .null, .int 0, .int 0, .null, .int 0, .int 0, .null, .null, .null, .null, .int 0, .int 0, .int 0, .int 0, .null, .null, .null, .null, .null, .null, .null, .int 0, .int 0, .null, .null, .int 0, .int 0, .null, .int 0, .null, .int 0, .null, .null, .null, .null, .null, .int 0, .int 0, .null, .null, .null])) :: (v15 ++ [(q23, iA X.G 36)])) rfl ?_
  refine kr_gen (fun v23 e23 => ?_)
  refine kr_putF C hm (ci := 11) (n := 45) (f := 2) (Cn := RX11) (T := TX11) (ty := (.array .int)) [.ref q7, .ref q15, .ref q23, .int 0, .null, .int 0, .int 0, .null, .int 0, .int 0, .null, .null, .null, .null, .int 0, .int 0, .int 0, .int 0, .null, .null, .null, .null, .null, .null, .null, .int 0, .int 0, .null, .null, .int 0, .int 0, .null, .int 0, .null, .int 0, .null, .null, .null, .null, .null, .int 0, .int 0, .null, .null, .null] rfl in_X11 tyX11 tyX11_ok nmX11 (by decide) wd_1079 rfl rfl (by decide +kernel) rfl rfl (Nat.le_of_ble_eq_true rfl) rfl dX11_init_25 ?_
  refine kr_aload C dX11_init_28 rfl 0 rfl ?_
  refine kr_bipush C 32 dX11_init_29 (by decide) ?_
  refine kr_newI C (N := 32) dX11_init_31 (by decide) (by decide) rfl rfl rfl (fun q31 => ?_)
  refine kr_eqw (w2 := (h0, .inr (11, [.ref q7, .ref q15, .ref q23, .int 0, .null, .int 0, .int 0, .null, .int 0, .int 0, .null, .null, .null, .null, .int 0, .int 0, .int 0, .int 0, .null, .null, .null, .null, .null, .null, .null, .int 0, .int 0, .null, .null, .int 0, .int 0, .null, .int 0, .null, .int 0, .null, .null, .null, .null, .null, .int 0, .int 0, .null, .null, .null])) :: (v23 ++ [(q31, iA X.G 32)])) rfl ?_
  refine kr_gen (fun v31 e31 => ?_)
  refine kr_putF C hm (ci := 11) (n := 45) (f := 4) (Cn := RX11) (T := TX11) (ty := (.array .int)) [.ref q7, .ref q15, .ref q23, .int 0, .ref q31, .int 0, .int 0, .null, .int 0, .int 0, .null, .null, .null, .null, .int 0, .int 0, .int 0, .int 0, .null, .null, .null, .null, .null, .null, .null, .int 0, .int 0, .null, .null, .int 0, .int 0, .null, .int 0, .null, .int 0, .null, .null, .null, .null, .null, .int 0, .int 0, .null, .null, .null] rfl in_X11 tyX11 tyX11_ok nmX11 (by decide) wd_1081 rfl rfl (by decide +kernel) rfl rfl (Nat.le_of_ble_eq_true rfl) rfl dX11_init_33 ?_
  refine kr_aload C dX11_init_36 rfl 0 rfl ?_
  refine kr_bipush C 120 dX11_init_37 (by decide) ?_
  refine kr_newI C (N := 120) dX11_init_39 (by decide) (by decide) rfl rfl rfl (fun q39 => ?_)
  refine kr_eqw (w2 := (h0, .inr (11, [.ref q7, .ref q15, .ref q23, .int 0, .ref q31, .int 0, .int 0, .null, .int 0, .int 0, .null, .null, .null, .null, .int 0, .int 0, .int 0, .int 0, .null, .null, .null, .null, .null, .null, .null, .int 0, .int 0, .null, .null, .int 0, .int 0, .null, .int 0, .null, .int 0, .null, .null, .null, .null, .null, .int 0, .int 0, .null, .null, .null])) :: (v31 ++ [(q39, iA X.G 120)])) rfl ?_
  refine kr_gen (fun v39 e39 => ?_)
  refine kr_putF C hm (ci := 11) (n := 45) (f := 7) (Cn := RX11) (T := TX11) (ty := (.array .int)) [.ref q7, .ref q15, .ref q23, .int 0, .ref q31, .int 0, .int 0, .ref q39, .int 0, .int 0, .null, .null, .null, .null, .int 0, .int 0, .int 0, .int 0, .null, .null, .null, .null, .null, .null, .null, .int 0, .int 0, .null, .null, .int 0, .int 0, .null, .int 0, .null, .int 0, .null, .null, .null, .null, .null, .int 0, .int 0, .null, .null, .null] rfl in_X11 tyX11 tyX11_ok nmX11 (by decide) wd_1084 rfl rfl (by decide +kernel) rfl rfl (Nat.le_of_ble_eq_true rfl) rfl dX11_init_41 ?_
  refine kr_aload C dX11_init_44 rfl 0 rfl ?_
  refine kr_bipush C 60 dX11_init_45 (by decide) ?_
  refine kr_newI C (N := 60) dX11_init_47 (by decide) (by decide) rfl rfl rfl (fun q47 => ?_)
  refine kr_eqw (w2 := (h0, .inr (11, [.ref q7, .ref q15, .ref q23, .int 0, .ref q31, .int 0, .int 0, .ref q39, .int 0, .int 0, .null, .null, .null, .null, .int 0, .int 0, .int 0, .int 0, .null, .null, .null, .null, .null, .null, .null, .int 0, .int 0, .null, .null, .int 0, .int 0, .null, .int 0, .null, .int 0, .null, .null, .null, .null, .null, .int 0, .int 0, .null, .null, .null])) :: (v39 ++ [(q47, iA X.G 60)])) rfl ?_
  refine kr_gen (fun v47 e47 => ?_)
  refine kr_putF C hm (ci := 11) (n := 45) (f := 10) (Cn := RX11) (T := TX11) (ty := (.array .int)) [.ref q7, .ref q15, .ref q23, .int 0, .ref q31, .int 0, .int 0, .ref q39, .int 0, .int 0, .ref q47, .null, .null, .null, .int 0, .int 0, .int 0, .int 0, .null, .null, .null, .null, .null, .null, .null, .int 0, .int 0, .null, .null, .int 0, .int 0, .null, .int 0, .null, .int 0, .null, .null, .null, .null, .null, .int 0, .int 0, .null, .null, .null] rfl in_X11 tyX11 tyX11_ok nmX11 (by decide) wd_1087 rfl rfl (by decide +kernel) rfl rfl (Nat.le_of_ble_eq_true rfl) rfl dX11_init_49 ?_
  refine kr_aload C dX11_init_52 rfl 0 rfl ?_
  refine kr_bipush C 60 dX11_init_53 (by decide) ?_
  refine kr_newI C (N := 60) dX11_init_55 (by decide) (by decide) rfl rfl rfl (fun q55 => ?_)
  refine kr_eqw (w2 := (h0, .inr (11, [.ref q7, .ref q15, .ref q23, .int 0, .ref q31, .int 0, .int 0, .ref q39, .int 0, .int 0, .ref q47, .null, .null, .null, .int 0, .int 0, .int 0, .int 0, .null, .null, .null, .null, .null, .null, .null, .int 0, .int 0, .null, .null, .int 0, .int 0, .null, .int 0, .null, .int 0, .null, .null, .null, .null, .null, .int 0, .int 0, .null, .null, .null])) :: (v47 ++ [(q55, iA X.G 60)])) rfl ?_
  refine kr_gen (fun v55 e55 => ?_)
  refine kr_putF C hm (ci := 11) (n := 45) (f := 11) (Cn := RX11) (T := TX11) (ty := (.array .int)) [.ref q7, .ref q15, .ref q23, .int 0, .ref q31, .int 0, .int 0, .ref q39, .int 0, .int 0, .ref q47, .ref q55, .null, .null, .int 0, .int 0, .int 0, .int 0, .null, .null, .null, .null, .null, .null, .null, .int 0, .int 0, .null, .null, .int 0, .int 0, .null, .int 0, .null, .int 0, .null, .null, .null, .null, .null, .int 0, .int 0, .null, .null, .null] rfl in_X11 tyX11 tyX11_ok nmX11 (by decide) wd_1088 rfl rfl (by decide +kernel) rfl rfl (Nat.le_of_ble_eq_true rfl) rfl dX11_init_57 ?_
  refine kr_aload C dX11_init_60 rfl 0 rfl ?_
  refine kr_bipush C 60 dX11_init_61 (by decide) ?_
  refine kr_newI C (N := 60) dX11_init_63 (by decide) (by decide) rfl rfl rfl (fun q63 => ?_)
  refine kr_eqw (w2 := (h0, .inr (11, [.ref q7, .ref q15, .ref q23, .int 0, .ref q31, .int 0, .int 0, .ref q39, .int 0, .int 0, .ref q47, .ref q55, .null, .null, .int 0, .int 0, .int 0, .int 0, .null, .null, .null, .null, .null, .null, .null, .int 0, .int 0, .null, .null, .int 0, .int 0, .null, .int 0, .null, .int 0, .null, .null, .null, .null, .null, .int 0, .int 0, .null, .null, .null])) :: (v55 ++ [(q63, iA X.G 60)])) rfl ?_
  refine kr_gen (fun v63 e63 => ?_)
  refine kr_putF C hm (ci := 11) (n := 45) (f := 12) (Cn := RX11) (T := TX11) (ty := (.array .int)) [.ref q7, .ref q15, .ref q23, .int 0, .ref q31, .int 0, .int 0, .ref q39, .int 0, .int 0, .ref q47, .ref q55, .ref q63, .null, .int 0, .int 0, .int 0, .int 0, .null, .null, .null, .null, .null, .null, .null, .int 0, .int 0, .null, .null, .int 0, .int 0, .null, .int 0, .null, .int 0, .null, .null, .null, .null, .null, .int 0, .int 0, .null, .null, .null] rfl in_X11 tyX11 tyX11_ok nmX11 (by decide) wd_1089 rfl rfl (by decide +kernel) rfl rfl (Nat.le_of_ble_eq_true rfl) rfl dX11_init_65 ?_
  refine kr_aload C dX11_init_68 rfl 0 rfl ?_
  refine kr_sipush C 200 dX11_init_69 (by decide) ?_
  refine kr_newI C (N := 200) dX11_init_72 (by decide) (by decide) rfl rfl rfl (fun q72 => ?_)
  refine kr_eqw (w2 := (h0, .inr (11, [.ref q7, .ref q15, .ref q23, .int 0, .ref q31, .int 0, .int 0, .ref q39, .int 0, .int 0, .ref q47, .ref q55, .ref q63, .null, .int 0, .int 0, .int 0, .int 0, .null, .null, .null, .null, .null, .null, .null, .int 0, .int 0, .null, .null, .int 0, .int 0, .null, .int 0, .null, .int 0, .null, .null, .null, .null, .null, .int 0, .int 0, .null, .null, .null])) :: (v63 ++ [(q72, iA X.G 200)])) rfl ?_
  refine kr_gen (fun v72 e72 => ?_)
  refine kr_putF C hm (ci := 11) (n := 45) (f := 13) (Cn := RX11) (T := TX11) (ty := (.array .int)) [.ref q7, .ref q15, .ref q23, .int 0, .ref q31, .int 0, .int 0, .ref q39, .int 0, .int 0, .ref q47, .ref q55, .ref q63, .ref q72, .int 0, .int 0, .int 0, .int 0, .null, .null, .null, .null, .null, .null, .null, .int 0, .int 0, .null, .null, .int 0, .int 0, .null, .int 0, .null, .int 0, .null, .null, .null, .null, .null, .int 0, .int 0, .null, .null, .null] rfl in_X11 tyX11 tyX11_ok nmX11 (by decide) wd_1090 rfl rfl (by decide +kernel) rfl rfl (Nat.le_of_ble_eq_true rfl) rfl dX11_init_74 ?_
  refine kr_aload C dX11_init_77 rfl 0 rfl ?_
  refine kr_bipush C 61 dX11_init_78 (by decide) ?_
  refine kr_newI C (N := 61) dX11_init_80 (by decide) (by decide) rfl rfl rfl (fun q80 => ?_)
  refine kr_eqw (w2 := (h0, .inr (11, [.ref q7, .ref q15, .ref q23, .int 0, .ref q31, .int 0, .int 0, .ref q39, .int 0, .int 0, .ref q47, .ref q55, .ref q63, .ref q72, .int 0, .int 0, .int 0, .int 0, .null, .null, .null, .null, .null, .null, .null, .int 0, .int 0, .null, .null, .int 0, .int 0, .null, .int 0, .null, .int 0, .null, .null, .null, .null, .null, .int 0, .int 0, .null, .null, .null])) :: (v72 ++ [(q80, iA X.G 61)])) rfl ?_
  refine kr_gen (fun v80 e80 => ?_)
  refine kr_putF C hm (ci := 11) (n := 45) (f := 18) (Cn := RX11) (T := TX11) (ty := (.array .int)) [.ref q7, .ref q15, .ref q23, .int 0, .ref q31, .int 0, .int 0, .ref q39, .int 0, .int 0, .ref q47, .ref q55, .ref q63, .ref q72, .int 0, .int 0, .int 0, .int 0, .ref q80, .null, .null, .null, .null, .null, .null, .int 0, .int 0, .null, .null, .int 0, .int 0, .null, .int 0, .null, .int 0, .null, .null, .null, .null, .null, .int 0, .int 0, .null, .null, .null] rfl in_X11 tyX11 tyX11_ok nmX11 (by decide) wd_1095 rfl rfl (by decide +kernel) rfl rfl (Nat.le_of_ble_eq_true rfl) rfl dX11_init_82 ?_
  refine kr_aload C dX11_init_85 rfl 0 rfl ?_
  refine kr_bipush C 61 dX11_init_86 (by decide) ?_
  refine kr_newI C (N := 61) dX11_init_88 (by decide) (by decide) rfl rfl rfl (fun q88 => ?_)
  refine kr_eqw (w2 := (h0, .inr (11, [.ref q7, .ref q15, .ref q23, .int 0, .ref q31, .int 0, .int 0, .ref q39, .int 0, .int 0, .ref q47, .ref q55, .ref q63, .ref q72, .int 0, .int 0, .int 0, .int 0, .ref q80, .null, .null, .null, .null, .null, .null, .int 0, .int 0, .null, .null, .int 0, .int 0, .null, .int 0, .null, .int 0, .null, .null, .null, .null, .null, .int 0, .int 0, .null, .null, .null])) :: (v80 ++ [(q88, iA X.G 61)])) rfl ?_
  refine kr_gen (fun v88 e88 => ?_)
  refine kr_putF C hm (ci := 11) (n := 45) (f := 19) (Cn := RX11) (T := TX11) (ty := (.array .int)) [.ref q7, .ref q15, .ref q23, .int 0, .ref q31, .int 0, .int 0, .ref q39, .int 0, .int 0, .ref q47, .ref q55, .ref q63, .ref q72, .int 0, .int 0, .int 0, .int 0, .ref q80, .ref q88, .null, .null, .null, .null, .null, .int 0, .int 0, .null, .null, .int 0, .int 0, .null, .int 0, .null, .int 0, .null, .null, .null, .null, .null, .int 0, .int 0, .null, .null, .null] rfl in_X11 tyX11 tyX11_ok nmX11 (by decide) wd_1096 rfl rfl (by decide +kernel) rfl rfl (Nat.le_of_ble_eq_true rfl) rfl dX11_init_90 ?_
  refine kr_aload C dX11_init_93 rfl 0 rfl ?_
  refine kr_bipush C 61 dX11_init_94 (by decide) ?_
  refine kr_newI C (N := 61) dX11_init_96 (by decide) (by decide) rfl rfl rfl (fun q96 => ?_)
  refine kr_eqw (w2 := (h0, .inr (11, [.ref q7, .ref q15, .ref q23, .int 0, .ref q31, .int 0, .int 0, .ref q39, .int 0, .int 0, .ref q47, .ref q55, .ref q63, .ref q72, .int 0, .int 0, .int 0, .int 0, .ref q80, .ref q88, .null, .null, .null, .null, .null, .int 0, .int 0, .null, .null, .int 0, .int 0, .null, .int 0, .null, .int 0, .null, .null, .null, .null, .null, .int 0, .int 0, .null, .null, .null])) :: (v88 ++ [(q96, iA X.G 61)])) rfl ?_
  refine kr_gen (fun v96 e96 => ?_)
  refine kr_putF C hm (ci := 11) (n := 45) (f := 20) (Cn := RX11) (T := TX11) (ty := (.array .int)) [.ref q7, .ref q15, .ref q23, .int 0, .ref q31, .int 0, .int 0, .ref q39, .int 0, .int 0, .ref q47, .ref q55, .ref q63, .ref q72, .int 0, .int 0, .int 0, .int 0, .ref q80, .ref q88, .ref q96, .null, .null, .null, .null, .int 0, .int 0, .null, .null, .int 0, .int 0, .null, .int 0, .null, .int 0, .null, .null, .null, .null, .null, .int 0, .int 0, .null, .null, .null] rfl in_X11 tyX11 tyX11_ok nmX11 (by decide) wd_1097 rfl rfl (by decide +kernel) rfl rfl (Nat.le_of_ble_eq_true rfl) rfl dX11_init_98 ?_
  refine kr_aload C dX11_init_101 rfl 0 rfl ?_
  refine kr_sipush C 200 dX11_init_102 (by decide) ?_
  refine kr_newI C (N := 200) dX11_init_105 (by decide) (by decide) rfl rfl rfl (fun q105 => ?_)
  refine kr_eqw (w2 := (h0, .inr (11, [.ref q7, .ref q15, .ref q23, .int 0, .ref q31, .int 0, .int 0, .ref q39, .int 0, .int 0, .ref q47, .ref q55, .ref q63, .ref q72, .int 0, .int 0, .int 0, .int 0, .ref q80, .ref q88, .ref q96, .null, .null, .null, .null, .int 0, .int 0, .null, .null, .int 0, .int 0, .null, .int 0, .null, .int 0, .null, .null, .null, .null, .null, .int 0, .int 0, .null, .null, .null])) :: (v96 ++ [(q105, iA X.G 200)])) rfl ?_
  refine kr_gen (fun v105 e105 => ?_)
  refine kr_putF C hm (ci := 11) (n := 45) (f := 21) (Cn := RX11) (T := TX11) (ty := (.array .int)) [.ref q7, .ref q15, .ref q23, .int 0, .ref q31, .int 0, .int 0, .ref q39, .int 0, .int 0, .ref q47, .ref q55, .ref q63, .ref q72, .int 0, .int 0, .int 0, .int 0, .ref q80, .ref q88, .ref q96, .ref q105, .null, .null, .null, .int 0, .int 0, .null, .null, .int 0, .int 0, .null, .int 0, .null, .int 0, .null, .null, .null, .null, .null, .int 0, .int 0, .null, .null, .null] rfl in_X11 tyX11 tyX11_ok nmX11 (by decide) wd_1098 rfl rfl (by decide +kernel) rfl rfl (Nat.le_of_ble_eq_true rfl) rfl dX11_init_107 ?_
  refine kr_aload C dX11_init_110 rfl 0 rfl ?_
  refine kr_sipush C 200 dX11_init_111 (by decide) ?_
  refine kr_newI C (N := 200) dX11_init_114 (by decide) (by decide) rfl rfl rfl (fun q114 => ?_)
  refine kr_eqw (w2 := (h0, .inr (11, [.ref q7, .ref q15, .ref q23, .int 0, .ref q31, .int 0, .int 0, .ref q39, .int 0, .int 0, .ref q47, .ref q55, .ref q63, .ref q72, .int 0, .int 0, .int 0, .int 0, .ref q80, .ref q88, .ref q96, .ref q105, .null, .null, .null, .int 0, .int 0, .null, .null, .int 0, .int 0, .null, .int 0, .null, .int 0, .null, .null, .null, .null, .null, .int 0, .int 0, .null, .null, .null])) :: (v105 ++ [(q114, iA X.G 200)])) rfl ?_
  refine kr_gen (fun v114 e114 => ?_)
  refine kr_putF C hm (ci := 11) (n := 45) (f := 22) (Cn := RX11) (T := TX11) (ty := (.array .int)) [.ref q7, .ref q15, .ref q23, .int 0, .ref q31, .int 0, .int 0, .ref q39, .int 0, .int 0, .ref q47, .ref q55, .ref q63, .ref q72, .int 0, .int 0, .int 0, .int 0, .ref q80, .ref q88, .ref q96, .ref q105, .ref q114, .null, .null, .int 0, .int 0, .null, .null, .int 0, .int 0, .null, .int 0, .null, .int 0, .null, .null, .null, .null, .null, .int 0, .int 0, .null, .null, .null] rfl in_X11 tyX11 tyX11_ok nmX11 (by decide) wd_1099 rfl rfl (by decide +kernel) rfl rfl (Nat.le_of_ble_eq_true rfl) rfl dX11_init_116 ?_
  refine kr_aload C dX11_init_119 rfl 0 rfl ?_
  refine kr_bipush C 6 dX11_init_120 (by decide) ?_
  refine kr_newI C (N := 6) dX11_init_122 (by decide) (by decide) rfl rfl rfl (fun q122 => ?_)
  refine kr_eqw (w2 := (h0, .inr (11, [.ref q7, .ref q15, .ref q23, .int 0, .ref q31, .int 0, .int 0, .ref q39, .int 0, .int 0, .ref q47, .ref q55, .ref q63, .ref q72, .int 0, .int 0, .int 0, .int 0, .ref q80, .ref q88, .ref q96, .ref q105, .ref q114, .null, .null, .int 0, .int 0, .null, .null, .int 0, .int 0, .null, .int 0, .null, .int 0, .null, .null, .null, .null, .null, .int 0, .int 0, .null, .null, .null])) :: (v114 ++ [(q122, iA X.G 6)])) rfl ?_
  refine kr_gen (fun v122 e122 => ?_)
  refine kr_putF C hm (ci := 11) (n := 45) (f := 23) (Cn := RX11) (T := TX11) (ty := (.array .int)) [.ref q7, .ref q15, .ref q23, .int 0, .ref q31, .int 0, .int 0, .ref q39, .int 0, .int 0, .ref q47, .ref q55, .ref q63, .ref q72, .int 0, .int 0, .int 0, .int 0, .ref q80, .ref q88, .ref q96, .ref q105, .ref q114, .ref q122, .null, .int 0, .int 0, .null, .null, .int 0, .int 0, .null, .int 0, .null, .int 0, .null, .null, .null, .null, .null, .int 0, .int 0, .null, .null, .null] rfl in_X11 tyX11 tyX11_ok nmX11 (by decide) wd_1100 rfl rfl (by decide +kernel) rfl rfl (Nat.le_of_ble_eq_true rfl) rfl dX11_init_124 ?_
  refine kr_aload C dX11_init_127 rfl 0 rfl ?_
  refine kr_iconst C 5 dX11_init_128 (by decide) ?_
  refine kr_newI C (N := 5) dX11_init_129 (by decide) (by decide) rfl rfl rfl (fun q129 => ?_)
  refine kr_eqw (w2 := (h0, .inr (11, [.ref q7, .ref q15, .ref q23, .int 0, .ref q31, .int 0, .int 0, .ref q39, .int 0, .int 0, .ref q47, .ref q55, .ref q63, .ref q72, .int 0, .int 0, .int 0, .int 0, .ref q80, .ref q88, .ref q96, .ref q105, .ref q114, .ref q122, .null, .int 0, .int 0, .null, .null, .int 0, .int 0, .null, .int 0, .null, .int 0, .null, .null, .null, .null, .null, .int 0, .int 0, .null, .null, .null])) :: (v122 ++ [(q129, iA X.G 5)])) rfl ?_
  refine kr_gen (fun v129 e129 => ?_)
  refine kr_putF C hm (ci := 11) (n := 45) (f := 24) (Cn := RX11) (T := TX11) (ty := (.array .int)) [.ref q7, .ref q15, .ref q23, .int 0, .ref q31, .int 0, .int 0, .ref q39, .int 0, .int 0, .ref q47, .ref q55, .ref q63, .ref q72, .int 0, .int 0, .int 0, .int 0, .ref q80, .ref q88, .ref q96, .ref q105, .ref q114, .ref q122, .ref q129, .int 0, .int 0, .null, .null, .int 0, .int 0, .null, .int 0, .null, .int 0, .null, .null, .null, .null, .null, .int 0, .int 0, .null, .null, .null] rfl in_X11 tyX11 tyX11_ok nmX11 (by decide) wd_1101 rfl rfl (by decide +kernel) rfl rfl (Nat.le_of_ble_eq_true rfl) rfl dX11_init_131 ?_
  refine kr_aload C dX11_init_134 rfl 0 rfl ?_
  refine kr_bipush C 105 dX11_init_135 (by decide) ?_
  refine kr_newI C (N := 105) dX11_init_137 (by decide) (by decide) rfl rfl rfl (fun q137 => ?_)
  refine kr_eqw (w2 := (h0, .inr (11, [.ref q7, .ref q15, .ref q23, .int 0, .ref q31, .int 0, .int 0, .ref q39, .int 0, .int 0, .ref q47, .ref q55, .ref q63, .ref q72, .int 0, .int 0, .int 0, .int 0, .ref q80, .ref q88, .ref q96, .ref q105, .ref q114, .ref q122, .ref q129, .int 0, .int 0, .null, .null, .int 0, .int 0, .null, .int 0, .null, .int 0, .null, .null, .null, .null, .null, .int 0, .int 0, .null, .null, .null])) :: (v129 ++ [(q137, iA X.G 105)])) rfl ?_
  refine kr_gen (fun v137 e137 => ?_)
  refine kr_putF C hm (ci := 11) (n := 45) (f := 27) (Cn := RX11) (T := TX11) (ty := (.array .int)) [.ref q7, .ref q15, .ref q23, .int 0, .ref q31, .int 0, .int 0, .ref q39, .int 0, .int 0, .ref q47, .ref q55, .ref q63, .ref q72, .int 0, .int 0, .int 0, .int 0, .ref q80, .ref q88, .ref q96, .ref q105, .ref q114, .ref q122, .ref q129, .int 0, .int 0, .ref q137, .null, .int 0, .int 0, .null, .int 0, .null, .int 0, .null, .null, .null, .null, .null, .int 0, .int 0, .null, .null, .null] rfl in_X11 tyX11 tyX11_ok nmX11 (by decide) wd_1104 rfl rfl (by decide +kernel) rfl rfl (Nat.le_of_ble_eq_true rfl) rfl dX11_init_139 ?_
  refine kr_aload C dX11_init_142 rfl 0 rfl ?_
  refine kr_iconst C 5 dX11_init_143 (by decide) ?_
  refine kr_newI C (N := 5) dX11_init_144 (by decide) (by decide) rfl rfl rfl (fun q144 => ?_)
  refine kr_eqw (w2 := (h0, .inr (11, [.ref q7, .ref q15, .ref q23, .int 0, .ref q31, .int 0, .int 0, .ref q39, .int 0, .int 0, .ref q47, .ref q55, .ref q63, .ref q72, .int 0, .int 0, .int 0, .int 0, .ref q80, .ref q88, .ref q96, .ref q105, .ref q114, .ref q122, .ref q129, .int 0, .int 0, .ref q137, .null, .int 0, .int 0, .null, .int 0, .null, .int 0, .null, .null, .null, .null, .null, .int 0, .int 0, .null, .null, .null])) :: (v137 ++ [(q144, iA X.G 5)])) rfl ?_
  refine kr_gen (fun v144 e144 => ?_)
  refine kr_putF C hm (ci := 11) (n := 45) (f := 28) (Cn := RX11) (T := TX11) (ty := (.array .int)) [.ref q7, .ref q15, .ref q23, .int 0, .ref q31, .int 0, .int 0, .ref q39, .int 0, .int 0, .ref q47, .ref q55, .ref q63, .ref q72, .int 0, .int 0, .int 0, .int 0, .ref q80, .ref q88, .ref q96, .ref q105, .ref q114, .ref q122, .ref q129, .int 0, .int 0, .ref q137, .ref q144, .int 0, .int 0, .null, .int 0, .null, .int 0, .null, .null, .null, .null, .null, .int 0, .int 0, .null, .null, .null] rfl in_X11 tyX11 tyX11_ok nmX11 (by decide) wd_1105 rfl rfl (by decide +kernel) rfl rfl (Nat.le_of_ble_eq_true rfl) rfl dX11_init_146 ?_
  refine kr_aload C dX11_init_149 rfl 0 rfl ?_
  refine kr_sipush C 160 dX11_init_150 (by decide) ?_
  refine kr_newI C (N := 160) dX11_init_153 (by decide) (by decide) rfl rfl rfl (fun q153 => ?_)
  refine kr_eqw (w2 := (h0, .inr (11, [.ref q7, .ref q15, .ref q23, .int 0, .ref q31, .int 0, .int 0, .ref q39, .int 0, .int 0, .ref q47, .ref q55, .ref q63, .ref q72, .int 0, .int 0, .int 0, .int 0, .ref q80, .ref q88, .ref q96, .ref q105, .ref q114, .ref q122, .ref q129, .int 0, .int 0, .ref q137, .ref q144, .int 0, .int 0, .null, .int 0, .null, .int 0, .null, .null, .null, .null, .null, .int 0, .int 0, .null, .null, .null])) :: (v144 ++ [(q153, iA X.G 160)])) rfl ?_
  refine kr_gen (fun v153 e153 => ?_)
  refine kr_putF C hm (ci := 11) (n := 45) (f := 31) (Cn := RX11) (T := TX11) (ty := (.array .int)) [.ref q7, .ref q15, .ref q23, .int 0, .ref q31, .int 0, .int 0, .ref q39, .int 0, .int 0, .ref q47, .ref q55, .ref q63, .ref q72, .int 0, .int 0, .int 0, .int 0, .ref q80, .ref q88, .ref q96, .ref q105, .ref q114, .ref q122, .ref q129, .int 0, .int 0, .ref q137, .ref q144, .int 0, .int 0, .ref q153, .int 0, .null, .int 0, .null, .null, .null, .null, .null, .int 0, .int 0, .null, .null, .null] rfl in_X11 tyX11 tyX11_ok nmX11 (by decide) wd_1108 rfl rfl (by decide +kernel) rfl rfl (Nat.le_of_ble_eq_true rfl) rfl dX11_init_155 ?_
  refine kr_aload C dX11_init_158 rfl 0 rfl ?_
  refine kr_bipush C 50 dX11_init_159 (by decide) ?_
  refine kr_newI C (N := 50) dX11_init_161 (by decide) (by decide) rfl rfl rfl (fun q161 => ?_)
  refine kr_eqw (w2 := (h0, .inr (11, [.ref q7, .ref q15, .ref q23, .int 0, .ref q31, .int 0, .int 0, .ref q39, .int 0, .int 0, .ref q47, .ref q55, .ref q63, .ref q72, .int 0, .int 0, .int 0, .int 0, .ref q80, .ref q88, .ref q96, .ref q105, .ref q114, .ref q122, .ref q129, .int 0, .int 0, .ref q137, .ref q144, .int 0, .int 0, .ref q153, .int 0, .null, .int 0, .null, .null, .null, .null, .null, .int 0, .int 0, .null, .null, .null])) :: (v153 ++ [(q161, iA X.G 50)])) rfl ?_
  refine kr_gen (fun v161 e161 => ?_)
  refine kr_putF C hm (ci := 11) (n := 45) (f := 33) (Cn := RX11) (T := TX11) (ty := (.array .int)) [.ref q7, .ref q15, .ref q23, .int 0, .ref q31, .int 0, .int 0, .ref q39, .int 0, .int 0, .ref q47, .ref q55, .ref q63, .ref q72, .int 0, .int 0, .int 0, .int 0, .ref q80, .ref q88, .ref q96, .ref q105, .ref q114, .ref q122, .ref q129, .int 0, .int 0, .ref q137, .ref q144, .int 0, .int 0, .ref q153, .int 0, .ref q161, .int 0, .null, .null, .null, .null, .null, .int 0, .int 0, .null, .null, .null] rfl in_X11 tyX11 tyX11_ok nmX11 (by decide) wd_1110 rfl rfl (by decide +kernel) rfl rfl (Nat.le_of_ble_eq_true rfl) rfl dX11_init_163 ?_
  refine kr_aload C dX11_init_166 rfl 0 rfl ?_
  refine kr_bipush C 24 dX11_init_167 (by decide) ?_
  refine kr_newI C (N := 24) dX11_init_169 (by decide) (by decide) rfl rfl rfl (fun q169 => ?_)
  refine kr_eqw (w2 := (h0, .inr (11, [.ref q7, .ref q15, .ref q23, .int 0, .ref q31, .int 0, .int 0, .ref q39, .int 0, .int 0, .ref q47, .ref q55, .ref q63, .ref q72, .int 0, .int 0, .int 0, .int 0, .ref q80, .ref q88, .ref q96, .ref q105, .ref q114, .ref q122, .ref q129, .int 0, .int 0, .ref q137, .ref q144, .int 0, .int 0, .ref q153, .int 0, .ref q161, .int 0, .null, .null, .null, .null, .null, .int 0, .int 0, .null, .null, .null])) :: (v161 ++ [(q169, iA X.G 24)])) rfl ?_
  refine kr_gen (fun v169 e169 => ?_)
  refine kr_putF C hm (ci := 11) (n := 45) (f := 35) (Cn := RX11) (T := TX11) (ty := (.array .int)) [.ref q7, .ref q15, .ref q23, .int 0, .ref q31, .int 0, .int 0, .ref q39, .int 0, .int 0, .ref q47, .ref q55, .ref q63, .ref q72, .int 0, .int 0, .int 0, .int 0, .ref q80, .ref q88, .ref q96, .ref q105, .ref q114, .ref q122, .ref q129, .int 0, .int 0, .ref q137, .ref q144, .int 0, .int 0, .ref q153, .int 0, .ref q161, .int 0, .ref q169, .null, .null, .null, .null, .int 0, .int 0, .null, .null, .null] rfl in_X11 tyX11 tyX11_ok nmX11 (by decide) wd_1112 rfl rfl (by decide +kernel) rfl rfl (Nat.le_of_ble_eq_true rfl) rfl dX11_init_171 ?_
  refine kr_aload C dX11_init_174 rfl 0 rfl ?_
  refine kr_bipush C 6 dX11_init_175 (by decide) ?_
  refine kr_newI C (N := 6) dX11_init_177 (by decide) (by decide) rfl rfl rfl (fun q177 => ?_)
  refine kr_eqw (w2 := (h0, .inr (11, [.ref q7, .ref q15, .ref q23, .int 0, .ref q31, .int 0, .int 0, .ref q39, .int 0, .int 0, .ref q47, .ref q55, .ref q63, .ref q72, .int 0, .int 0, .int 0, .int 0, .ref q80, .ref q88, .ref q96, .ref q105, .ref q114, .ref q122, .ref q129, .int 0, .int 0, .ref q137, .ref q144, .int 0, .int 0, .ref q153, .int 0, .ref q161, .int 0, .ref q169, .null, .null, .null, .null, .int 0, .int 0, .null, .null, .null])) :: (v169 ++ [(q177, iA X.G 6)])) rfl ?_
  refine kr_gen (fun v177 e177 => ?_)
  refine kr_putF C hm (ci := 11) (n := 45) (f := 36) (Cn := RX11) (T := TX11) (ty := (.array .int)) [.ref q7, .ref q15, .ref q23, .int 0, .ref q31, .int 0, .int 0, .ref q39, .int 0, .int 0, .ref q47, .ref q55, .ref q63, .ref q72, .int 0, .int 0, .int 0, .int 0, .ref q80, .ref q88, .ref q96, .ref q105, .ref q114, .ref q122, .ref q129, .int 0, .int 0, .ref q137, .ref q144, .int 0, .int 0, .ref q153, .int 0, .ref q161, .int 0, .ref q169, .ref q177, .null, .null, .null, .int 0, .int 0, .null, .null, .null] rfl in_X11 tyX11 tyX11_ok nmX11 (by decide) wd_1113 rfl rfl (by decide +kernel) rfl rfl (Nat.le_of_ble_eq_true rfl) rfl dX11_init_179 ?_
  refine kr_aload C dX11_init_182 rfl 0 rfl ?_
  refine kr_bipush C 6 dX11_init_183 (by decide) ?_
  refine kr_newI C (N := 6) dX11_init_185 (by decide) (by decide) rfl rfl rfl (fun q185 => ?_)
  refine kr_eqw (w2 := (h0, .inr (11, [.ref q7, .ref q15, .ref q23, .int 0, .ref q31, .int 0, .int 0, .ref q39, .int 0, .int 0, .ref q47, .ref q55, .ref q63, .ref q72, .int 0, .int 0, .int 0, .int 0, .ref q80, .ref q88, .ref q96, .ref q105, .ref q114, .ref q122, .ref q129, .int 0, .int 0, .ref q137, .ref q144, .int 0, .int 0, .ref q153, .int 0, .ref q161, .int 0, .ref q169, .ref q177, .null, .null, .null, .int 0, .int 0, .null, .null, .null])) :: (v177 ++ [(q185, iA X.G 6)])) rfl ?_
  refine kr_gen (fun v185 e185 => ?_)
  refine kr_putF C hm (ci := 11) (n := 45) (f := 37) (Cn := RX11) (T := TX11) (ty := (.array .int)) [.ref q7, .ref q15, .ref q23, .int 0, .ref q31, .int 0, .int 0, .ref q39, .int 0, .int 0, .ref q47, .ref q55, .ref q63, .ref q72, .int 0, .int 0, .int 0, .int 0, .ref q80, .ref q88, .ref q96, .ref q105, .ref q114, .ref q122, .ref q129, .int 0, .int 0, .ref q137, .ref q144, .int 0, .int 0, .ref q153, .int 0, .ref q161, .int 0, .ref q169, .ref q177, .ref q185, .null, .null, .int 0, .int 0, .null, .null, .null] rfl in_X11 tyX11 tyX11_ok nmX11 (by decide) wd_1114 rfl rfl (by decide +kernel) rfl rfl (Nat.le_of_ble_eq_true rfl) rfl dX11_init_187 ?_
  refine kr_aload C dX11_init_190 rfl 0 rfl ?_
  refine kr_sipush C 360 dX11_init_191 (by decide) ?_
  refine kr_newL C (N := 360) dX11_init_194 (by decide) (by decide) rfl rfl rfl (fun q194 => ?_)
  refine kr_eqw (w2 := (h0, .inr (11, [.ref q7, .ref q15, .ref q23, .int 0, .ref q31, .int 0, .int 0, .ref q39, .int 0, .int 0, .ref q47, .ref q55, .ref q63, .ref q72, .int 0, .int 0, .int 0, .int 0, .ref q80, .ref q88, .ref q96, .ref q105, .ref q114, .ref q122, .ref q129, .int 0, .int 0, .ref q137, .ref q144, .int 0, .int 0, .ref q153, .int 0, .ref q161, .int 0, .ref q169, .ref q177, .ref q185, .null, .null, .int 0, .int 0, .null, .null, .null])) :: (v185 ++ [(q194, lA X.G 360)])) rfl ?_
  refine kr_gen (fun v194 e194 => ?_)
  refine kr_putF C hm (ci := 11) (n := 45) (f := 38) (Cn := RX11) (T := TX11) (ty := (.array .long)) [.ref q7, .ref q15, .ref q23, .int 0, .ref q31, .int 0, .int 0, .ref q39, .int 0, .int 0, .ref q47, .ref q55, .ref q63, .ref q72, .int 0, .int 0, .int 0, .int 0, .ref q80, .ref q88, .ref q96, .ref q105, .ref q114, .ref q122, .ref q129, .int 0, .int 0, .ref q137, .ref q144, .int 0, .int 0, .ref q153, .int 0, .ref q161, .int 0, .ref q169, .ref q177, .ref q185, .ref q194, .null, .int 0, .int 0, .null, .null, .null] rfl in_X11 tyX11 tyX11_ok nmX11 (by decide) wd_1115 rfl rfl (by decide +kernel) rfl rfl (Nat.le_of_ble_eq_true rfl) rfl dX11_init_196 ?_
  refine kr_aload C dX11_init_199 rfl 0 rfl ?_
  refine kr_bipush C 36 dX11_init_200 (by decide) ?_
  refine kr_newI C (N := 36) dX11_init_202 (by decide) (by decide) rfl rfl rfl (fun q202 => ?_)
  refine kr_eqw (w2 := (h0, .inr (11, [.ref q7, .ref q15, .ref q23, .int 0, .ref q31, .int 0, .int 0, .ref q39, .int 0, .int 0, .ref q47, .ref q55, .ref q63, .ref q72, .int 0, .int 0, .int 0, .int 0, .ref q80, .ref q88, .ref q96, .ref q105, .ref q114, .ref q122, .ref q129, .int 0, .int 0, .ref q137, .ref q144, .int 0, .int 0, .ref q153, .int 0, .ref q161, .int 0, .ref q169, .ref q177, .ref q185, .ref q194, .null, .int 0, .int 0, .null, .null, .null])) :: (v194 ++ [(q202, iA X.G 36)])) rfl ?_
  refine kr_gen (fun v202 e202 => ?_)
  refine kr_putF C hm (ci := 11) (n := 45) (f := 39) (Cn := RX11) (T := TX11) (ty := (.array .int)) [.ref q7, .ref q15, .ref q23, .int 0, .ref q31, .int 0, .int 0, .ref q39, .int 0, .int 0, .ref q47, .ref q55, .ref q63, .ref q72, .int 0, .int 0, .int 0, .int 0, .ref q80, .ref q88, .ref q96, .ref q105, .ref q114, .ref q122, .ref q129, .int 0, .int 0, .ref q137, .ref q144, .int 0, .int 0, .ref q153, .int 0, .ref q161, .int 0, .ref q169, .ref q177, .ref q185, .ref q194, .ref q202, .int 0, .int 0, .null, .null, .null] rfl in_X11 tyX11 tyX11_ok nmX11 (by decide) wd_1116 rfl rfl (by decide +kernel) rfl rfl (Nat.le_of_ble_eq_true rfl) rfl dX11_init_204 ?_
  refine kr_aload C dX11_init_207 rfl 0 rfl ?_
  refine kr_bipush C 105 dX11_init_208 (by decide) ?_
  refine kr_newI C (N := 105) dX11_init_210 (by decide) (by decide) rfl rfl rfl (fun q210 => ?_)
  refine kr_eqw (w2 := (h0, .inr (11, [.ref q7, .ref q15, .ref q23, .int 0, .ref q31, .int 0, .int 0, .ref q39, .int 0, .int 0, .ref q47, .ref q55, .ref q63, .ref q72, .int 0, .int 0, .int 0, .int 0, .ref q80, .ref q88, .ref q96, .ref q105, .ref q114, .ref q122, .ref q129, .int 0, .int 0, .ref q137, .ref q144, .int 0, .int 0, .ref q153, .int 0, .ref q161, .int 0, .ref q169, .ref q177, .ref q185, .ref q194, .ref q202, .int 0, .int 0, .null, .null, .null])) :: (v202 ++ [(q210, iA X.G 105)])) rfl ?_
  refine kr_gen (fun v210 e210 => ?_)
  refine kr_putF C hm (ci := 11) (n := 45) (f := 42) (Cn := RX11) (T := TX11) (ty := (.array .int)) [.ref q7, .ref q15, .ref q23, .int 0, .ref q31, .int 0, .int 0, .ref q39, .int 0, .int 0, .ref q47, .ref q55, .ref q63, .ref q72, .int 0, .int 0, .int 0, .int 0, .ref q80, .ref q88, .ref q96, .ref q105, .ref q114, .ref q122, .ref q129, .int 0, .int 0, .ref q137, .ref q144, .int 0, .int 0, .ref q153, .int 0, .ref q161, .int 0, .ref q169, .ref q177, .ref q185, .ref q194, .ref q202, .int 0, .int 0, .ref q210, .null, .null] rfl in_X11 tyX11 tyX11_ok nmX11 (by decide) wd_1119 rfl rfl (by decide +kernel) rfl rfl (Nat.le_of_ble_eq_true rfl) rfl dX11_init_212 ?_
  refine kr_aload C dX11_init_215 rfl 0 rfl ?_
  refine kr_bipush C 105 dX11_init_216 (by decide) ?_
  refine kr_newI C (N := 105) dX11_init_218 (by decide) (by decide) rfl rfl rfl (fun q218 => ?_)
  refine kr_eqw (w2 := (h0, .inr (11, [.ref q7, .ref q15, .ref q23, .int 0, .ref q31, .int 0, .int 0, .ref q39, .int 0, .int 0, .ref q47, .ref q55, .ref q63, .ref q72, .int 0, .int 0, .int 0, .int 0, .ref q80, .ref q88, .ref q96, .ref q105, .ref q114, .ref q122, .ref q129, .int 0, .int 0, .ref q137, .ref q144, .int 0, .int 0, .ref q153, .int 0, .ref q161, .int 0, .ref q169, .ref q177, .ref q185, .ref q194, .ref q202, .int 0, .int 0, .ref q210, .null, .null])) :: (v210 ++ [(q218, iA X.G 105)])) rfl ?_
  refine kr_gen (fun v218 e218 => ?_)
  refine kr_putF C hm (ci := 11) (n := 45) (f := 43) (Cn := RX11) (T := TX11) (ty := (.array .int)) [.ref q7, .ref q15, .ref q23, .int 0, .ref q31, .int 0, .int 0, .ref q39, .int 0, .int 0, .ref q47, .ref q55, .ref q63, .ref q72, .int 0, .int 0, .int 0, .int 0, .ref q80, .ref q88, .ref q96, .ref q105, .ref q114, .ref q122, .ref q129, .int 0, .int 0, .ref q137, .ref q144, .int 0, .int 0, .ref q153, .int 0, .ref q161, .int 0, .ref q169, .ref q177, .ref q185, .ref q194, .ref q202, .int 0, .int 0, .ref q210, .ref q218, .null] rfl in_X11 tyX11 tyX11_ok nmX11 (by decide) wd_1120 rfl rfl (by decide +kernel) rfl rfl (Nat.le_of_ble_eq_true rfl) rfl dX11_init_220 ?_
  refine kr_aload C dX11_init_223 rfl 0 rfl ?_
  refine kr_bipush C 105 dX11_init_224 (by decide) ?_
  refine kr_newI C (N := 105) dX11_init_226 (by decide) (by decide) rfl rfl rfl (fun q226 => ?_)
  refine kr_eqw (w2 := (h0, .inr (11, [.ref q7, .ref q15, .ref q23, .int 0, .ref q31, .int 0, .int 0, .ref q39, .int 0, .int 0, .ref q47, .ref q55, .ref q63, .ref q72, .int 0, .int 0, .int 0, .int 0, .ref q80, .ref q88, .ref q96, .ref q105, .ref q114, .ref q122, .ref q129, .int 0, .int 0, .ref q137, .ref q144, .int 0, .int 0, .ref q153, .int 0, .ref q161, .int 0, .ref q169, .ref q177, .ref q185, .ref q194, .ref q202, .int 0, .int 0, .ref q210, .ref q218, .null])) :: (v218 ++ [(q226, iA X.G 105)])) rfl ?_
  refine kr_gen (fun v226 e226 => ?_)
  refine kr_putF C hm (ci := 11) (n := 45) (f := 44) (Cn := RX11) (T := TX11) (ty := (.array .int)) [.ref q7, .ref q15, .ref q23, .int 0, .ref q31, .int 0, .int 0, .ref q39, .int 0, .int 0, .ref q47, .ref q55, .ref q63, .ref q72, .int 0, .int 0, .int 0, .int 0, .ref q80, .ref q88, .ref q96, .ref q105, .ref q114, .ref q122, .ref q129, .int 0, .int 0, .ref q137, .ref q144, .int 0, .int 0, .ref q153, .int 0, .ref q161, .int 0, .ref q169, .ref q177, .ref q185, .ref q194, .ref q202, .int 0, .int 0, .ref q210, .ref q218, .ref q226] rfl in_X11 tyX11 tyX11_ok nmX11 (by decide) wd_1121 rfl rfl (by decide +kernel) rfl rfl (Nat.le_of_ble_eq_true rfl) rfl dX11_init_228 ?_
  refine kr_iconst C 0 dX11_init_231 (by decide) ?_
  refine kr_istore C [(1, .int 0), (0, .ref h0)] dX11_init_232 rfl (by rw [hnl]; decide) rfl ?_
  have hv : v226 = [(q7, iA X.G 36), (q15, iA X.G 36), (q23, iA X.G 36), (q31, iA X.G 32), (q39, iA X.G 120), (q47, iA X.G 60), (q55, iA X.G 60), (q63, iA X.G 60), (q72, iA X.G 200), (q80, iA X.G 61), (q88, iA X.G 61), (q96, iA X.G 61), (q105, iA X.G 200), (q114, iA X.G 200), (q122, iA X.G 6), (q129, iA X.G 5), (q137, iA X.G 105), (q144, iA X.G 5), (q153, iA X.G 160), (q161, iA X.G 50), (q169, iA X.G 24), (q177, iA X.G 6), (q185, iA X.G 6), (q194, lA X.G 360), (q202, iA X.G 36), (q210, iA X.G 105), (q218, iA X.G 105), (q226, iA X.G 105)] := by simp only [e226, e218, e210, e202, e194, e185, e177, e169, e161, e153, e144, e137, e129, e122, e114, e105, e96, e88, e80, e72, e63, e55, e47, e39, e31, e23, e15, e7, List.nil_append, List.cons_append]
  have hj : v226[21]? = some (q177, .inl (X.G.2.1, 6, .inl (fun _ => 0))) := by rw [hv]; rfl
  have hs : v226.set 21 (q177, .inl (X.G.2.1, 6, .inl (flA (-1) (fun _ => 0) 6))) = [(q7, iA X.G 36), (q15, iA X.G 36), (q23, iA X.G 36), (q31, iA X.G 32), (q39, iA X.G 120), (q47, iA X.G 60), (q55, iA X.G 60), (q63, iA X.G 60), (q72, iA X.G 200), (q80, iA X.G 61), (q88, iA X.G 61), (q96, iA X.G 61), (q105, iA X.G 200), (q114, iA X.G 200), (q122, iA X.G 6), (q129, iA X.G 5), (q137, iA X.G 105), (q144, iA X.G 5), (q153, iA X.G 160), (q161, iA X.G 50), (q169, iA X.G 24), (q177, .inl (X.G.2.1, 6, .inl (flA (-1) (fun _ => 0) 6))), (q185, iA X.G 6), (q194, lA X.G 360), (q202, iA X.G 36), (q210, iA X.G 105), (q218, iA X.G 105), (q226, iA X.G 105)] := by rw [hv]; rfl
  refine ld_loop C hnl (j := 21) (hq := q177) rfl (by rw [hj, flA_0]) (fun lv => ?_)
  rw [hs]
  exact ret _ _ _ _ _ rfl rfl ⟨q7, q15, q23, q31, q39, q47, q55, q63, q72, q80, q88, q96, q105, q114, q122, q129, q137, q144, q153, q161, q169, q177, q185, q194, q202, q210, q218, q226, rfl⟩ dX11_init_252
