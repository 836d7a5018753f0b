/-! THE CONSTRUCTORS -/
theorem nst_6_11 : Cond.methodLinkNest RX6 11 yX5_init "LuckShoes" ∈ mk_nests := by unfold mk_nests; repeat (first | exact List.mem_cons_self | apply List.mem_cons_of_mem)
theorem nst_8_11 : Cond.methodLinkNest RX8 11 yX5_init "LuckShoes" ∈ mk_nests := by unfold mk_nests; repeat (first | exact List.mem_cons_self | apply List.mem_cons_of_mem)
theorem nst_9_20 : Cond.methodLinkNest RX9 20 yX5_init "LuckShoes" ∈ mk_nests := by unfold mk_nests; repeat (first | exact List.mem_cons_self | apply List.mem_cons_of_mem)
theorem nst_9_27 : Cond.methodLinkNest RX9 27 yX3_init "LuckShoes" ∈ mk_nests := by unfold mk_nests; repeat (first | exact List.mem_cons_self | apply List.mem_cons_of_mem)
theorem nst_10_9 : Cond.methodLinkNest RX10 9 yX9_init "LuckShoes" ∈ mk_nests := by unfold mk_nests; repeat (first | exact List.mem_cons_self | apply List.mem_cons_of_mem)
theorem nst_10_18 : Cond.methodLinkNest RX10 18 yX6_init "LuckShoes" ∈ mk_nests := by unfold mk_nests; repeat (first | exact List.mem_cons_self | apply List.mem_cons_of_mem)
theorem nst_10_25 : Cond.methodLinkNest RX10 25 yX8_init "LuckShoes" ∈ mk_nests := by unfold mk_nests; repeat (first | exact List.mem_cons_self | apply List.mem_cons_of_mem)
theorem nst_10_32 : Cond.methodLinkNest RX10 32 yX2_init "LuckShoes" ∈ mk_nests := by unfold mk_nests; repeat (first | exact List.mem_cons_self | apply List.mem_cons_of_mem)
theorem nst_10_39 : Cond.methodLinkNest RX10 39 yX1_init "LuckShoes" ∈ mk_nests := by unfold mk_nests; repeat (first | exact List.mem_cons_self | apply List.mem_cons_of_mem)
theorem nst_10_53 : Cond.methodLinkNest RX10 53 yX0_init "LuckShoes" ∈ mk_nests := by unfold mk_nests; repeat (first | exact List.mem_cons_self | apply List.mem_cons_of_mem)
theorem nst_10_64 : Cond.methodLinkNest RX10 64 yX5_init "LuckShoes" ∈ mk_nests := by unfold mk_nests; repeat (first | exact List.mem_cons_self | apply List.mem_cons_of_mem)
def p_X0 (G : Dg) (h : Nat) (w : va_W) : Prop := w = (h, .inr (0, [.long 0, .long 1, .int (-2)])) :: (([] : va_W))
set_option maxRecDepth 20000 in
set_option maxHeartbeats 4000000 in
theorem k_X0 (l : Launch) (G : Dg) : Mk l G yX0_init cX0_init 1 1 0 [.long 0, .long 0, .int 0] 0 0 (p_X0 G) := by
  refine mk_of (by decide) rfl rfl (fun X h0 hl hG hnl C hm ret => ?_)
  subst hl
  subst hG
  refine kr_aload C dX0_init_0 rfl 0 rfl ?_
  refine kr_obj (kc := 0) C wd_410 dX0_init_1 ?_
  refine kr_aload C dX0_init_4 rfl 0 rfl ?_
  refine kr_lconst C 0 dX0_init_5 (by decide) ?_
  refine kr_put C (ci := 0) (n := 3) (f := 0) (Cn := RX0) (T := TX0) (ty := .long) [.long 0, .long 0, .int 0] rfl in_X0 tyX0 tyX0_ok nmX0 (by decide) wd_411 rfl (by decide +kernel) rfl rfl (Nat.le_of_ble_eq_true rfl) rfl dX0_init_6 ?_
  refine kr_aload C dX0_init_9 rfl 0 rfl ?_
  refine kr_lconst C 1 dX0_init_10 (by decide) ?_
  refine kr_put C (ci := 0) (n := 3) (f := 1) (Cn := RX0) (T := TX0) (ty := .long) [.long 0, .long 1, .int 0] rfl in_X0 tyX0 tyX0_ok nmX0 (by decide) wd_413 rfl (by decide +kernel) rfl rfl (Nat.le_of_ble_eq_true rfl) rfl dX0_init_11 ?_
  refine kr_aload C dX0_init_14 rfl 0 rfl ?_
  refine kr_bipush C (-2) dX0_init_15 (by decide) ?_
  refine kr_put C (ci := 0) (n := 3) (f := 2) (Cn := RX0) (T := TX0) (ty := .int) [.long 0, .long 1, .int (-2)] rfl in_X0 tyX0 tyX0_ok nmX0 (by decide) wd_415 rfl (by decide +kernel) rfl rfl (Nat.le_of_ble_eq_true rfl) rfl dX0_init_17 ?_
  exact ret _ _ _ _ _ rfl rfl rfl dX0_init_20
def p_X1 (G : Dg) (h : Nat) (w : va_W) : Prop := ∃ q17 : Nat, ∃ q25 : Nat, w = (h, .inr (1, [.int 0, .int 0, .ref q17, .ref q25])) :: (([] : va_W) ++ [(q17, iA G 24)] ++ [(q25, iA G 50)])
set_option maxRecDepth 20000 in
set_option maxHeartbeats 4000000 in
theorem k_X1 (l : Launch) (G : Dg) : Mk l G yX1_init cX1_init 1 1 1 [.int 0, .int 0, .null, .null] 2 74 (p_X1 G) := by
  refine mk_of (by decide) rfl rfl (fun X h0 hl hG hnl C hm ret => ?_)
  subst hl
  subst hG
  refine kr_aload C dX1_init_0 rfl 0 rfl ?_
  refine kr_obj (kc := 0) C wd_365 dX1_init_1 ?_
  refine kr_aload C dX1_init_4 rfl 0 rfl ?_
  refine kr_iconst C 0 dX1_init_5 (by decide) ?_
  refine kr_put C (ci := 1) (n := 4) (f := 0) (Cn := RX1) (T := TX1) (ty := .int) [.int 0, .int 0, .null, .null] rfl in_X1 tyX1 tyX1_ok nmX1 (by decide) wd_366 rfl (by decide +kernel) rfl rfl (Nat.le_of_ble_eq_true rfl) rfl dX1_init_6 ?_
  refine kr_aload C dX1_init_9 rfl 0 rfl ?_
  refine kr_iconst C 0 dX1_init_10 (by decide) ?_
  refine kr_put C (ci := 1) (n := 4) (f := 1) (Cn := RX1) (T := TX1) (ty := .int) [.int 0, .int 0, .null, .null] rfl in_X1 tyX1 tyX1_ok nmX1 (by decide) wd_368 rfl (by decide +kernel) rfl rfl (Nat.le_of_ble_eq_true rfl) rfl dX1_init_11 ?_
  refine kr_aload C dX1_init_14 rfl 0 rfl ?_
  refine kr_bipush C 24 dX1_init_15 (by decide) ?_
  refine kr_newI C (N := 24) dX1_init_17 (by decide) (by decide) rfl rfl rfl (fun q17 => ?_)
  refine kr_eqw (w2 := (h0, .inr (1, [.int 0, .int 0, .null, .null])) :: (([] : va_W) ++ [(q17, iA X.G 24)])) rfl ?_
  refine kr_putF C hm (ci := 1) (n := 4) (f := 2) (Cn := RX1) (T := TX1) (ty := (.array .int)) [.int 0, .int 0, .ref q17, .null] rfl in_X1 tyX1 tyX1_ok nmX1 (by decide) wd_370 rfl rfl (by decide +kernel) rfl rfl (Nat.le_of_ble_eq_true rfl) rfl dX1_init_19 ?_
  refine kr_aload C dX1_init_22 rfl 0 rfl ?_
  refine kr_bipush C 50 dX1_init_23 (by decide) ?_
  refine kr_newI C (N := 50) dX1_init_25 (by decide) (by decide) rfl rfl rfl (fun q25 => ?_)
  refine kr_eqw (w2 := (h0, .inr (1, [.int 0, .int 0, .ref q17, .null])) :: (([] : va_W) ++ [(q17, iA X.G 24)] ++ [(q25, iA X.G 50)])) rfl ?_
  refine kr_putF C hm (ci := 1) (n := 4) (f := 3) (Cn := RX1) (T := TX1) (ty := (.array .int)) [.int 0, .int 0, .ref q17, .ref q25] rfl in_X1 tyX1 tyX1_ok nmX1 (by decide) wd_372 rfl rfl (by decide +kernel) rfl rfl (Nat.le_of_ble_eq_true rfl) rfl dX1_init_27 ?_
  exact ret _ _ _ _ _ rfl rfl ⟨q17, q25, rfl⟩ dX1_init_30
def p_X2 (G : Dg) (h : Nat) (w : va_W) : Prop := ∃ q7 : Nat, ∃ q15 : Nat, ∃ q23 : Nat, ∃ q31 : Nat, w = (h, .inr (2, [.ref q7, .ref q15, .ref q23, .ref q31, .int 0, .int 0])) :: (([] : va_W) ++ [(q7, iA G 40)] ++ [(q15, iA G 40)] ++ [(q23, iA G 40)] ++ [(q31, iA G 40)])
set_option maxRecDepth 20000 in
set_option maxHeartbeats 4000000 in
theorem k_X2 (l : Launch) (G : Dg) : Mk l G yX2_init cX2_init 1 1 2 [.null, .null, .null, .null, .int 0, .int 0] 4 160 (p_X2 G) := by
  refine mk_of (by decide) rfl rfl (fun X h0 hl hG hnl C hm ret => ?_)
  subst hl
  subst hG
  refine kr_aload C dX2_init_0 rfl 0 rfl ?_
  refine kr_obj (kc := 0) C wd_335 dX2_init_1 ?_
  refine kr_aload C dX2_init_4 rfl 0 rfl ?_
  refine kr_bipush C 40 dX2_init_5 (by decide) ?_
  refine kr_newI C (N := 40) dX2_init_7 (by decide) (by decide) rfl rfl rfl (fun q7 => ?_)
  refine kr_eqw (w2 := (h0, .inr (2, [.null, .null, .null, .null, .int 0, .int 0])) :: (([] : va_W) ++ [(q7, iA X.G 40)])) rfl ?_
  refine kr_putF C hm (ci := 2) (n := 6) (f := 0) (Cn := RX2) (T := TX2) (ty := (.array .int)) [.ref q7, .null, .null, .null, .int 0, .int 0] rfl in_X2 tyX2 tyX2_ok nmX2 (by decide) wd_336 rfl rfl (by decide +kernel) rfl rfl (Nat.le_of_ble_eq_true rfl) rfl dX2_init_9 ?_
  refine kr_aload C dX2_init_12 rfl 0 rfl ?_
  refine kr_bipush C 40 dX2_init_13 (by decide) ?_
  refine kr_newI C (N := 40) dX2_init_15 (by decide) (by decide) rfl rfl rfl (fun q15 => ?_)
  refine kr_eqw (w2 := (h0, .inr (2, [.ref q7, .null, .null, .null, .int 0, .int 0])) :: (([] : va_W) ++ [(q7, iA X.G 40)] ++ [(q15, iA X.G 40)])) rfl ?_
  refine kr_putF C hm (ci := 2) (n := 6) (f := 1) (Cn := RX2) (T := TX2) (ty := (.array .int)) [.ref q7, .ref q15, .null, .null, .int 0, .int 0] rfl in_X2 tyX2 tyX2_ok nmX2 (by decide) wd_338 rfl rfl (by decide +kernel) rfl rfl (Nat.le_of_ble_eq_true rfl) rfl dX2_init_17 ?_
  refine kr_aload C dX2_init_20 rfl 0 rfl ?_
  refine kr_bipush C 40 dX2_init_21 (by decide) ?_
  refine kr_newI C (N := 40) dX2_init_23 (by decide) (by decide) rfl rfl rfl (fun q23 => ?_)
  refine kr_eqw (w2 := (h0, .inr (2, [.ref q7, .ref q15, .null, .null, .int 0, .int 0])) :: (([] : va_W) ++ [(q7, iA X.G 40)] ++ [(q15, iA X.G 40)] ++ [(q23, iA X.G 40)])) rfl ?_
  refine kr_putF C hm (ci := 2) (n := 6) (f := 2) (Cn := RX2) (T := TX2) (ty := (.array .int)) [.ref q7, .ref q15, .ref q23, .null, .int 0, .int 0] rfl in_X2 tyX2 tyX2_ok nmX2 (by decide) wd_340 rfl rfl (by decide +kernel) rfl rfl (Nat.le_of_ble_eq_true rfl) rfl dX2_init_25 ?_
  refine kr_aload C dX2_init_28 rfl 0 rfl ?_
  refine kr_bipush C 40 dX2_init_29 (by decide) ?_
  refine kr_newI C (N := 40) dX2_init_31 (by decide) (by decide) rfl rfl rfl (fun q31 => ?_)
  refine kr_eqw (w2 := (h0, .inr (2, [.ref q7, .ref q15, .ref q23, .null, .int 0, .int 0])) :: (([] : va_W) ++ [(q7, iA X.G 40)] ++ [(q15, iA X.G 40)] ++ [(q23, iA X.G 40)] ++ [(q31, iA X.G 40)])) rfl ?_
  refine kr_putF C hm (ci := 2) (n := 6) (f := 3) (Cn := RX2) (T := TX2) (ty := (.array .int)) [.ref q7, .ref q15, .ref q23, .ref q31, .int 0, .int 0] rfl in_X2 tyX2 tyX2_ok nmX2 (by decide) wd_342 rfl rfl (by decide +kernel) rfl rfl (Nat.le_of_ble_eq_true rfl) rfl dX2_init_33 ?_
  refine kr_aload C dX2_init_36 rfl 0 rfl ?_
  refine kr_iconst C 0 dX2_init_37 (by decide) ?_
  refine kr_put C (ci := 2) (n := 6) (f := 4) (Cn := RX2) (T := TX2) (ty := .int) [.ref q7, .ref q15, .ref q23, .ref q31, .int 0, .int 0] rfl in_X2 tyX2 tyX2_ok nmX2 (by decide) wd_344 rfl (by decide +kernel) rfl rfl (Nat.le_of_ble_eq_true rfl) rfl dX2_init_38 ?_
  refine kr_aload C dX2_init_41 rfl 0 rfl ?_
  refine kr_iconst C 0 dX2_init_42 (by decide) ?_
  refine kr_put C (ci := 2) (n := 6) (f := 5) (Cn := RX2) (T := TX2) (ty := .int) [.ref q7, .ref q15, .ref q23, .ref q31, .int 0, .int 0] rfl in_X2 tyX2 tyX2_ok nmX2 (by decide) wd_346 rfl (by decide +kernel) rfl rfl (Nat.le_of_ble_eq_true rfl) rfl dX2_init_43 ?_
  exact ret _ _ _ _ _ rfl rfl ⟨q7, q15, q23, q31, rfl⟩ dX2_init_46
def p_X3 (G : Dg) (h : Nat) (w : va_W) : Prop := ∃ q12 : Nat, ∃ q26 : Nat, ∃ q40 : Nat, ∃ q53 : Nat, w = (h, .inr (3, [.int 0, .ref q12, .int 0, .ref q26, .int 0, .ref q40, .int 0, .ref q53, .int 0, .int 0, .int 0, .int 0, .int 0, .int 0])) :: (([] : va_W) ++ [(q12, iA G 120)] ++ [(q26, iA G 240)] ++ [(q40, iA G 240)] ++ [(q53, iA G 120)])
set_option maxRecDepth 20000 in
set_option maxHeartbeats 4000000 in
theorem k_X3 (l : Launch) (G : Dg) : Mk l G yX3_init cX3_init 1 1 3 [.int 0, .null, .int 0, .null, .int 0, .null, .int 0, .null, .int 0, .int 0, .int 0, .int 0, .int 0, .int 0] 4 720 (p_X3 G) := by
  refine mk_of (by decide) rfl rfl (fun X h0 hl hG hnl C hm ret => ?_)
  subst hl
  subst hG
  refine kr_aload C dX3_init_0 rfl 0 rfl ?_
  refine kr_obj (kc := 0) C wd_205 dX3_init_1 ?_
  refine kr_aload C dX3_init_4 rfl 0 rfl ?_
  refine kr_iconst C 0 dX3_init_5 (by decide) ?_
  refine kr_put C (ci := 3) (n := 14) (f := 0) (Cn := RX3) (T := TX3) (ty := .int) [.int 0, .null, .int 0, .null, .int 0, .null, .int 0, .null, .int 0, .int 0, .int 0, .int 0, .int 0, .int 0] rfl in_X3 tyX3 tyX3_ok nmX3 (by decide) wd_206 rfl (by decide +kernel) rfl rfl (Nat.le_of_ble_eq_true rfl) rfl dX3_init_6 ?_
  refine kr_aload C dX3_init_9 rfl 0 rfl ?_
  refine kr_bipush C 120 dX3_init_10 (by decide) ?_
  refine kr_newI C (N := 120) dX3_init_12 (by decide) (by decide) rfl rfl rfl (fun q12 => ?_)
  refine kr_eqw (w2 := (h0, .inr (3, [.int 0, .null, .int 0, .null, .int 0, .null, .int 0, .null, .int 0, .int 0, .int 0, .int 0, .int 0, .int 0])) :: (([] : va_W) ++ [(q12, iA X.G 120)])) rfl ?_
  refine kr_putF C hm (ci := 3) (n := 14) (f := 1) (Cn := RX3) (T := TX3) (ty := (.array .int)) [.int 0, .ref q12, .int 0, .null, .int 0, .null, .int 0, .null, .int 0, .int 0, .int 0, .int 0, .int 0, .int 0] rfl in_X3 tyX3 tyX3_ok nmX3 (by decide) wd_208 rfl rfl (by decide +kernel) rfl rfl (Nat.le_of_ble_eq_true rfl) rfl dX3_init_14 ?_
  refine kr_aload C dX3_init_17 rfl 0 rfl ?_
  refine kr_iconst C 0 dX3_init_18 (by decide) ?_
  refine kr_put C (ci := 3) (n := 14) (f := 2) (Cn := RX3) (T := TX3) (ty := .int) [.int 0, .ref q12, .int 0, .null, .int 0, .null, .int 0, .null, .int 0, .int 0, .int 0, .int 0, .int 0, .int 0] rfl in_X3 tyX3 tyX3_ok nmX3 (by decide) wd_209 rfl (by decide +kernel) rfl rfl (Nat.le_of_ble_eq_true rfl) rfl dX3_init_19 ?_
  refine kr_aload C dX3_init_22 rfl 0 rfl ?_
  refine kr_sipush C 240 dX3_init_23 (by decide) ?_
  refine kr_newI C (N := 240) dX3_init_26 (by decide) (by decide) rfl rfl rfl (fun q26 => ?_)
  refine kr_eqw (w2 := (h0, .inr (3, [.int 0, .ref q12, .int 0, .null, .int 0, .null, .int 0, .null, .int 0, .int 0, .int 0, .int 0, .int 0, .int 0])) :: (([] : va_W) ++ [(q12, iA X.G 120)] ++ [(q26, iA X.G 240)])) rfl ?_
  refine kr_put C (ci := 3) (n := 14) (f := 3) (Cn := RX3) (T := TX3) (ty := (.array .int)) [.int 0, .ref q12, .int 0, .ref q26, .int 0, .null, .int 0, .null, .int 0, .int 0, .int 0, .int 0, .int 0, .int 0] rfl in_X3 tyX3 tyX3_ok nmX3 (by decide) wd_210 rfl (by decide +kernel) rfl rfl (Nat.le_of_ble_eq_true rfl) rfl dX3_init_28 ?_
  refine kr_aload C dX3_init_31 rfl 0 rfl ?_
  refine kr_iconst C 0 dX3_init_32 (by decide) ?_
  refine kr_put C (ci := 3) (n := 14) (f := 4) (Cn := RX3) (T := TX3) (ty := .int) [.int 0, .ref q12, .int 0, .ref q26, .int 0, .null, .int 0, .null, .int 0, .int 0, .int 0, .int 0, .int 0, .int 0] rfl in_X3 tyX3 tyX3_ok nmX3 (by decide) wd_211 rfl (by decide +kernel) rfl rfl (Nat.le_of_ble_eq_true rfl) rfl dX3_init_33 ?_
  refine kr_aload C dX3_init_36 rfl 0 rfl ?_
  refine kr_sipush C 240 dX3_init_37 (by decide) ?_
  refine kr_newI C (N := 240) dX3_init_40 (by decide) (by decide) rfl rfl rfl (fun q40 => ?_)
  refine kr_eqw (w2 := (h0, .inr (3, [.int 0, .ref q12, .int 0, .ref q26, .int 0, .null, .int 0, .null, .int 0, .int 0, .int 0, .int 0, .int 0, .int 0])) :: (([] : va_W) ++ [(q12, iA X.G 120)] ++ [(q26, iA X.G 240)] ++ [(q40, iA X.G 240)])) rfl ?_
  refine kr_put C (ci := 3) (n := 14) (f := 5) (Cn := RX3) (T := TX3) (ty := (.array .int)) [.int 0, .ref q12, .int 0, .ref q26, .int 0, .ref q40, .int 0, .null, .int 0, .int 0, .int 0, .int 0, .int 0, .int 0] rfl in_X3 tyX3 tyX3_ok nmX3 (by decide) wd_212 rfl (by decide +kernel) rfl rfl (Nat.le_of_ble_eq_true rfl) rfl dX3_init_42 ?_
  refine kr_aload C dX3_init_45 rfl 0 rfl ?_
  refine kr_iconst C 0 dX3_init_46 (by decide) ?_
  refine kr_put C (ci := 3) (n := 14) (f := 6) (Cn := RX3) (T := TX3) (ty := .int) [.int 0, .ref q12, .int 0, .ref q26, .int 0, .ref q40, .int 0, .null, .int 0, .int 0, .int 0, .int 0, .int 0, .int 0] rfl in_X3 tyX3 tyX3_ok nmX3 (by decide) wd_213 rfl (by decide +kernel) rfl rfl (Nat.le_of_ble_eq_true rfl) rfl dX3_init_47 ?_
  refine kr_aload C dX3_init_50 rfl 0 rfl ?_
  refine kr_bipush C 120 dX3_init_51 (by decide) ?_
  refine kr_newI C (N := 120) dX3_init_53 (by decide) (by decide) rfl rfl rfl (fun q53 => ?_)
  refine kr_eqw (w2 := (h0, .inr (3, [.int 0, .ref q12, .int 0, .ref q26, .int 0, .ref q40, .int 0, .null, .int 0, .int 0, .int 0, .int 0, .int 0, .int 0])) :: (([] : va_W) ++ [(q12, iA X.G 120)] ++ [(q26, iA X.G 240)] ++ [(q40, iA X.G 240)] ++ [(q53, iA X.G 120)])) rfl ?_
  refine kr_putF C hm (ci := 3) (n := 14) (f := 7) (Cn := RX3) (T := TX3) (ty := (.array .int)) [.int 0, .ref q12, .int 0, .ref q26, .int 0, .ref q40, .int 0, .ref q53, .int 0, .int 0, .int 0, .int 0, .int 0, .int 0] rfl in_X3 tyX3 tyX3_ok nmX3 (by decide) wd_214 rfl rfl (by decide +kernel) rfl rfl (Nat.le_of_ble_eq_true rfl) rfl dX3_init_55 ?_
  refine kr_aload C dX3_init_58 rfl 0 rfl ?_
  refine kr_iconst C 0 dX3_init_59 (by decide) ?_
  refine kr_put C (ci := 3) (n := 14) (f := 8) (Cn := RX3) (T := TX3) (ty := .int) [.int 0, .ref q12, .int 0, .ref q26, .int 0, .ref q40, .int 0, .ref q53, .int 0, .int 0, .int 0, .int 0, .int 0, .int 0] rfl in_X3 tyX3 tyX3_ok nmX3 (by decide) wd_215 rfl (by decide +kernel) rfl rfl (Nat.le_of_ble_eq_true rfl) rfl dX3_init_60 ?_
  refine kr_aload C dX3_init_63 rfl 0 rfl ?_
  refine kr_iconst C 0 dX3_init_64 (by decide) ?_
  refine kr_put C (ci := 3) (n := 14) (f := 9) (Cn := RX3) (T := TX3) (ty := .int) [.int 0, .ref q12, .int 0, .ref q26, .int 0, .ref q40, .int 0, .ref q53, .int 0, .int 0, .int 0, .int 0, .int 0, .int 0] rfl in_X3 tyX3 tyX3_ok nmX3 (by decide) wd_216 rfl (by decide +kernel) rfl rfl (Nat.le_of_ble_eq_true rfl) rfl dX3_init_65 ?_
  refine kr_aload C dX3_init_68 rfl 0 rfl ?_
  refine kr_iconst C 0 dX3_init_69 (by decide) ?_
  refine kr_put C (ci := 3) (n := 14) (f := 10) (Cn := RX3) (T := TX3) (ty := .int) [.int 0, .ref q12, .int 0, .ref q26, .int 0, .ref q40, .int 0, .ref q53, .int 0, .int 0, .int 0, .int 0, .int 0, .int 0] rfl in_X3 tyX3 tyX3_ok nmX3 (by decide) wd_217 rfl (by decide +kernel) rfl rfl (Nat.le_of_ble_eq_true rfl) rfl dX3_init_70 ?_
  refine kr_aload C dX3_init_73 rfl 0 rfl ?_
  refine kr_iconst C 0 dX3_init_74 (by decide) ?_
  refine kr_put C (ci := 3) (n := 14) (f := 11) (Cn := RX3) (T := TX3) (ty := .int) [.int 0, .ref q12, .int 0, .ref q26, .int 0, .ref q40, .int 0, .ref q53, .int 0, .int 0, .int 0, .int 0, .int 0, .int 0] rfl in_X3 tyX3 tyX3_ok nmX3 (by decide) wd_218 rfl (by decide +kernel) rfl rfl (Nat.le_of_ble_eq_true rfl) rfl dX3_init_75 ?_
  refine kr_aload C dX3_init_78 rfl 0 rfl ?_
  refine kr_iconst C 0 dX3_init_79 (by decide) ?_
  refine kr_put C (ci := 3) (n := 14) (f := 12) (Cn := RX3) (T := TX3) (ty := .int) [.int 0, .ref q12, .int 0, .ref q26, .int 0, .ref q40, .int 0, .ref q53, .int 0, .int 0, .int 0, .int 0, .int 0, .int 0] rfl in_X3 tyX3 tyX3_ok nmX3 (by decide) wd_219 rfl (by decide +kernel) rfl rfl (Nat.le_of_ble_eq_true rfl) rfl dX3_init_80 ?_
  refine kr_aload C dX3_init_83 rfl 0 rfl ?_
  refine kr_iconst C 0 dX3_init_84 (by decide) ?_
  refine kr_put C (ci := 3) (n := 14) (f := 13) (Cn := RX3) (T := TX3) (ty := .int) [.int 0, .ref q12, .int 0, .ref q26, .int 0, .ref q40, .int 0, .ref q53, .int 0, .int 0, .int 0, .int 0, .int 0, .int 0] rfl in_X3 tyX3 tyX3_ok nmX3 (by decide) wd_220 rfl (by decide +kernel) rfl rfl (Nat.le_of_ble_eq_true rfl) rfl dX3_init_85 ?_
  exact ret _ _ _ _ _ rfl rfl ⟨q12, q26, q40, q53, rfl⟩ dX3_init_88
def p_X4 (G : Dg) (h : Nat) (w : va_W) : Prop := ∃ q7 : Nat, ∃ q15 : Nat, ∃ q25 : Nat, w = (h, .inr (4, [.ref q7, .ref q15, .ref q25])) :: ([(q15, iA G 6), (q25, .inl (G.2.2.2, 6, .inr (.inr (.inr (.inr (fun i => some (q25 + 1 + i))))))), (q25 + 1, lA G 60), (q25 + 2, lA G 60), (q25 + 3, lA G 60), (q25 + 4, lA G 60), (q25 + 5, lA G 60), (q25 + 6, lA G 60), (q7, .inl (G.2.1, 6, .inl (flA (-1) (fun _ => 0) 6)))])
set_option maxRecDepth 20000 in
set_option maxHeartbeats 4000000 in
theorem k_X4 (l : Launch) (G : Dg) : Mk l G yX4_init cX4_init 1 1 4 [.null, .null, .null] 9 378 (p_X4 G) := by
  refine mk_of (by decide) rfl rfl (fun X h0 hl hG hnl C hm ret => ?_)
  subst hl
  subst hG
  refine kr_aload C dX4_init_0 rfl 0 rfl ?_
  refine kr_obj (kc := 0) C wd_387 dX4_init_1 ?_
  refine kr_aload C dX4_init_4 rfl 0 rfl ?_
  refine kr_bipush C 6 dX4_init_5 (by decide) ?_
  refine kr_newI C (N := 6) dX4_init_7 (by decide) (by decide) rfl rfl rfl (fun q7 => ?_)
  refine kr_eqw (w2 := (h0, .inr (4, [.null, .null, .null])) :: (([] : va_W) ++ [(q7, iA X.G 6)])) rfl ?_
  refine kr_putF C hm (ci := 4) (n := 3) (f := 0) (Cn := RX4) (T := TX4) (ty := (.array .int)) [.ref q7, .null, .null] rfl in_X4 tyX4 tyX4_ok nmX4 (by decide) wd_391 rfl rfl (by decide +kernel) rfl rfl (Nat.le_of_ble_eq_true rfl) rfl dX4_init_9 ?_
  refine kr_aload C dX4_init_12 rfl 0 rfl ?_
  refine kr_bipush C 6 dX4_init_13 (by decide) ?_
  refine kr_newI C (N := 6) dX4_init_15 (by decide) (by decide) rfl rfl rfl (fun q15 => ?_)
  refine kr_eqw (w2 := (h0, .inr (4, [.ref q7, .null, .null])) :: (([] : va_W) ++ [(q7, iA X.G 6)] ++ [(q15, iA X.G 6)])) rfl ?_
  refine kr_putF C hm (ci := 4) (n := 3) (f := 1) (Cn := RX4) (T := TX4) (ty := (.array .int)) [.ref q7, .ref q15, .null] rfl in_X4 tyX4 tyX4_ok nmX4 (by decide) wd_393 rfl rfl (by decide +kernel) rfl rfl (Nat.le_of_ble_eq_true rfl) rfl dX4_init_17 ?_
  refine kr_aload C dX4_init_20 rfl 0 rfl ?_
  refine kr_bipush C 6 dX4_init_21 (by decide) ?_
  refine kr_bipush C 60 dX4_init_23 (by decide) ?_
  refine kr_grid C wd_388 rfl rfl dX4_init_25 (fun q25 => ?_)
  refine kr_eqw (w2 := (h0, .inr (4, [.ref q7, .ref q15, .null])) :: (([] : va_W) ++ [(q7, iA X.G 6)] ++ [(q15, iA X.G 6)] ++ [(q25, .inl (X.G.2.2.2, 6, .inr (.inr (.inr (.inr (fun i => some (q25 + 1 + i))))))), (q25 + 1, lA X.G 60), (q25 + 2, lA X.G 60), (q25 + 3, lA X.G 60), (q25 + 4, lA X.G 60), (q25 + 5, lA X.G 60), (q25 + 6, lA X.G 60)])) rfl ?_
  refine kr_putF C hm (ci := 4) (n := 3) (f := 2) (Cn := RX4) (T := TX4) (ty := (.array (.array .long))) [.ref q7, .ref q15, .ref q25] rfl in_X4 tyX4 tyX4_ok nmX4 (by decide) wd_395 rfl rfl (by decide +kernel) rfl rfl (Nat.le_of_ble_eq_true rfl) rfl dX4_init_29 ?_
  refine kr_aload C dX4_init_32 rfl 0 rfl ?_
  refine kr_get C (ci := 4) (n := 3) (f := 0) (Cn := RX4) (T := TX4) rfl in_X4 (by decide) wd_391 rfl dX4_init_33 ?_
  refine kr_iconst C (-1) dX4_init_36 (by decide) ?_
  refine kr_fill (kc := 0) C (n := 6) (f := fun _ => 0) (v := (-1)) 1 [0, 2, 3, 4, 5, 6, 7, 8, 9] ((h0, .inr (4, [.ref q7, .ref q15, .ref q25])) :: [(q15, iA X.G 6), (q25, .inl (X.G.2.2.2, 6, .inr (.inr (.inr (.inr (fun i => some (q25 + 1 + i))))))), (q25 + 1, lA X.G 60), (q25 + 2, lA X.G 60), (q25 + 3, lA X.G 60), (q25 + 4, lA X.G 60), (q25 + 5, lA X.G 60), (q25 + 6, lA X.G 60)]) rfl rfl (by decide) (by decide) (by decide) wd_390 rfl (by decide) (by decide) dX4_init_37 ?_
  refine kr_eqw (w2 := (h0, .inr (4, [.ref q7, .ref q15, .ref q25])) :: ([(q15, iA X.G 6), (q25, .inl (X.G.2.2.2, 6, .inr (.inr (.inr (.inr (fun i => some (q25 + 1 + i))))))), (q25 + 1, lA X.G 60), (q25 + 2, lA X.G 60), (q25 + 3, lA X.G 60), (q25 + 4, lA X.G 60), (q25 + 5, lA X.G 60), (q25 + 6, lA X.G 60), (q7, .inl (X.G.2.1, 6, .inl (flA (-1) (fun _ => 0) 6)))])) rfl ?_
  exact ret _ _ _ _ _ rfl rfl ⟨q7, q15, q25, rfl⟩ dX4_init_40
def p_X5 (G : Dg) (h : Nat) (w : va_W) : Prop := ∃ q7 : Nat, ∃ q15 : Nat, ∃ q23 : Nat, ∃ q31 : Nat, ∃ q59 : Nat, w = (h, .inr (5, [.ref q7, .ref q15, .ref q23, .ref q31, .int 0, .int 0, .int 0, .int 0, .ref q59])) :: (([] : va_W) ++ [(q7, iA G 36)] ++ [(q15, iA G 36)] ++ [(q23, iA G 8)] ++ [(q31, iA G 8)] ++ [(q59, iA G 36)])
set_option maxRecDepth 20000 in
set_option maxHeartbeats 4000000 in
theorem k_X5 (l : Launch) (G : Dg) : Mk l G yX5_init cX5_init 1 1 5 [.null, .null, .null, .null, .int 0, .int 0, .int 0, .int 0, .null] 5 124 (p_X5 G) := by
  refine mk_of (by decide) rfl rfl (fun X h0 hl hG hnl C hm ret => ?_)
  subst hl
  subst hG
  refine kr_aload C dX5_init_0 rfl 0 rfl ?_
  refine kr_obj (kc := 0) C wd_152 dX5_init_1 ?_
  refine kr_aload C dX5_init_4 rfl 0 rfl ?_
  refine kr_bipush C 36 dX5_init_5 (by decide) ?_
  refine kr_newI C (N := 36) dX5_init_7 (by decide) (by decide) rfl rfl rfl (fun q7 => ?_)
  refine kr_eqw (w2 := (h0, .inr (5, [.null, .null, .null, .null, .int 0, .int 0, .int 0, .int 0, .null])) :: (([] : va_W) ++ [(q7, iA X.G 36)])) rfl ?_
  refine kr_putF C hm (ci := 5) (n := 9) (f := 0) (Cn := RX5) (T := TX5) (ty := (.array .int)) [.ref q7, .null, .null, .null, .int 0, .int 0, .int 0, .int 0, .null] rfl in_X5 tyX5 tyX5_ok nmX5 (by decide) wd_153 rfl rfl (by decide +kernel) rfl rfl (Nat.le_of_ble_eq_true rfl) rfl dX5_init_9 ?_
  refine kr_aload C dX5_init_12 rfl 0 rfl ?_
  refine kr_bipush C 36 dX5_init_13 (by decide) ?_
  refine kr_newI C (N := 36) dX5_init_15 (by decide) (by decide) rfl rfl rfl (fun q15 => ?_)
  refine kr_eqw (w2 := (h0, .inr (5, [.ref q7, .null, .null, .null, .int 0, .int 0, .int 0, .int 0, .null])) :: (([] : va_W) ++ [(q7, iA X.G 36)] ++ [(q15, iA X.G 36)])) rfl ?_
  refine kr_putF C hm (ci := 5) (n := 9) (f := 1) (Cn := RX5) (T := TX5) (ty := (.array .int)) [.ref q7, .ref q15, .null, .null, .int 0, .int 0, .int 0, .int 0, .null] rfl in_X5 tyX5 tyX5_ok nmX5 (by decide) wd_157 rfl rfl (by decide +kernel) rfl rfl (Nat.le_of_ble_eq_true rfl) rfl dX5_init_17 ?_
  refine kr_aload C dX5_init_20 rfl 0 rfl ?_
  refine kr_bipush C 8 dX5_init_21 (by decide) ?_
  refine kr_newI C (N := 8) dX5_init_23 (by decide) (by decide) rfl rfl rfl (fun q23 => ?_)
  refine kr_eqw (w2 := (h0, .inr (5, [.ref q7, .ref q15, .null, .null, .int 0, .int 0, .int 0, .int 0, .null])) :: (([] : va_W) ++ [(q7, iA X.G 36)] ++ [(q15, iA X.G 36)] ++ [(q23, iA X.G 8)])) rfl ?_
  refine kr_putF C hm (ci := 5) (n := 9) (f := 2) (Cn := RX5) (T := TX5) (ty := (.array .int)) [.ref q7, .ref q15, .ref q23, .null, .int 0, .int 0, .int 0, .int 0, .null] rfl in_X5 tyX5 tyX5_ok nmX5 (by decide) wd_162 rfl rfl (by decide +kernel) rfl rfl (Nat.le_of_ble_eq_true rfl) rfl dX5_init_25 ?_
  refine kr_aload C dX5_init_28 rfl 0 rfl ?_
  refine kr_bipush C 8 dX5_init_29 (by decide) ?_
  refine kr_newI C (N := 8) dX5_init_31 (by decide) (by decide) rfl rfl rfl (fun q31 => ?_)
  refine kr_eqw (w2 := (h0, .inr (5, [.ref q7, .ref q15, .ref q23, .null, .int 0, .int 0, .int 0, .int 0, .null])) :: (([] : va_W) ++ [(q7, iA X.G 36)] ++ [(q15, iA X.G 36)] ++ [(q23, iA X.G 8)] ++ [(q31, iA X.G 8)])) rfl ?_
  refine kr_putF C hm (ci := 5) (n := 9) (f := 3) (Cn := RX5) (T := TX5) (ty := (.array .int)) [.ref q7, .ref q15, .ref q23, .ref q31, .int 0, .int 0, .int 0, .int 0, .null] rfl in_X5 tyX5 tyX5_ok nmX5 (by decide) wd_167 rfl rfl (by decide +kernel) rfl rfl (Nat.le_of_ble_eq_true rfl) rfl dX5_init_33 ?_
  refine kr_aload C dX5_init_36 rfl 0 rfl ?_
  refine kr_iconst C 0 dX5_init_37 (by decide) ?_
  refine kr_put C (ci := 5) (n := 9) (f := 4) (Cn := RX5) (T := TX5) (ty := .int) [.ref q7, .ref q15, .ref q23, .ref q31, .int 0, .int 0, .int 0, .int 0, .null] rfl in_X5 tyX5 tyX5_ok nmX5 (by decide) wd_172 rfl (by decide +kernel) rfl rfl (Nat.le_of_ble_eq_true rfl) rfl dX5_init_38 ?_
  refine kr_aload C dX5_init_41 rfl 0 rfl ?_
  refine kr_iconst C 0 dX5_init_42 (by decide) ?_
  refine kr_put C (ci := 5) (n := 9) (f := 5) (Cn := RX5) (T := TX5) (ty := .int) [.ref q7, .ref q15, .ref q23, .ref q31, .int 0, .int 0, .int 0, .int 0, .null] rfl in_X5 tyX5 tyX5_ok nmX5 (by decide) wd_174 rfl (by decide +kernel) rfl rfl (Nat.le_of_ble_eq_true rfl) rfl dX5_init_43 ?_
  refine kr_aload C dX5_init_46 rfl 0 rfl ?_
  refine kr_iconst C 0 dX5_init_47 (by decide) ?_
  refine kr_put C (ci := 5) (n := 9) (f := 6) (Cn := RX5) (T := TX5) (ty := .int) [.ref q7, .ref q15, .ref q23, .ref q31, .int 0, .int 0, .int 0, .int 0, .null] rfl in_X5 tyX5 tyX5_ok nmX5 (by decide) wd_176 rfl (by decide +kernel) rfl rfl (Nat.le_of_ble_eq_true rfl) rfl dX5_init_48 ?_
  refine kr_aload C dX5_init_51 rfl 0 rfl ?_
  refine kr_iconst C 0 dX5_init_52 (by decide) ?_
  refine kr_put C (ci := 5) (n := 9) (f := 7) (Cn := RX5) (T := TX5) (ty := .boolean) [.ref q7, .ref q15, .ref q23, .ref q31, .int 0, .int 0, .int 0, .int 0, .null] rfl in_X5 tyX5 tyX5_ok nmX5 (by decide) wd_178 rfl (by decide +kernel) rfl rfl (Nat.le_of_ble_eq_true rfl) rfl dX5_init_53 ?_
  refine kr_aload C dX5_init_56 rfl 0 rfl ?_
  refine kr_bipush C 36 dX5_init_57 (by decide) ?_
  refine kr_newI C (N := 36) dX5_init_59 (by decide) (by decide) rfl rfl rfl (fun q59 => ?_)
  refine kr_eqw (w2 := (h0, .inr (5, [.ref q7, .ref q15, .ref q23, .ref q31, .int 0, .int 0, .int 0, .int 0, .null])) :: (([] : va_W) ++ [(q7, iA X.G 36)] ++ [(q15, iA X.G 36)] ++ [(q23, iA X.G 8)] ++ [(q31, iA X.G 8)] ++ [(q59, iA X.G 36)])) rfl ?_
  refine kr_putF C hm (ci := 5) (n := 9) (f := 8) (Cn := RX5) (T := TX5) (ty := (.array .int)) [.ref q7, .ref q15, .ref q23, .ref q31, .int 0, .int 0, .int 0, .int 0, .ref q59] rfl in_X5 tyX5 tyX5_ok nmX5 (by decide) wd_180 rfl rfl (by decide +kernel) rfl rfl (Nat.le_of_ble_eq_true rfl) rfl dX5_init_61 ?_
  exact ret _ _ _ _ _ rfl rfl ⟨q7, q15, q23, q31, q59, rfl⟩ dX5_init_64
def p_X7 (G : Dg) (h : Nat) (w : va_W) : Prop := ∃ q7 : Nat, ∃ q15 : Nat, ∃ q23 : Nat, ∃ q31 : Nat, w = (h, .inr (7, [.ref q7, .ref q15, .ref q23, .ref q31, .int 0])) :: ([(q7, iA G 36), (q23, iA G 8), (q31, iA G 8), (q15, .inl (G.2.1, 36, .inl (flA (-1) (fun _ => 0) 36)))])
set_option maxRecDepth 20000 in
set_option maxHeartbeats 4000000 in
theorem k_X7 (l : Launch) (G : Dg) : Mk l G yX7_init cX7_init 1 1 7 [.null, .null, .null, .null, .int 0] 4 88 (p_X7 G) := by
  refine mk_of (by decide) rfl rfl (fun X h0 hl hG hnl C hm ret => ?_)
  subst hl
  subst hG
  refine kr_aload C dX7_init_0 rfl 0 rfl ?_
  refine kr_obj (kc := 0) C wd_114 dX7_init_1 ?_
  refine kr_aload C dX7_init_4 rfl 0 rfl ?_
  refine kr_bipush C 36 dX7_init_5 (by decide) ?_
  refine kr_newI C (N := 36) dX7_init_7 (by decide) (by decide) rfl rfl rfl (fun q7 => ?_)
  refine kr_eqw (w2 := (h0, .inr (7, [.null, .null, .null, .null, .int 0])) :: (([] : va_W) ++ [(q7, iA X.G 36)])) rfl ?_
  refine kr_putF C hm (ci := 7) (n := 5) (f := 0) (Cn := RX7) (T := TX7) (ty := (.array .int)) [.ref q7, .null, .null, .null, .int 0] rfl in_X7 tyX7 tyX7_ok nmX7 (by decide) wd_118 rfl rfl (by decide +kernel) rfl rfl (Nat.le_of_ble_eq_true rfl) rfl dX7_init_9 ?_
  refine kr_aload C dX7_init_12 rfl 0 rfl ?_
  refine kr_bipush C 36 dX7_init_13 (by decide) ?_
  refine kr_newI C (N := 36) dX7_init_15 (by decide) (by decide) rfl rfl rfl (fun q15 => ?_)
  refine kr_eqw (w2 := (h0, .inr (7, [.ref q7, .null, .null, .null, .int 0])) :: (([] : va_W) ++ [(q7, iA X.G 36)] ++ [(q15, iA X.G 36)])) rfl ?_
  refine kr_putF C hm (ci := 7) (n := 5) (f := 1) (Cn := RX7) (T := TX7) (ty := (.array .int)) [.ref q7, .ref q15, .null, .null, .int 0] rfl in_X7 tyX7 tyX7_ok nmX7 (by decide) wd_121 rfl rfl (by decide +kernel) rfl rfl (Nat.le_of_ble_eq_true rfl) rfl dX7_init_17 ?_
  refine kr_aload C dX7_init_20 rfl 0 rfl ?_
  refine kr_bipush C 8 dX7_init_21 (by decide) ?_
  refine kr_newI C (N := 8) dX7_init_23 (by decide) (by decide) rfl rfl rfl (fun q23 => ?_)
  refine kr_eqw (w2 := (h0, .inr (7, [.ref q7, .ref q15, .null, .null, .int 0])) :: (([] : va_W) ++ [(q7, iA X.G 36)] ++ [(q15, iA X.G 36)] ++ [(q23, iA X.G 8)])) rfl ?_
  refine kr_putF C hm (ci := 7) (n := 5) (f := 2) (Cn := RX7) (T := TX7) (ty := (.array .int)) [.ref q7, .ref q15, .ref q23, .null, .int 0] rfl in_X7 tyX7 tyX7_ok nmX7 (by decide) wd_123 rfl rfl (by decide +kernel) rfl rfl (Nat.le_of_ble_eq_true rfl) rfl dX7_init_25 ?_
  refine kr_aload C dX7_init_28 rfl 0 rfl ?_
  refine kr_bipush C 8 dX7_init_29 (by decide) ?_
  refine kr_newI C (N := 8) dX7_init_31 (by decide) (by decide) rfl rfl rfl (fun q31 => ?_)
  refine kr_eqw (w2 := (h0, .inr (7, [.ref q7, .ref q15, .ref q23, .null, .int 0])) :: (([] : va_W) ++ [(q7, iA X.G 36)] ++ [(q15, iA X.G 36)] ++ [(q23, iA X.G 8)] ++ [(q31, iA X.G 8)])) rfl ?_
  refine kr_putF C hm (ci := 7) (n := 5) (f := 3) (Cn := RX7) (T := TX7) (ty := (.array .int)) [.ref q7, .ref q15, .ref q23, .ref q31, .int 0] rfl in_X7 tyX7 tyX7_ok nmX7 (by decide) wd_126 rfl rfl (by decide +kernel) rfl rfl (Nat.le_of_ble_eq_true rfl) rfl dX7_init_33 ?_
  refine kr_aload C dX7_init_36 rfl 0 rfl ?_
  refine kr_iconst C 0 dX7_init_37 (by decide) ?_
  refine kr_put C (ci := 7) (n := 5) (f := 4) (Cn := RX7) (T := TX7) (ty := .int) [.ref q7, .ref q15, .ref q23, .ref q31, .int 0] rfl in_X7 tyX7 tyX7_ok nmX7 (by decide) wd_129 rfl (by decide +kernel) rfl rfl (Nat.le_of_ble_eq_true rfl) rfl dX7_init_38 ?_
  refine kr_aload C dX7_init_41 rfl 0 rfl ?_
  refine kr_get C (ci := 7) (n := 5) (f := 1) (Cn := RX7) (T := TX7) rfl in_X7 (by decide) wd_121 rfl dX7_init_42 ?_
  refine kr_iconst C (-1) dX7_init_45 (by decide) ?_
  refine kr_fill (kc := 0) C (n := 36) (f := fun _ => 0) (v := (-1)) 2 [0, 1, 3, 4] ((h0, .inr (7, [.ref q7, .ref q15, .ref q23, .ref q31, .int 0])) :: [(q7, iA X.G 36), (q23, iA X.G 8), (q31, iA X.G 8)]) rfl rfl (by decide) (by decide) (by decide) wd_115 rfl (by decide) (by decide) dX7_init_46 ?_
  refine kr_eqw (w2 := (h0, .inr (7, [.ref q7, .ref q15, .ref q23, .ref q31, .int 0])) :: ([(q7, iA X.G 36), (q23, iA X.G 8), (q31, iA X.G 8), (q15, .inl (X.G.2.1, 36, .inl (flA (-1) (fun _ => 0) 36)))])) rfl ?_
  exact ret _ _ _ _ _ rfl rfl ⟨q7, q15, q23, q31, rfl⟩ dX7_init_49
def p_X6 (G : Dg) (h : Nat) (w : va_W) : Prop := ∃ q5 : Nat, ∃ w5 : va_W, ∃ q18 : Nat, p_X5 G q5 w5 ∧ w = (h, .inr (6, [.ref q5, .ref q18, .int (-9), .int 0, .int (-2)])) :: (([] : va_W) ++ w5 ++ [(q18, iA G 36)])
set_option maxRecDepth 20000 in
set_option maxHeartbeats 4000000 in
theorem k_X6 (l : Launch) (G : Dg) : Mk l G yX6_init cX6_init 1 2 6 [.null, .null, .int 0, .int 0, .int 0] 7 169 (p_X6 G) := by
  refine mk_of (by decide) rfl rfl (fun X h0 hl hG hnl C hm ret => ?_)
  subst hl
  subst hG
  refine kr_aload C dX6_init_0 rfl 0 rfl ?_
  refine kr_obj (kc := 1) C wd_274 dX6_init_1 ?_
  refine kr_aload C dX6_init_4 rfl 0 rfl ?_
  refine kr_mkN C (ci := 5) (n := 9) (Cn := RX5) (T := TX5) (k_X5 X.l X.G) (nst_6_11) wd_275 wd_148 wd_84 wd_150 wd_151 rfl rfl (by decide +kernel) rfl in_X5 tyX5 tyX5_ok (fun j hj => by have h9 : j < 9 := hj; rcases (show j = 0 ∨ j = 1 ∨ j = 2 ∨ j = 3 ∨ j = 4 ∨ j = 5 ∨ j = 6 ∨ j = 7 ∨ j = 8 by omega) with rfl | rfl | rfl | rfl | rfl | rfl | rfl | rfl | rfl <;> rfl) rfl rfl rfl rfl dX6_init_5 dX6_init_8 dX6_init_9 (fun q5 w5 g5 => ?_)
  refine kr_eqw (w2 := (h0, .inr (6, [.null, .null, .int 0, .int 0, .int 0])) :: (([] : va_W) ++ w5)) rfl ?_
  refine kr_putF C hm (ci := 6) (n := 5) (f := 0) (Cn := RX6) (T := TX6) (ty := (.object "LuckShoes$Street")) [.ref q5, .null, .int 0, .int 0, .int 0] rfl in_X6 tyX6 tyX6_ok nmX6 (by decide) wd_277 rfl rfl (by decide +kernel) rfl rfl (Nat.le_of_ble_eq_true rfl) rfl dX6_init_12 ?_
  refine kr_aload C dX6_init_15 rfl 0 rfl ?_
  refine kr_bipush C 36 dX6_init_16 (by decide) ?_
  refine kr_newI C (N := 36) dX6_init_18 (by decide) (by decide) rfl rfl rfl (fun q18 => ?_)
  refine kr_eqw (w2 := (h0, .inr (6, [.ref q5, .null, .int 0, .int 0, .int 0])) :: (([] : va_W) ++ w5 ++ [(q18, iA X.G 36)])) rfl ?_
  refine kr_putF C hm (ci := 6) (n := 5) (f := 1) (Cn := RX6) (T := TX6) (ty := (.array .int)) [.ref q5, .ref q18, .int 0, .int 0, .int 0] rfl in_X6 tyX6 tyX6_ok nmX6 (by decide) wd_278 rfl rfl (by decide +kernel) rfl rfl (Nat.le_of_ble_eq_true rfl) rfl dX6_init_20 ?_
  refine kr_aload C dX6_init_23 rfl 0 rfl ?_
  refine kr_bipush C (-9) dX6_init_24 (by decide) ?_
  refine kr_put C (ci := 6) (n := 5) (f := 2) (Cn := RX6) (T := TX6) (ty := .int) [.ref q5, .ref q18, .int (-9), .int 0, .int 0] rfl in_X6 tyX6 tyX6_ok nmX6 (by decide) wd_279 rfl (by decide +kernel) rfl rfl (Nat.le_of_ble_eq_true rfl) rfl dX6_init_26 ?_
  refine kr_aload C dX6_init_29 rfl 0 rfl ?_
  refine kr_iconst C 0 dX6_init_30 (by decide) ?_
  refine kr_put C (ci := 6) (n := 5) (f := 3) (Cn := RX6) (T := TX6) (ty := .int) [.ref q5, .ref q18, .int (-9), .int 0, .int 0] rfl in_X6 tyX6 tyX6_ok nmX6 (by decide) wd_281 rfl (by decide +kernel) rfl rfl (Nat.le_of_ble_eq_true rfl) rfl dX6_init_31 ?_
  refine kr_aload C dX6_init_34 rfl 0 rfl ?_
  refine kr_bipush C (-2) dX6_init_35 (by decide) ?_
  refine kr_put C (ci := 6) (n := 5) (f := 4) (Cn := RX6) (T := TX6) (ty := .int) [.ref q5, .ref q18, .int (-9), .int 0, .int (-2)] rfl in_X6 tyX6 tyX6_ok nmX6 (by decide) wd_283 rfl (by decide +kernel) rfl rfl (Nat.le_of_ble_eq_true rfl) rfl dX6_init_37 ?_
  exact ret _ _ _ _ _ rfl rfl ⟨q5, w5, q18, g5, rfl⟩ dX6_init_40
def p_X8 (G : Dg) (h : Nat) (w : va_W) : Prop := ∃ q5 : Nat, ∃ w5 : va_W, ∃ q16 : Nat, ∃ w16 : va_W, p_X5 G q5 w5 ∧ p_X5 G q16 w16 ∧ w = (h, .inr (8, [.ref q5, .ref q16, .int 0, .int 0, .int 0, .int 0, .int 0, .int 6])) :: (([] : va_W) ++ w5 ++ w16)
set_option maxRecDepth 20000 in
set_option maxHeartbeats 4000000 in
theorem k_X8 (l : Launch) (G : Dg) : Mk l G yX8_init cX8_init 1 2 8 [.null, .null, .int 0, .int 0, .int 0, .int 0, .int 0, .int 0] 12 266 (p_X8 G) := by
  refine mk_of (by decide) rfl rfl (fun X h0 hl hG hnl C hm ret => ?_)
  subst hl
  subst hG
  refine kr_aload C dX8_init_0 rfl 0 rfl ?_
  refine kr_obj (kc := 1) C wd_301 dX8_init_1 ?_
  refine kr_aload C dX8_init_4 rfl 0 rfl ?_
  refine kr_mkN C (ci := 5) (n := 9) (Cn := RX5) (T := TX5) (k_X5 X.l X.G) (nst_8_11) wd_302 wd_148 wd_84 wd_150 wd_151 rfl rfl (by decide +kernel) rfl in_X5 tyX5 tyX5_ok (fun j hj => by have h9 : j < 9 := hj; rcases (show j = 0 ∨ j = 1 ∨ j = 2 ∨ j = 3 ∨ j = 4 ∨ j = 5 ∨ j = 6 ∨ j = 7 ∨ j = 8 by omega) with rfl | rfl | rfl | rfl | rfl | rfl | rfl | rfl | rfl <;> rfl) rfl rfl rfl rfl dX8_init_5 dX8_init_8 dX8_init_9 (fun q5 w5 g5 => ?_)
  refine kr_eqw (w2 := (h0, .inr (8, [.null, .null, .int 0, .int 0, .int 0, .int 0, .int 0, .int 0])) :: (([] : va_W) ++ w5)) rfl ?_
  refine kr_putF C hm (ci := 8) (n := 8) (f := 0) (Cn := RX8) (T := TX8) (ty := (.object "LuckShoes$Street")) [.ref q5, .null, .int 0, .int 0, .int 0, .int 0, .int 0, .int 0] rfl in_X8 tyX8 tyX8_ok nmX8 (by decide) wd_304 rfl rfl (by decide +kernel) rfl rfl (Nat.le_of_ble_eq_true rfl) rfl dX8_init_12 ?_
  refine kr_aload C dX8_init_15 rfl 0 rfl ?_
  refine kr_mkN C (ci := 5) (n := 9) (Cn := RX5) (T := TX5) (k_X5 X.l X.G) (nst_8_11) wd_302 wd_148 wd_84 wd_150 wd_151 rfl rfl (by decide +kernel) rfl in_X5 tyX5 tyX5_ok (fun j hj => by have h9 : j < 9 := hj; rcases (show j = 0 ∨ j = 1 ∨ j = 2 ∨ j = 3 ∨ j = 4 ∨ j = 5 ∨ j = 6 ∨ j = 7 ∨ j = 8 by omega) with rfl | rfl | rfl | rfl | rfl | rfl | rfl | rfl | rfl <;> rfl) rfl rfl rfl rfl dX8_init_16 dX8_init_19 dX8_init_20 (fun q16 w16 g16 => ?_)
  refine kr_eqw (w2 := (h0, .inr (8, [.ref q5, .null, .int 0, .int 0, .int 0, .int 0, .int 0, .int 0])) :: (([] : va_W) ++ w5 ++ w16)) rfl ?_
  refine kr_putF C hm (ci := 8) (n := 8) (f := 1) (Cn := RX8) (T := TX8) (ty := (.object "LuckShoes$Street")) [.ref q5, .ref q16, .int 0, .int 0, .int 0, .int 0, .int 0, .int 0] rfl in_X8 tyX8 tyX8_ok nmX8 (by decide) wd_305 rfl rfl (by decide +kernel) rfl rfl (Nat.le_of_ble_eq_true rfl) rfl dX8_init_23 ?_
  refine kr_aload C dX8_init_26 rfl 0 rfl ?_
  refine kr_iconst C 0 dX8_init_27 (by decide) ?_
  refine kr_put C (ci := 8) (n := 8) (f := 2) (Cn := RX8) (T := TX8) (ty := .int) [.ref q5, .ref q16, .int 0, .int 0, .int 0, .int 0, .int 0, .int 0] rfl in_X8 tyX8 tyX8_ok nmX8 (by decide) wd_306 rfl (by decide +kernel) rfl rfl (Nat.le_of_ble_eq_true rfl) rfl dX8_init_28 ?_
  refine kr_aload C dX8_init_31 rfl 0 rfl ?_
  refine kr_iconst C 0 dX8_init_32 (by decide) ?_
  refine kr_put C (ci := 8) (n := 8) (f := 3) (Cn := RX8) (T := TX8) (ty := .int) [.ref q5, .ref q16, .int 0, .int 0, .int 0, .int 0, .int 0, .int 0] rfl in_X8 tyX8 tyX8_ok nmX8 (by decide) wd_307 rfl (by decide +kernel) rfl rfl (Nat.le_of_ble_eq_true rfl) rfl dX8_init_33 ?_
  refine kr_aload C dX8_init_36 rfl 0 rfl ?_
  refine kr_iconst C 0 dX8_init_37 (by decide) ?_
  refine kr_put C (ci := 8) (n := 8) (f := 4) (Cn := RX8) (T := TX8) (ty := .int) [.ref q5, .ref q16, .int 0, .int 0, .int 0, .int 0, .int 0, .int 0] rfl in_X8 tyX8 tyX8_ok nmX8 (by decide) wd_308 rfl (by decide +kernel) rfl rfl (Nat.le_of_ble_eq_true rfl) rfl dX8_init_38 ?_
  refine kr_aload C dX8_init_41 rfl 0 rfl ?_
  refine kr_iconst C 0 dX8_init_42 (by decide) ?_
  refine kr_put C (ci := 8) (n := 8) (f := 5) (Cn := RX8) (T := TX8) (ty := .int) [.ref q5, .ref q16, .int 0, .int 0, .int 0, .int 0, .int 0, .int 0] rfl in_X8 tyX8 tyX8_ok nmX8 (by decide) wd_309 rfl (by decide +kernel) rfl rfl (Nat.le_of_ble_eq_true rfl) rfl dX8_init_43 ?_
  refine kr_aload C dX8_init_46 rfl 0 rfl ?_
  refine kr_iconst C 0 dX8_init_47 (by decide) ?_
  refine kr_put C (ci := 8) (n := 8) (f := 6) (Cn := RX8) (T := TX8) (ty := .int) [.ref q5, .ref q16, .int 0, .int 0, .int 0, .int 0, .int 0, .int 0] rfl in_X8 tyX8 tyX8_ok nmX8 (by decide) wd_310 rfl (by decide +kernel) rfl rfl (Nat.le_of_ble_eq_true rfl) rfl dX8_init_48 ?_
  refine kr_aload C dX8_init_51 rfl 0 rfl ?_
  refine kr_bipush C 6 dX8_init_52 (by decide) ?_
  refine kr_put C (ci := 8) (n := 8) (f := 7) (Cn := RX8) (T := TX8) (ty := .int) [.ref q5, .ref q16, .int 0, .int 0, .int 0, .int 0, .int 0, .int 6] rfl in_X8 tyX8 tyX8_ok nmX8 (by decide) wd_311 rfl (by decide +kernel) rfl rfl (Nat.le_of_ble_eq_true rfl) rfl dX8_init_54 ?_
  exact ret _ _ _ _ _ rfl rfl ⟨q5, w5, q16, w16, g5, g16, rfl⟩ dX8_init_57
def p_X9 (G : Dg) (h : Nat) (w : va_W) : Prop := ∃ q5 : Nat, ∃ w5 : va_W, ∃ q16 : Nat, ∃ w16 : va_W, ∃ q27 : Nat, ∃ w27 : va_W, p_X7 G q5 w5 ∧ p_X5 G q16 w16 ∧ p_X3 G q27 w27 ∧ w = (h, .inr (9, [.ref q5, .ref q16, .ref q27])) :: (([] : va_W) ++ w5 ++ w16 ++ w27)
set_option maxRecDepth 20000 in
set_option maxHeartbeats 4000000 in
theorem k_X9 (l : Launch) (G : Dg) : Mk l G yX9_init cX9_init 1 2 9 [.null, .null, .null] 16 960 (p_X9 G) := by
  refine mk_of (by decide) rfl rfl (fun X h0 hl hG hnl C hm ret => ?_)
  subst hl
  subst hG
  refine kr_aload C dX9_init_0 rfl 0 rfl ?_
  refine kr_obj (kc := 1) C wd_108 dX9_init_1 ?_
  refine kr_aload C dX9_init_4 rfl 0 rfl ?_
  refine kr_mkI C (ci := 7) (n := 5) (Cn := RX7) (T := TX7) (k_X7 X.l X.G) wd_111 wd_109 wd_110 wd_82 wd_112 wd_113 rfl rfl (by decide +kernel) rfl in_X7 tyX7 tyX7_ok (fun j hj => by have h9 : j < 5 := hj; rcases (show j = 0 ∨ j = 1 ∨ j = 2 ∨ j = 3 ∨ j = 4 by omega) with rfl | rfl | rfl | rfl | rfl <;> rfl) rfl rfl rfl rfl rfl dX9_init_5 dX9_init_8 dX9_init_9 (fun q5 w5 g5 => ?_)
  refine kr_eqw (w2 := (h0, .inr (9, [.null, .null, .null])) :: (([] : va_W) ++ w5)) rfl ?_
  refine kr_putF C hm (ci := 9) (n := 3) (f := 0) (Cn := RX9) (T := TX9) (ty := (.object "LuckShoes$Town")) [.ref q5, .null, .null] rfl in_X9 tyX9 tyX9_ok nmX9 (by decide) wd_250 rfl rfl (by decide +kernel) rfl rfl (Nat.le_of_ble_eq_true rfl) rfl dX9_init_12 ?_
  refine kr_aload C dX9_init_15 rfl 0 rfl ?_
  refine kr_mkN C (ci := 5) (n := 9) (Cn := RX5) (T := TX5) (k_X5 X.l X.G) (nst_9_20) wd_147 wd_148 wd_84 wd_150 wd_151 rfl rfl (by decide +kernel) rfl in_X5 tyX5 tyX5_ok (fun j hj => by have h9 : j < 9 := hj; rcases (show j = 0 ∨ j = 1 ∨ j = 2 ∨ j = 3 ∨ j = 4 ∨ j = 5 ∨ j = 6 ∨ j = 7 ∨ j = 8 by omega) with rfl | rfl | rfl | rfl | rfl | rfl | rfl | rfl | rfl <;> rfl) rfl rfl rfl rfl dX9_init_16 dX9_init_19 dX9_init_20 (fun q16 w16 g16 => ?_)
  refine kr_eqw (w2 := (h0, .inr (9, [.ref q5, .null, .null])) :: (([] : va_W) ++ w5 ++ w16)) rfl ?_
  refine kr_putF C hm (ci := 9) (n := 3) (f := 1) (Cn := RX9) (T := TX9) (ty := (.object "LuckShoes$Street")) [.ref q5, .ref q16, .null] rfl in_X9 tyX9 tyX9_ok nmX9 (by decide) wd_254 rfl rfl (by decide +kernel) rfl rfl (Nat.le_of_ble_eq_true rfl) rfl dX9_init_23 ?_
  refine kr_aload C dX9_init_26 rfl 0 rfl ?_
  refine kr_mkN C (ci := 3) (n := 14) (Cn := RX3) (T := TX3) (k_X3 X.l X.G) (nst_9_27) wd_200 wd_201 wd_85 wd_203 wd_204 rfl rfl (by decide +kernel) rfl in_X3 tyX3 tyX3_ok (fun j hj => by have h9 : j < 14 := hj; rcases (show j = 0 ∨ j = 1 ∨ j = 2 ∨ j = 3 ∨ j = 4 ∨ j = 5 ∨ j = 6 ∨ j = 7 ∨ j = 8 ∨ j = 9 ∨ j = 10 ∨ j = 11 ∨ j = 12 ∨ j = 13 by omega) with rfl | rfl | rfl | rfl | rfl | rfl | rfl | rfl | rfl | rfl | rfl | rfl | rfl | rfl <;> rfl) rfl rfl rfl rfl dX9_init_27 dX9_init_30 dX9_init_31 (fun q27 w27 g27 => ?_)
  refine kr_eqw (w2 := (h0, .inr (9, [.ref q5, .ref q16, .null])) :: (([] : va_W) ++ w5 ++ w16 ++ w27)) rfl ?_
  refine kr_putF C hm (ci := 9) (n := 3) (f := 2) (Cn := RX9) (T := TX9) (ty := (.object "LuckShoes$Law")) [.ref q5, .ref q16, .ref q27] rfl in_X9 tyX9 tyX9_ok nmX9 (by decide) wd_258 rfl rfl (by decide +kernel) rfl rfl (Nat.le_of_ble_eq_true rfl) rfl dX9_init_34 ?_
  exact ret _ _ _ _ _ rfl rfl ⟨q5, w5, q16, w16, q27, w27, g5, g16, g27, rfl⟩ dX9_init_37
def p_X10 (G : Dg) (h : Nat) (w : va_W) : Prop := ∃ q5 : Nat, ∃ w5 : va_W, ∃ q16 : Nat, ∃ w16 : va_W, ∃ q27 : Nat, ∃ w27 : va_W, ∃ q38 : Nat, ∃ w38 : va_W, ∃ q49 : Nat, ∃ w49 : va_W, ∃ q60 : Nat, ∃ w60 : va_W, ∃ q71 : Nat, ∃ w71 : va_W, ∃ q83 : Nat, ∃ q89 : Nat, ∃ w89 : va_W, ∃ q101 : Nat, p_X9 G q5 w5 ∧ p_X6 G q16 w16 ∧ p_X8 G q27 w27 ∧ p_X2 G q38 w38 ∧ p_X1 G q49 w49 ∧ p_X4 G q60 w60 ∧ p_X0 G q71 w71 ∧ p_X5 G q89 w89 ∧ w = (h, .inr (10, [.ref q5, .ref q16, .ref q27, .ref q38, .ref q49, .ref q60, .ref q71, .ref q83, .ref q89, .ref q101, .int (-1)])) :: (([] : va_W) ++ w5 ++ w16 ++ w27 ++ w38 ++ w49 ++ w60 ++ w71 ++ [(q83, iA G 5)] ++ w89 ++ [(q101, iA G 5)])
set_option maxRecDepth 20000 in
set_option maxHeartbeats 4000000 in
theorem k_X10 (l : Launch) (G : Dg) : Mk l G yX10_init cX10_init 1 3 10 [.null, .null, .null, .null, .null, .null, .null, .null, .null, .null, .int 0] 65 2182 (p_X10 G) := by
  refine mk_of (by decide) rfl rfl (fun X h0 hl hG hnl C hm ret => ?_)
  subst hl
  subst hG
  refine kr_aload C dX10_init_0 rfl 0 rfl ?_
  refine kr_obj (kc := 2) C wd_100 dX10_init_1 ?_
  refine kr_aload C dX10_init_4 rfl 0 rfl ?_
  refine kr_mkN C (ci := 9) (n := 3) (Cn := RX9) (T := TX9) (k_X9 X.l X.G) (nst_10_9) wd_103 wd_104 wd_81 wd_106 wd_107 rfl rfl (by decide +kernel) rfl in_X9 tyX9 tyX9_ok (fun j hj => by have h9 : j < 3 := hj; rcases (show j = 0 ∨ j = 1 ∨ j = 2 by omega) with rfl | rfl | rfl <;> rfl) rfl rfl rfl rfl dX10_init_5 dX10_init_8 dX10_init_9 (fun q5 w5 g5 => ?_)
  refine kr_eqw (w2 := (h0, .inr (10, [.null, .null, .null, .null, .null, .null, .null, .null, .null, .null, .int 0])) :: (([] : va_W) ++ w5)) rfl ?_
  refine kr_putF C hm (ci := 10) (n := 11) (f := 0) (Cn := RX10) (T := TX10) (ty := (.object "LuckShoes$World")) [.ref q5, .null, .null, .null, .null, .null, .null, .null, .null, .null, .int 0] rfl in_X10 tyX10 tyX10_ok nmX10 (by decide) wd_426 rfl rfl (by decide +kernel) rfl rfl (Nat.le_of_ble_eq_true rfl) rfl dX10_init_12 ?_
  refine kr_aload C dX10_init_15 rfl 0 rfl ?_
  refine kr_mkN C (ci := 6) (n := 5) (Cn := RX6) (T := TX6) (k_X6 X.l X.G) (nst_10_18) wd_269 wd_270 wd_86 wd_272 wd_273 rfl rfl (by decide +kernel) rfl in_X6 tyX6 tyX6_ok (fun j hj => by have h9 : j < 5 := hj; rcases (show j = 0 ∨ j = 1 ∨ j = 2 ∨ j = 3 ∨ j = 4 by omega) with rfl | rfl | rfl | rfl | rfl <;> rfl) rfl rfl rfl rfl dX10_init_16 dX10_init_19 dX10_init_20 (fun q16 w16 g16 => ?_)
  refine kr_eqw (w2 := (h0, .inr (10, [.ref q5, .null, .null, .null, .null, .null, .null, .null, .null, .null, .int 0])) :: (([] : va_W) ++ w5 ++ w16)) rfl ?_
  refine kr_putF C hm (ci := 10) (n := 11) (f := 1) (Cn := RX10) (T := TX10) (ty := (.object "LuckShoes$Thought")) [.ref q5, .ref q16, .null, .null, .null, .null, .null, .null, .null, .null, .int 0] rfl in_X10 tyX10 tyX10_ok nmX10 (by decide) wd_427 rfl rfl (by decide +kernel) rfl rfl (Nat.le_of_ble_eq_true rfl) rfl dX10_init_23 ?_
  refine kr_aload C dX10_init_26 rfl 0 rfl ?_
  refine kr_mkN C (ci := 8) (n := 8) (Cn := RX8) (T := TX8) (k_X8 X.l X.G) (nst_10_25) wd_296 wd_297 wd_87 wd_299 wd_300 rfl rfl (by decide +kernel) rfl in_X8 tyX8 tyX8_ok (fun j hj => by have h9 : j < 8 := hj; rcases (show j = 0 ∨ j = 1 ∨ j = 2 ∨ j = 3 ∨ j = 4 ∨ j = 5 ∨ j = 6 ∨ j = 7 by omega) with rfl | rfl | rfl | rfl | rfl | rfl | rfl | rfl <;> rfl) rfl rfl rfl rfl dX10_init_27 dX10_init_30 dX10_init_31 (fun q27 w27 g27 => ?_)
  refine kr_eqw (w2 := (h0, .inr (10, [.ref q5, .ref q16, .null, .null, .null, .null, .null, .null, .null, .null, .int 0])) :: (([] : va_W) ++ w5 ++ w16 ++ w27)) rfl ?_
  refine kr_putF C hm (ci := 10) (n := 11) (f := 2) (Cn := RX10) (T := TX10) (ty := (.object "LuckShoes$Turns")) [.ref q5, .ref q16, .ref q27, .null, .null, .null, .null, .null, .null, .null, .int 0] rfl in_X10 tyX10 tyX10_ok nmX10 (by decide) wd_428 rfl rfl (by decide +kernel) rfl rfl (Nat.le_of_ble_eq_true rfl) rfl dX10_init_34 ?_
  refine kr_aload C dX10_init_37 rfl 0 rfl ?_
  refine kr_mkN C (ci := 2) (n := 6) (Cn := RX2) (T := TX2) (k_X2 X.l X.G) (nst_10_32) wd_330 wd_331 wd_88 wd_333 wd_334 rfl rfl (by decide +kernel) rfl in_X2 tyX2 tyX2_ok (fun j hj => by have h9 : j < 6 := hj; rcases (show j = 0 ∨ j = 1 ∨ j = 2 ∨ j = 3 ∨ j = 4 ∨ j = 5 by omega) with rfl | rfl | rfl | rfl | rfl | rfl <;> rfl) rfl rfl rfl rfl dX10_init_38 dX10_init_41 dX10_init_42 (fun q38 w38 g38 => ?_)
  refine kr_eqw (w2 := (h0, .inr (10, [.ref q5, .ref q16, .ref q27, .null, .null, .null, .null, .null, .null, .null, .int 0])) :: (([] : va_W) ++ w5 ++ w16 ++ w27 ++ w38)) rfl ?_
  refine kr_putF C hm (ci := 10) (n := 11) (f := 3) (Cn := RX10) (T := TX10) (ty := (.object "LuckShoes$Changes")) [.ref q5, .ref q16, .ref q27, .ref q38, .null, .null, .null, .null, .null, .null, .int 0] rfl in_X10 tyX10 tyX10_ok nmX10 (by decide) wd_429 rfl rfl (by decide +kernel) rfl rfl (Nat.le_of_ble_eq_true rfl) rfl dX10_init_45 ?_
  refine kr_aload C dX10_init_48 rfl 0 rfl ?_
  refine kr_mkN C (ci := 1) (n := 4) (Cn := RX1) (T := TX1) (k_X1 X.l X.G) (nst_10_39) wd_360 wd_361 wd_89 wd_363 wd_364 rfl rfl (by decide +kernel) rfl in_X1 tyX1 tyX1_ok (fun j hj => by have h9 : j < 4 := hj; rcases (show j = 0 ∨ j = 1 ∨ j = 2 ∨ j = 3 by omega) with rfl | rfl | rfl | rfl <;> rfl) rfl rfl rfl rfl dX10_init_49 dX10_init_52 dX10_init_53 (fun q49 w49 g49 => ?_)
  refine kr_eqw (w2 := (h0, .inr (10, [.ref q5, .ref q16, .ref q27, .ref q38, .null, .null, .null, .null, .null, .null, .int 0])) :: (([] : va_W) ++ w5 ++ w16 ++ w27 ++ w38 ++ w49)) rfl ?_
  refine kr_putF C hm (ci := 10) (n := 11) (f := 4) (Cn := RX10) (T := TX10) (ty := (.object "LuckShoes$Bodies")) [.ref q5, .ref q16, .ref q27, .ref q38, .ref q49, .null, .null, .null, .null, .null, .int 0] rfl in_X10 tyX10 tyX10_ok nmX10 (by decide) wd_430 rfl rfl (by decide +kernel) rfl rfl (Nat.le_of_ble_eq_true rfl) rfl dX10_init_56 ?_
  refine kr_aload C dX10_init_59 rfl 0 rfl ?_
  refine kr_mkI C (ci := 4) (n := 3) (Cn := RX4) (T := TX4) (k_X4 X.l X.G) wd_384 wd_382 wd_383 wd_90 wd_385 wd_386 rfl rfl (by decide +kernel) rfl in_X4 tyX4 tyX4_ok (fun j hj => by have h9 : j < 3 := hj; rcases (show j = 0 ∨ j = 1 ∨ j = 2 by omega) with rfl | rfl | rfl <;> rfl) rfl rfl rfl rfl rfl dX10_init_60 dX10_init_63 dX10_init_64 (fun q60 w60 g60 => ?_)
  refine kr_eqw (w2 := (h0, .inr (10, [.ref q5, .ref q16, .ref q27, .ref q38, .ref q49, .null, .null, .null, .null, .null, .int 0])) :: (([] : va_W) ++ w5 ++ w16 ++ w27 ++ w38 ++ w49 ++ w60)) rfl ?_
  refine kr_putF C hm (ci := 10) (n := 11) (f := 5) (Cn := RX10) (T := TX10) (ty := (.object "LuckShoes$Shelves")) [.ref q5, .ref q16, .ref q27, .ref q38, .ref q49, .ref q60, .null, .null, .null, .null, .int 0] rfl in_X10 tyX10 tyX10_ok nmX10 (by decide) wd_431 rfl rfl (by decide +kernel) rfl rfl (Nat.le_of_ble_eq_true rfl) rfl dX10_init_67 ?_
  refine kr_aload C dX10_init_70 rfl 0 rfl ?_
  refine kr_mkN C (ci := 0) (n := 3) (Cn := RX0) (T := TX0) (k_X0 X.l X.G) (nst_10_53) wd_405 wd_406 wd_91 wd_408 wd_409 rfl rfl (by decide +kernel) rfl in_X0 tyX0 tyX0_ok (fun j hj => by have h9 : j < 3 := hj; rcases (show j = 0 ∨ j = 1 ∨ j = 2 by omega) with rfl | rfl | rfl <;> rfl) rfl rfl rfl rfl dX10_init_71 dX10_init_74 dX10_init_75 (fun q71 w71 g71 => ?_)
  refine kr_eqw (w2 := (h0, .inr (10, [.ref q5, .ref q16, .ref q27, .ref q38, .ref q49, .ref q60, .null, .null, .null, .null, .int 0])) :: (([] : va_W) ++ w5 ++ w16 ++ w27 ++ w38 ++ w49 ++ w60 ++ w71)) rfl ?_
  refine kr_putF C hm (ci := 10) (n := 11) (f := 6) (Cn := RX10) (T := TX10) (ty := (.object "LuckShoes$Bets")) [.ref q5, .ref q16, .ref q27, .ref q38, .ref q49, .ref q60, .ref q71, .null, .null, .null, .int 0] rfl in_X10 tyX10 tyX10_ok nmX10 (by decide) wd_432 rfl rfl (by decide +kernel) rfl rfl (Nat.le_of_ble_eq_true rfl) rfl dX10_init_78 ?_
  refine kr_aload C dX10_init_81 rfl 0 rfl ?_
  refine kr_iconst C 5 dX10_init_82 (by decide) ?_
  refine kr_newI C (N := 5) dX10_init_83 (by decide) (by decide) rfl rfl rfl (fun q83 => ?_)
  refine kr_eqw (w2 := (h0, .inr (10, [.ref q5, .ref q16, .ref q27, .ref q38, .ref q49, .ref q60, .ref q71, .null, .null, .null, .int 0])) :: (([] : va_W) ++ w5 ++ w16 ++ w27 ++ w38 ++ w49 ++ w60 ++ w71 ++ [(q83, iA X.G 5)])) rfl ?_
  refine kr_putF C hm (ci := 10) (n := 11) (f := 7) (Cn := RX10) (T := TX10) (ty := (.array .int)) [.ref q5, .ref q16, .ref q27, .ref q38, .ref q49, .ref q60, .ref q71, .ref q83, .null, .null, .int 0] rfl in_X10 tyX10 tyX10_ok nmX10 (by decide) wd_433 rfl rfl (by decide +kernel) rfl rfl (Nat.le_of_ble_eq_true rfl) rfl dX10_init_85 ?_
  refine kr_aload C dX10_init_88 rfl 0 rfl ?_
  refine kr_mkN C (ci := 5) (n := 9) (Cn := RX5) (T := TX5) (k_X5 X.l X.G) (nst_10_64) wd_424 wd_148 wd_84 wd_150 wd_151 rfl rfl (by decide +kernel) rfl in_X5 tyX5 tyX5_ok (fun j hj => by have h9 : j < 9 := hj; rcases (show j = 0 ∨ j = 1 ∨ j = 2 ∨ j = 3 ∨ j = 4 ∨ j = 5 ∨ j = 6 ∨ j = 7 ∨ j = 8 by omega) with rfl | rfl | rfl | rfl | rfl | rfl | rfl | rfl | rfl <;> rfl) rfl rfl rfl rfl dX10_init_89 dX10_init_92 dX10_init_93 (fun q89 w89 g89 => ?_)
  refine kr_eqw (w2 := (h0, .inr (10, [.ref q5, .ref q16, .ref q27, .ref q38, .ref q49, .ref q60, .ref q71, .ref q83, .null, .null, .int 0])) :: (([] : va_W) ++ w5 ++ w16 ++ w27 ++ w38 ++ w49 ++ w60 ++ w71 ++ [(q83, iA X.G 5)] ++ w89)) rfl ?_
  refine kr_putF C hm (ci := 10) (n := 11) (f := 8) (Cn := RX10) (T := TX10) (ty := (.object "LuckShoes$Street")) [.ref q5, .ref q16, .ref q27, .ref q38, .ref q49, .ref q60, .ref q71, .ref q83, .ref q89, .null, .int 0] rfl in_X10 tyX10 tyX10_ok nmX10 (by decide) wd_434 rfl rfl (by decide +kernel) rfl rfl (Nat.le_of_ble_eq_true rfl) rfl dX10_init_96 ?_
  refine kr_aload C dX10_init_99 rfl 0 rfl ?_
  refine kr_iconst C 5 dX10_init_100 (by decide) ?_
  refine kr_newI C (N := 5) dX10_init_101 (by decide) (by decide) rfl rfl rfl (fun q101 => ?_)
  refine kr_eqw (w2 := (h0, .inr (10, [.ref q5, .ref q16, .ref q27, .ref q38, .ref q49, .ref q60, .ref q71, .ref q83, .ref q89, .null, .int 0])) :: (([] : va_W) ++ w5 ++ w16 ++ w27 ++ w38 ++ w49 ++ w60 ++ w71 ++ [(q83, iA X.G 5)] ++ w89 ++ [(q101, iA X.G 5)])) rfl ?_
  refine kr_putF C hm (ci := 10) (n := 11) (f := 9) (Cn := RX10) (T := TX10) (ty := (.array .int)) [.ref q5, .ref q16, .ref q27, .ref q38, .ref q49, .ref q60, .ref q71, .ref q83, .ref q89, .ref q101, .int 0] rfl in_X10 tyX10 tyX10_ok nmX10 (by decide) wd_435 rfl rfl (by decide +kernel) rfl rfl (Nat.le_of_ble_eq_true rfl) rfl dX10_init_103 ?_
  refine kr_aload C dX10_init_106 rfl 0 rfl ?_
  refine kr_iconst C (-1) dX10_init_107 (by decide) ?_
  refine kr_put C (ci := 10) (n := 11) (f := 10) (Cn := RX10) (T := TX10) (ty := .int) [.ref q5, .ref q16, .ref q27, .ref q38, .ref q49, .ref q60, .ref q71, .ref q83, .ref q89, .ref q101, .int (-1)] rfl in_X10 tyX10 tyX10_ok nmX10 (by decide) wd_436 rfl (by decide +kernel) rfl rfl (Nat.le_of_ble_eq_true rfl) rfl dX10_init_108 ?_
  exact ret _ _ _ _ _ rfl rfl ⟨q5, w5, q16, w16, q27, w27, q38, w38, q49, w49, q60, w60, q71, w71, q83, q89, w89, q101, g5, g16, g27, g38, g49, g60, g71, g89, rfl⟩ dX10_init_111
