set_option maxHeartbeats 200000 in
set_option maxRecDepth 100000 in
theorem ok_fBets_commonDivisor_L9 {X : Amb} (eL : X.nL = 11) (C : Cx X RX0 cX0_commonDivisor 0) (M : Mem) (o : Int64) (K : WA X M [(4, .long o)] 45 []) : ∀ (n : Nat) (y4 : Int64) (y6 : Int64) (x8 : Int32), fBets_commonDivisor_L9 n y4 y6 x8 = some o → WA X M [(4, .long y4), (6, .long y6), (8, .int x8)] 9 [] := by
  intro n
  induction n with
  | zero => intro _ _ _ h; cases h
  | succ n ih =>
    intro y4 y6 x8 h
    replace h : fBets_commonDivisor_L9_F (fBets_commonDivisor_L9 n) y4 y6 x8 = some o := h
    unfold fBets_commonDivisor_L9_F at h
    refine a_iload (pc := 9) C dX0_commonDivisor_9 2 rfl ?_
    refine a_sipush (pc := 11) C 200 dX0_commonDivisor_11 rfl ?_
    refine a_icmp_ge (pc := 14) C 45 dX0_commonDivisor_14 rfl (fun c1 => ?_) (fun c1 => ?_)
    · replace h := iteT c1 h
      refine a_sub (lv2 := [(4, .long y4)]) [0] rfl ?_
      cases somI h
      exact K
    · replace h := iteF c1 h
      refine a_lload (pc := 17) C dX0_commonDivisor_17 1 rfl ?_
      refine a_lconst (pc := 19) C 0 dX0_commonDivisor_19 rfl ?_
      refine a_lcmp (pc := 20) C dX0_commonDivisor_20 ?_
      refine a_if_eq (pc := 21) C 45 dX0_commonDivisor_21 rfl (fun c2 => ?_) (fun c2 => ?_)
      · replace h := iteT c2 h
        refine a_sub (lv2 := [(4, .long y4)]) [0] rfl ?_
        cases somI h
        exact K
      · replace h := iteF c2 h
        refine a_lload (pc := 24) C dX0_commonDivisor_24 0 rfl ?_
        refine a_lload (pc := 26) C dX0_commonDivisor_26 1 rfl ?_
        obtain ⟨v3, ev3, h⟩ := bndS h
        obtain ⟨nv3, rfl⟩ := rmLo_s ev3
        refine a_lrem (pc := 28) C dX0_commonDivisor_28 nv3 ?_
        refine a_lstore (pc := 29) C [(9, .long (rmL y4 y6)), (4, .long y4), (6, .long y6), (8, .int x8)] dX0_commonDivisor_29 (nltL eL rfl) rfl ?_
        refine a_lload (pc := 31) C dX0_commonDivisor_31 2 rfl ?_
        refine a_lstore (pc := 33) C [(4, .long y6), (9, .long (rmL y4 y6)), (6, .long y6), (8, .int x8)] dX0_commonDivisor_33 (nltL eL rfl) rfl ?_
        refine a_lload (pc := 35) C dX0_commonDivisor_35 1 rfl ?_
        refine a_lstore (pc := 37) C [(6, .long (rmL y4 y6)), (4, .long y6), (9, .long (rmL y4 y6)), (8, .int x8)] dX0_commonDivisor_37 (nltL eL rfl) rfl ?_
        refine a_iinc (pc := 39) C 3 (x8 + 1) [(8, .int (x8 + 1)), (6, .long (rmL y4 y6)), (4, .long y6), (9, .long (rmL y4 y6))] dX0_commonDivisor_39 rfl rfl (nlt eL rfl) rfl ?_
        refine a_goto (pc := 42) C 9 dX0_commonDivisor_42 rfl ?_
        refine a_sub [2, 1, 0] rfl ?_
        exact ih y6 (rmL y4 y6) (x8 + 1) h
set_option maxHeartbeats 200000 in
set_option maxRecDepth 100000 in
theorem ok_fBets_commonDivisor (l : Launch) (N : Rig) (M : Mem) (y0 : Int64) (y2 : Int64) {r : Int64} (h : fBets_commonDivisor y0 y2 = some r) : Ct l N yX0_commonDivisor cX0_commonDivisor 11 (some .long) 0 [.long y0, .long y2] M (QcL N r M) := by
  refine ct_of (by decide) rfl ?_
  intro X el eN eL C E
  subst el
  subst eN
  unfold fBets_commonDivisor at h
  show WA X M [(0, .long y0), (2, .long y2)] 0 []
  refine a_lload_n (pc := 0) C dX0_commonDivisor_0 rfl 0 rfl ?_
  refine a_lstore (pc := 1) C [(4, .long y0), (0, .long y0), (2, .long y2)] dX0_commonDivisor_1 (nltL eL rfl) rfl ?_
  refine a_lload_n (pc := 3) C dX0_commonDivisor_3 rfl 2 rfl ?_
  refine a_lstore (pc := 4) C [(6, .long y2), (4, .long y0), (0, .long y0), (2, .long y2)] dX0_commonDivisor_4 (nltL eL rfl) rfl ?_
  refine a_iconst (pc := 6) C 0 dX0_commonDivisor_6 rfl ?_
  refine a_istore (pc := 7) C [(8, .int 0), (6, .long y2), (4, .long y0), (0, .long y0), (2, .long y2)] dX0_commonDivisor_7 (nlt eL rfl) rfl ?_
  refine a_sub (lv2 := [(4, .long y0), (6, .long y2), (8, .int 0)]) [2, 1, 0] rfl ?_
  obtain ⟨o4, eo4, h⟩ := bndS h
  refine ok_fBets_commonDivisor_L9 eL C M o4 ?_ FU y0 y2 0 eo4
  refine a_lload (pc := 45) C dX0_commonDivisor_45 0 rfl ?_
  exact a_lret (pc := 47) C E (somI h) rfl dX0_commonDivisor_47
set_option maxHeartbeats 200000 in
set_option maxRecDepth 100000 in
theorem ok_fBets_add (l : Launch) (N : Rig) (M : Mem) (y1 : Int64) {M0 : Mem} (h : fBets_add M y1 = some M0) : Ct l N yX0_add cX0_add 5 none 1 [.ref (N.2.1 33), .long y1] M (QcV N M0) := by
  refine ct_of (by decide) rfl ?_
  intro X el eN eL C E
  subst el
  subst eN
  unfold fBets_add at h
  show WA X M [(0, .ref (X.N.2.1 33)), (1, .long y1)] 0 []
  refine a_aload_n (pc := 0) C dX0_add_0 rfl 0 rfl ?_
  refine a_aload_n (pc := 1) C dX0_add_1 rfl 0 rfl ?_
  refine gf_0_0 (pc := 2) C wd_411 dX0_add_2 ?_
  refine a_lload_n (pc := 5) C dX0_add_5 rfl 1 rfl ?_
  refine a_lmul (pc := 6) C dX0_add_6 ?_
  refine a_ldc2_w (pc := 7) C (v := 100) dX0_add_7 wd_844 ?_
  refine a_aload_n (pc := 10) C dX0_add_10 rfl 0 rfl ?_
  refine gf_0_1 (pc := 11) C wd_413 dX0_add_11 ?_
  refine a_lmul (pc := 14) C dX0_add_14 ?_
  refine a_ladd (pc := 15) C dX0_add_15 ?_
  refine pf_0_0 (pc := 16) C wd_411 dX0_add_16 ?_
  refine a_aload_n (pc := 19) C dX0_add_19 rfl 0 rfl ?_
  refine a_aload_n (pc := 20) C dX0_add_20 rfl 0 rfl ?_
  refine gf_0_1 (pc := 21) C wd_413 dX0_add_21 ?_
  refine a_lload_n (pc := 24) C dX0_add_24 rfl 1 rfl ?_
  refine a_lmul (pc := 25) C dX0_add_25 ?_
  refine pf_0_1 (pc := 26) C wd_413 dX0_add_26 ?_
  refine a_aload_n (pc := 29) C dX0_add_29 rfl 0 rfl ?_
  refine gf_0_0 (pc := 30) C wd_411 dX0_add_30 ?_
  refine a_aload_n (pc := 33) C dX0_add_33 rfl 0 rfl ?_
  refine gf_0_1 (pc := 34) C wd_413 dX0_add_34 ?_
  obtain ⟨v1, ev1, h⟩ := bndS h
  refine a_callSL (pc := 37) C [.long ((wL (wL M 33 0 (((M.2.1 33 0) * y1) + (100 * (M.2.1 33 1)))) 33 1 (((wL M 33 0 (((M.2.1 33 0) * y1) + (100 * (M.2.1 33 1)))).2.1 33 1) * y1)).2.1 33 0), .long ((wL (wL M 33 0 (((M.2.1 33 0) * y1) + (100 * (M.2.1 33 1)))) 33 1 (((wL M 33 0 (((M.2.1 33 0) * y1) + (100 * (M.2.1 33 1)))).2.1 33 1) * y1)).2.1 33 1)] (ok_fBets_commonDivisor X.l X.N (wL (wL M 33 0 (((M.2.1 33 0) * y1) + (100 * (M.2.1 33 1)))) 33 1 (((wL M 33 0 (((M.2.1 33 0) * y1) + (100 * (M.2.1 33 1)))).2.1 33 1) * y1)) ((wL (wL M 33 0 (((M.2.1 33 0) * y1) + (100 * (M.2.1 33 1)))) 33 1 (((wL M 33 0 (((M.2.1 33 0) * y1) + (100 * (M.2.1 33 1)))).2.1 33 1) * y1)).2.1 33 0) ((wL (wL M 33 0 (((M.2.1 33 0) * y1) + (100 * (M.2.1 33 1)))) 33 1 (((wL M 33 0 (((M.2.1 33 0) * y1) + (100 * (M.2.1 33 1)))).2.1 33 1) * y1)).2.1 33 1) ev1) rfl mw_X0_commonDivisor wd_845 rfl rfl rfl dX0_add_37 ?_
  refine a_lstore_n (pc := 40) C [(3, .long v1), (0, .ref (X.N.2.1 33)), (1, .long y1)] dX0_add_40 rfl (nltL eL rfl) rfl ?_
  refine a_lload_n (pc := 41) C dX0_add_41 rfl 0 rfl ?_
  refine a_lconst (pc := 42) C 1 dX0_add_42 rfl ?_
  refine a_lcmp (pc := 43) C dX0_add_43 ?_
  refine a_if_le (pc := 44) C 67 dX0_add_44 rfl (fun c2 => ?_) (fun c2 => ?_)
  · replace h := iteT c2 h
    exact a_vret (pc := 67) C E (somI h) dX0_add_67
  · replace h := iteF c2 h
    refine a_aload_n (pc := 47) C dX0_add_47 rfl 1 rfl ?_
    refine a_dup (pc := 48) C dX0_add_48 rfl ?_
    refine gf_0_0 (pc := 49) C wd_411 dX0_add_49 ?_
    refine a_lload_n (pc := 52) C dX0_add_52 rfl 0 rfl ?_
    obtain ⟨v3, ev3, h⟩ := bndS h
    obtain ⟨nv3, rfl⟩ := dvL_s ev3
    refine a_ldiv (pc := 53) C dX0_add_53 nv3 ?_
    refine pf_0_0 (pc := 54) C wd_411 dX0_add_54 ?_
    refine a_aload_n (pc := 57) C dX0_add_57 rfl 1 rfl ?_
    refine a_dup (pc := 58) C dX0_add_58 rfl ?_
    refine gf_0_1 (pc := 59) C wd_413 dX0_add_59 ?_
    refine a_lload_n (pc := 62) C dX0_add_62 rfl 0 rfl ?_
    obtain ⟨v4, ev4, h⟩ := bndS h
    obtain ⟨nv4, rfl⟩ := dvL_s ev4
    refine a_ldiv (pc := 63) C dX0_add_63 nv4 ?_
    refine pf_0_1 (pc := 64) C wd_413 dX0_add_64 ?_
    exact a_vret (pc := 67) C E (somI h) dX0_add_67
set_option maxHeartbeats 200000 in
set_option maxRecDepth 100000 in
theorem ok_fBets_read_L26 {X : Amb} (eL : X.nL = 5) (C : Cx X RX0 cX0_read 2) (a1 : Nat) (ha1 : isRw a1) (x3 : Int32) (o : Mem) (K : WA X o [] 95 []) : ∀ (n : Nat) (M : Mem) (x4 : Int32), fBets_read_L26 n M a1 x3 x4 = some o → WA X M [(0, .ref (X.N.2.1 33)), (1, .ref (X.N.2.1 a1)), (3, .int x3), (4, .int x4)] 26 [] := by
  intro n
  induction n with
  | zero => intro _ _ h; cases h
  | succ n ih =>
    intro M x4 h
    replace h : fBets_read_L26_F (fBets_read_L26 n) M a1 x3 x4 = some o := h
    unfold fBets_read_L26_F at h
    refine a_iload (pc := 26) C dX0_read_26 3 rfl ?_
    refine a_iload_n (pc := 28) C dX0_read_28 rfl 2 rfl ?_
    refine a_icmp_ge (pc := 29) C 95 dX0_read_29 rfl (fun c1 => ?_) (fun c1 => ?_)
    · replace h := iteT c1 h
      refine a_sub (lv2 := []) [] rfl ?_
      cases somI h
      exact K
    · replace h := iteF c1 h
      refine a_aload_n (pc := 32) C dX0_read_32 rfl 1 rfl ?_
      refine a_iload (pc := 33) C dX0_read_33 3 rfl ?_
      obtain ⟨v2, ev2, h⟩ := bndS h
      refine a_lald (pc := 35) C (rw_shp ha1) ev2 dX0_read_35 ?_
      refine a_lconst (pc := 36) C 1 dX0_read_36 rfl ?_
      refine a_lcmp (pc := 37) C dX0_read_37 ?_
      refine a_if_lt (pc := 38) C 95 dX0_read_38 rfl (fun c3 => ?_) (fun c3 => ?_)
      · replace h := iteT c3 h
        refine a_sub (lv2 := []) [] rfl ?_
        cases somI h
        exact K
      · replace h := iteF c3 h
        refine a_aload_n (pc := 41) C dX0_read_41 rfl 1 rfl ?_
        refine a_iload (pc := 42) C dX0_read_42 3 rfl ?_
        obtain ⟨v4, ev4, h⟩ := bndS h
        refine a_lald (pc := 44) C (rw_shp ha1) ev4 dX0_read_44 ?_
        refine a_ldc2_w (pc := 45) C (v := 999) dX0_read_45 wd_839 ?_
        refine a_lcmp (pc := 48) C dX0_read_48 ?_
        refine a_if_gt (pc := 49) C 95 dX0_read_49 rfl (fun c5 => ?_) (fun c5 => ?_)
        · replace h := iteT c5 h
          refine a_sub (lv2 := []) [] rfl ?_
          cases somI h
          exact K
        · replace h := iteF c5 h
          refine a_aload_n (pc := 52) C dX0_read_52 rfl 0 rfl ?_
          refine a_aload_n (pc := 53) C dX0_read_53 rfl 1 rfl ?_
          refine a_iload (pc := 54) C dX0_read_54 3 rfl ?_
          obtain ⟨v6, ev6, h⟩ := bndS h
          refine a_lald (pc := 56) C (rw_shp ha1) ev6 dX0_read_56 ?_
          obtain ⟨q7, eq7, h⟩ := bndS h
          refine a_callVV (pc := 57) C [.long v6] (ok_fBets_add X.l X.N M v6 eq7) rfl mw_X0_add wd_840 rfl rfl rfl rfl rfl rfl rfl dX0_read_57 ?_
          refine a_aload_n (pc := 60) C dX0_read_60 rfl 0 rfl ?_
          refine gf_0_2 (pc := 61) C wd_415 dX0_read_61 ?_
          refine a_bipush (pc := 64) C (-2) dX0_read_64 rfl ?_
          refine a_icmp_eq (pc := 66) C 83 dX0_read_66 rfl (fun c8 => ?_) (fun c8 => ?_)
          · replace h := iteT c8 h
            refine a_aload_n (pc := 83) C dX0_read_83 rfl 0 rfl ?_
            refine a_iload (pc := 84) C dX0_read_84 3 rfl ?_
            refine pf_0_2 (pc := 86) C wd_415 dX0_read_86 ?_
            refine a_iinc (pc := 89) C 3 (x4 + 1) [(4, .int (x4 + 1)), (0, .ref (X.N.2.1 33)), (1, .ref (X.N.2.1 a1)), (3, .int x3)] dX0_read_89 rfl rfl (nlt eL rfl) rfl ?_
            refine a_goto (pc := 92) C 26 dX0_read_92 rfl ?_
            refine a_sub [1, 2, 3, 0] rfl ?_
            exact ih (wI q7 33 2 x4) (x4 + 1) h
          · replace h := iteF c8 h
            refine a_aload_n (pc := 69) C dX0_read_69 rfl 1 rfl ?_
            refine a_iload (pc := 70) C dX0_read_70 3 rfl ?_
            obtain ⟨v9, ev9, h⟩ := bndS h
            refine a_lald (pc := 72) C (rw_shp ha1) ev9 dX0_read_72 ?_
            refine a_aload_n (pc := 73) C dX0_read_73 rfl 1 rfl ?_
            refine a_aload_n (pc := 74) C dX0_read_74 rfl 0 rfl ?_
            refine gf_0_2 (pc := 75) C wd_415 dX0_read_75 ?_
            obtain ⟨v10, ev10, h⟩ := bndS h
            refine a_lald (pc := 78) C (rw_shp ha1) ev10 dX0_read_78 ?_
            refine a_lcmp (pc := 79) C dX0_read_79 ?_
            refine a_if_le (pc := 80) C 89 dX0_read_80 rfl (fun c11 => ?_) (fun c11 => ?_)
            · replace h := iteT c11 h
              refine a_iinc (pc := 89) C 3 (x4 + 1) [(4, .int (x4 + 1)), (0, .ref (X.N.2.1 33)), (1, .ref (X.N.2.1 a1)), (3, .int x3)] dX0_read_89 rfl rfl (nlt eL rfl) rfl ?_
              refine a_goto (pc := 92) C 26 dX0_read_92 rfl ?_
              refine a_sub [1, 2, 3, 0] rfl ?_
              exact ih q7 (x4 + 1) h
            · replace h := iteF c11 h
              refine a_aload_n (pc := 83) C dX0_read_83 rfl 0 rfl ?_
              refine a_iload (pc := 84) C dX0_read_84 3 rfl ?_
              refine pf_0_2 (pc := 86) C wd_415 dX0_read_86 ?_
              refine a_iinc (pc := 89) C 3 (x4 + 1) [(4, .int (x4 + 1)), (0, .ref (X.N.2.1 33)), (1, .ref (X.N.2.1 a1)), (3, .int x3)] dX0_read_89 rfl rfl (nlt eL rfl) rfl ?_
              refine a_goto (pc := 92) C 26 dX0_read_92 rfl ?_
              refine a_sub [1, 2, 3, 0] rfl ?_
              exact ih (wI q7 33 2 x4) (x4 + 1) h
set_option maxHeartbeats 200000 in
set_option maxRecDepth 100000 in
theorem ok_fBets_read (l : Launch) (N : Rig) (M : Mem) (a1 : Nat) (ha1 : isRw a1) (x2 : Int32) {M0 : Mem} (h : fBets_read M a1 x2 = some M0) : Ct l N yX0_read cX0_read 5 none 2 [.ref (N.2.1 33), .ref (N.2.1 a1), .int x2] M (QcV N M0) := by
  refine ct_of (by decide) rfl ?_
  intro X el eN eL C E
  subst el
  subst eN
  unfold fBets_read at h
  show WA X M [(0, .ref (X.N.2.1 33)), (1, .ref (X.N.2.1 a1)), (2, .int x2)] 0 []
  refine a_aload_n (pc := 0) C dX0_read_0 rfl 0 rfl ?_
  refine a_lconst (pc := 1) C 0 dX0_read_1 rfl ?_
  refine pf_0_0 (pc := 2) C wd_411 dX0_read_2 ?_
  refine a_aload_n (pc := 5) C dX0_read_5 rfl 0 rfl ?_
  refine a_lconst (pc := 6) C 1 dX0_read_6 rfl ?_
  refine pf_0_1 (pc := 7) C wd_413 dX0_read_7 ?_
  refine a_aload_n (pc := 10) C dX0_read_10 rfl 0 rfl ?_
  refine a_bipush (pc := 11) C (-2) dX0_read_11 rfl ?_
  refine pf_0_2 (pc := 13) C wd_415 dX0_read_13 ?_
  refine a_iload_n (pc := 16) C dX0_read_16 rfl 2 rfl ?_
  refine a_bipush (pc := 17) C 6 dX0_read_17 rfl ?_
  refine a_mmin (pc := 19) C rfl wd_838 wd_652 wd_94 wd_653 rfl dX0_read_19 ?_
  refine a_istore_n (pc := 22) C [(3, .int (mnI x2 6)), (0, .ref (X.N.2.1 33)), (1, .ref (X.N.2.1 a1)), (2, .int x2)] dX0_read_22 rfl (nlt eL rfl) rfl ?_
  refine a_iconst (pc := 23) C 0 dX0_read_23 rfl ?_
  refine a_istore (pc := 24) C [(4, .int 0), (3, .int (mnI x2 6)), (0, .ref (X.N.2.1 33)), (1, .ref (X.N.2.1 a1)), (2, .int x2)] dX0_read_24 (nlt eL rfl) rfl ?_
  refine a_sub (lv2 := [(0, .ref (X.N.2.1 33)), (1, .ref (X.N.2.1 a1)), (3, .int (mnI x2 6)), (4, .int 0)]) [2, 3, 1, 0] rfl ?_
  obtain ⟨o12, eo12, h⟩ := bndS h
  refine ok_fBets_read_L26 eL C a1 ha1 (mnI x2 6) o12 ?_ FU (wI (wL (wL M 33 0 0) 33 1 1) 33 2 (-2)) 0 eo12
  exact a_vret (pc := 95) C E (somI h) dX0_read_95
set_option maxHeartbeats 200000 in
set_option maxRecDepth 100000 in
theorem ok_fBets_isSure (l : Launch) (N : Rig) (M : Mem) : Ct l N yX0_isSure cX0_isSure 1 (some .boolean) 0 [.ref (N.2.1 33)] M (QcI N (some .boolean) (fBets_isSure M) M) := by
  obtain ⟨r, h⟩ : ∃ r, fBets_isSure M = r := ⟨_, rfl⟩
  rw [h]
  refine ct_of (by decide) rfl ?_
  intro X el eN eL C E
  subst el
  subst eN
  unfold fBets_isSure at h
  show WA X M [(0, .ref (X.N.2.1 33))] 0 []
  refine a_aload_n (pc := 0) C dX0_isSure_0 rfl 0 rfl ?_
  refine gf_0_2 (pc := 1) C wd_415 dX0_isSure_1 ?_
  refine a_bipush (pc := 4) C (-2) dX0_isSure_4 rfl ?_
  refine a_icmp_eq (pc := 6) C 25 dX0_isSure_6 rfl (fun c1 => ?_) (fun c1 => ?_)
  · replace h := iteT c1 h
    refine a_iconst (pc := 25) C 0 dX0_isSure_25 rfl ?_
    exact a_iret (pc := 26) C E rfl h rfl dX0_isSure_26
  · replace h := iteF c1 h
    refine a_aload_n (pc := 9) C dX0_isSure_9 rfl 0 rfl ?_
    refine gf_0_0 (pc := 10) C wd_411 dX0_isSure_10 ?_
    refine a_aload_n (pc := 13) C dX0_isSure_13 rfl 0 rfl ?_
    refine gf_0_1 (pc := 14) C wd_413 dX0_isSure_14 ?_
    refine a_lcmp (pc := 17) C dX0_isSure_17 ?_
    refine a_if_ge (pc := 18) C 25 dX0_isSure_18 rfl (fun c2 => ?_) (fun c2 => ?_)
    · replace h := iteT c2 h
      refine a_iconst (pc := 25) C 0 dX0_isSure_25 rfl ?_
      exact a_iret (pc := 26) C E rfl h rfl dX0_isSure_26
    · replace h := iteF c2 h
      refine a_iconst (pc := 21) C 1 dX0_isSure_21 rfl ?_
      refine a_goto (pc := 22) C 26 dX0_isSure_22 rfl ?_
      exact a_iret (pc := 26) C E rfl h rfl dX0_isSure_26
set_option maxHeartbeats 200000 in
set_option maxRecDepth 100000 in
theorem ok_fBodies_isKind (l : Launch) (N : Rig) (M : Mem) (x0 : Int32) : Ct l N yX1_isKind cX1_isKind 1 (some .boolean) 0 [.int x0] M (QcI N (some .boolean) (fBodies_isKind x0) M) := by
  obtain ⟨r, h⟩ : ∃ r, fBodies_isKind x0 = r := ⟨_, rfl⟩
  rw [h]
  refine ct_of (by decide) rfl ?_
  intro X el eN eL C E
  subst el
  subst eN
  unfold fBodies_isKind at h
  show WA X M [(0, .int x0)] 0 []
  refine a_iload_n (pc := 0) C dX1_isKind_0 rfl 0 rfl ?_
  refine a_if_lt (pc := 1) C 14 dX1_isKind_1 rfl (fun c1 => ?_) (fun c1 => ?_)
  · replace h := iteT c1 h
    refine a_iconst (pc := 14) C 0 dX1_isKind_14 rfl ?_
    exact a_iret (pc := 15) C E rfl h rfl dX1_isKind_15
  · replace h := iteF c1 h
    refine a_iload_n (pc := 4) C dX1_isKind_4 rfl 0 rfl ?_
    refine a_bipush (pc := 5) C 8 dX1_isKind_5 rfl ?_
    refine a_icmp_ge (pc := 7) C 14 dX1_isKind_7 rfl (fun c2 => ?_) (fun c2 => ?_)
    · replace h := iteT c2 h
      refine a_iconst (pc := 14) C 0 dX1_isKind_14 rfl ?_
      exact a_iret (pc := 15) C E rfl h rfl dX1_isKind_15
    · replace h := iteF c2 h
      refine a_iconst (pc := 10) C 1 dX1_isKind_10 rfl ?_
      refine a_goto (pc := 11) C 15 dX1_isKind_11 rfl ?_
      exact a_iret (pc := 15) C E rfl h rfl dX1_isKind_15
set_option maxHeartbeats 200000 in
set_option maxRecDepth 100000 in
theorem ok_fBodies_isUnder_L4 {X : Amb} (eL : X.nL = 4) (C : Cx X RX1 cX1_isUnder 0) (x1 : Int32) (M : Mem) (o : Int32) (K : WA X M [(1, .int x1), (2, .int o)] 31 []) : ∀ (n : Nat) (x2 : Int32) (x3 : Int32), fBodies_isUnder_L4 n M x1 x2 x3 = some o → WA X M [(1, .int x1), (2, .int x2), (3, .int x3)] 4 [] := by
  intro n
  induction n with
  | zero => intro _ _ h; cases h
  | succ n ih =>
    intro x2 x3 h
    replace h : fBodies_isUnder_L4_F (fBodies_isUnder_L4 n) M x1 x2 x3 = some o := h
    unfold fBodies_isUnder_L4_F at h
    refine a_iload_n (pc := 4) C dX1_isUnder_4 rfl 2 rfl ?_
    refine a_bipush (pc := 5) C 8 dX1_isUnder_5 rfl ?_
    refine a_icmp_ge (pc := 7) C 31 dX1_isUnder_7 rfl (fun c1 => ?_) (fun c1 => ?_)
    · replace h := iteT c1 h
      refine a_sub (lv2 := [(1, .int x1), (2, .int x2)]) [0, 1] rfl ?_
      cases somI h
      exact K
    · replace h := iteF c1 h
      refine a_iload_n (pc := 10) C dX1_isUnder_10 rfl 1 rfl ?_
      refine a_iload_n (pc := 11) C dX1_isUnder_11 rfl 0 rfl ?_
      refine a_icmp_eq (pc := 12) C 31 dX1_isUnder_12 rfl (fun c2 => ?_) (fun c2 => ?_)
      · replace h := iteT c2 h
        refine a_sub (lv2 := [(1, .int x1), (2, .int x2)]) [0, 1] rfl ?_
        cases somI h
        exact K
      · replace h := iteF c2 h
        refine a_iload_n (pc := 15) C dX1_isUnder_15 rfl 1 rfl ?_
        refine a_if_le (pc := 16) C 31 dX1_isUnder_16 rfl (fun c3 => ?_) (fun c3 => ?_)
        · replace h := iteT c3 h
          refine a_sub (lv2 := [(1, .int x1), (2, .int x2)]) [0, 1] rfl ?_
          cases somI h
          exact K
        · replace h := iteF c3 h
          refine a_gets (pc := 19) C 1 (by decide) wd_977 dX1_isUnder_19 ?_
          refine a_iload_n (pc := 22) C dX1_isUnder_22 rfl 1 rfl ?_
          obtain ⟨v4, ev4, h⟩ := bndS h
          refine a_tald (pc := 23) C 1 (by decide) ev4 dX1_isUnder_23 ?_
          refine a_istore_n (pc := 24) C [(2, .int v4), (1, .int x1), (3, .int x3)] dX1_isUnder_24 rfl (nlt eL rfl) rfl ?_
          refine a_iinc (pc := 25) C 2 (x3 + 1) [(3, .int (x3 + 1)), (2, .int v4), (1, .int x1)] dX1_isUnder_25 rfl rfl (nlt eL rfl) rfl ?_
          refine a_goto (pc := 28) C 4 dX1_isUnder_28 rfl ?_
          refine a_sub [2, 1, 0] rfl ?_
          exact ih v4 (x3 + 1) h
set_option maxHeartbeats 200000 in
set_option maxRecDepth 100000 in
theorem ok_fBodies_isUnder_J31 {X : Amb} (eL : X.nL = 4) (C : Cx X RX1 cX1_isUnder 0) (M : Mem) (r : Int32) (E : En X (some .boolean) (QcI X.N (some .boolean) r M)) (x1 : Int32) (x2 : Int32) (h : fBodies_isUnder_J31 M x1 x2 = some r) : WA X M [(1, .int x1), (2, .int x2)] 31 [] := by
  unfold fBodies_isUnder_J31 at h
  refine a_iload_n (pc := 31) C dX1_isUnder_31 rfl 1 rfl ?_
  refine a_iload_n (pc := 32) C dX1_isUnder_32 rfl 0 rfl ?_
  refine a_icmp_ne (pc := 33) C 40 dX1_isUnder_33 rfl (fun c6 => ?_) (fun c6 => ?_)
  · replace h := iteT c6 h
    refine a_iconst (pc := 40) C 0 dX1_isUnder_40 rfl ?_
    exact a_iret (pc := 41) C E rfl (somI h) rfl dX1_isUnder_41
  · replace h := iteF c6 h
    refine a_iconst (pc := 36) C 1 dX1_isUnder_36 rfl ?_
    refine a_goto (pc := 37) C 41 dX1_isUnder_37 rfl ?_
    exact a_iret (pc := 41) C E rfl (somI h) rfl dX1_isUnder_41
set_option maxHeartbeats 200000 in
set_option maxRecDepth 100000 in
theorem ok_fBodies_isUnder (l : Launch) (N : Rig) (M : Mem) (x0 : Int32) (x1 : Int32) {r : Int32} (h : fBodies_isUnder M x0 x1 = some r) : Ct l N yX1_isUnder cX1_isUnder 4 (some .boolean) 0 [.int x0, .int x1] M (QcI N (some .boolean) r M) := by
  refine ct_of (by decide) rfl ?_
  intro X el eN eL C E
  subst el
  subst eN
  unfold fBodies_isUnder at h
  show WA X M [(0, .int x0), (1, .int x1)] 0 []
  refine a_iload_n (pc := 0) C dX1_isUnder_0 rfl 0 rfl ?_
  refine a_istore_n (pc := 1) C [(2, .int x0), (0, .int x0), (1, .int x1)] dX1_isUnder_1 rfl (nlt eL rfl) rfl ?_
  refine a_iconst (pc := 2) C 0 dX1_isUnder_2 rfl ?_
  refine a_istore_n (pc := 3) C [(3, .int 0), (2, .int x0), (0, .int x0), (1, .int x1)] dX1_isUnder_3 rfl (nlt eL rfl) rfl ?_
  refine a_sub (lv2 := [(1, .int x1), (2, .int x0), (3, .int 0)]) [3, 1, 0] rfl ?_
  obtain ⟨o5, eo5, h⟩ := bndS h
  refine ok_fBodies_isUnder_L4 eL C x1 M o5 ?_ FU x0 0 eo5
  refine a_sub (lv2 := [(1, .int x1), (2, .int o5)]) [0, 1] rfl ?_
  exact ok_fBodies_isUnder_J31 eL C M r E x1 o5 h
set_option maxHeartbeats 200000 in
set_option maxRecDepth 100000 in
theorem ok_fBodies_isBody (l : Launch) (N : Rig) (M : Mem) (x1 : Int32) : Ct l N yX1_isBody cX1_isBody 2 (some .boolean) 0 [.ref (N.2.1 20), .int x1] M (QcI N (some .boolean) (fBodies_isBody M x1) M) := by
  obtain ⟨r, h⟩ : ∃ r, fBodies_isBody M x1 = r := ⟨_, rfl⟩
  rw [h]
  refine ct_of (by decide) rfl ?_
  intro X el eN eL C E
  subst el
  subst eN
  unfold fBodies_isBody at h
  show WA X M [(0, .ref (X.N.2.1 20)), (1, .int x1)] 0 []
  refine a_iload_n (pc := 0) C dX1_isBody_0 rfl 1 rfl ?_
  refine a_if_lt (pc := 1) C 16 dX1_isBody_1 rfl (fun c1 => ?_) (fun c1 => ?_)
  · replace h := iteT c1 h
    refine a_iconst (pc := 16) C 0 dX1_isBody_16 rfl ?_
    exact a_iret (pc := 17) C E rfl h rfl dX1_isBody_17
  · replace h := iteF c1 h
    refine a_iload_n (pc := 4) C dX1_isBody_4 rfl 1 rfl ?_
    refine a_aload_n (pc := 5) C dX1_isBody_5 rfl 0 rfl ?_
    refine gf_1_0 (pc := 6) C wd_366 dX1_isBody_6 ?_
    refine a_icmp_ge (pc := 9) C 16 dX1_isBody_9 rfl (fun c2 => ?_) (fun c2 => ?_)
    · replace h := iteT c2 h
      refine a_iconst (pc := 16) C 0 dX1_isBody_16 rfl ?_
      exact a_iret (pc := 17) C E rfl h rfl dX1_isBody_17
    · replace h := iteF c2 h
      refine a_iconst (pc := 12) C 1 dX1_isBody_12 rfl ?_
      refine a_goto (pc := 13) C 17 dX1_isBody_13 rfl ?_
      exact a_iret (pc := 17) C E rfl h rfl dX1_isBody_17
set_option maxHeartbeats 200000 in
set_option maxRecDepth 100000 in
theorem ok_fBodies_kindOf (l : Launch) (N : Rig) (M : Mem) (x1 : Int32) {r : Int32} (h : fBodies_kindOf M x1 = some r) : Ct l N yX1_kindOf cX1_kindOf 2 (some .int) 1 [.ref (N.2.1 20), .int x1] M (QcI N (some .int) r M) := by
  refine ct_of (by decide) rfl ?_
  intro X el eN eL C E
  subst el
  subst eN
  unfold fBodies_kindOf at h
  show WA X M [(0, .ref (X.N.2.1 20)), (1, .int x1)] 0 []
  refine a_aload_n (pc := 0) C dX1_kindOf_0 rfl 0 rfl ?_
  refine a_iload_n (pc := 1) C dX1_kindOf_1 rfl 1 rfl ?_
  refine a_callVI (pc := 2) C [.int x1] (ok_fBodies_isBody X.l X.N M x1) rfl mw_X1_isBody wd_967 rfl rfl rfl rfl rfl rfl rfl dX1_kindOf_2 (fun z1 => ?_)
  refine a_if_eq (pc := 5) C 17 dX1_kindOf_5 rfl (fun c2 => ?_) (fun c2 => ?_)
  · replace h := iteT c2 h
    refine a_iconst (pc := 17) C (-1) dX1_kindOf_17 rfl ?_
    exact a_iret (pc := 18) C E rfl (somI h) rfl dX1_kindOf_18
  · replace h := iteF c2 h
    refine a_aload_n (pc := 8) C dX1_kindOf_8 rfl 0 rfl ?_
    refine gf_1_3 (pc := 9) C wd_372 dX1_kindOf_9 ?_
    refine a_iload_n (pc := 12) C dX1_kindOf_12 rfl 1 rfl ?_
    obtain ⟨v3, ev3, h⟩ := bndS h
    refine a_iald (pc := 13) C rfl ev3 dX1_kindOf_13 ?_
    refine a_goto (pc := 14) C 18 dX1_kindOf_14 rfl ?_
    exact a_iret (pc := 18) C E rfl (somI h) rfl dX1_kindOf_18
set_option maxHeartbeats 200000 in
set_option maxRecDepth 100000 in
theorem ok_fBodies_made (l : Launch) (N : Rig) (M : Mem) (x1 : Int32) {r : Int32} {M0 : Mem} (h : fBodies_made M x1 = some (r, M0)) : Ct l N yX1_made cX1_made 2 (some .int) 0 [.ref (N.2.1 20), .int x1] M (QcI N (some .int) r M0) := by
  refine ct_of (by decide) rfl ?_
  intro X el eN eL C E
  subst el
  subst eN
  unfold fBodies_made at h
  show WA X M [(0, .ref (X.N.2.1 20)), (1, .int x1)] 0 []
  refine a_aload_n (pc := 0) C dX1_made_0 rfl 0 rfl ?_
  refine gf_1_0 (pc := 1) C wd_366 dX1_made_1 ?_
  refine a_bipush (pc := 4) C 50 dX1_made_4 rfl ?_
  refine a_icmp_lt (pc := 6) C 12 dX1_made_6 rfl (fun c1 => ?_) (fun c1 => ?_)
  · replace h := iteT c1 h
    refine a_aload_n (pc := 12) C dX1_made_12 rfl 0 rfl ?_
    refine gf_1_3 (pc := 13) C wd_372 dX1_made_13 ?_
    refine a_aload_n (pc := 16) C dX1_made_16 rfl 0 rfl ?_
    refine gf_1_0 (pc := 17) C wd_366 dX1_made_17 ?_
    refine a_iload_n (pc := 20) C dX1_made_20 rfl 1 rfl ?_
    obtain ⟨M2, eM2, h⟩ := bndS h
    refine a_iast (pc := 21) C rfl eM2 dX1_made_21 ?_
    refine a_aload_n (pc := 22) C dX1_made_22 rfl 0 rfl ?_
    refine a_dup (pc := 23) C dX1_made_23 rfl ?_
    refine gf_1_0 (pc := 24) C wd_366 dX1_made_24 ?_
    refine a_iconst (pc := 27) C 1 dX1_made_27 rfl ?_
    refine a_iadd (pc := 28) C dX1_made_28 ?_
    refine pf_1_0 (pc := 29) C wd_366 dX1_made_29 ?_
    refine a_aload_n (pc := 32) C dX1_made_32 rfl 0 rfl ?_
    refine gf_1_0 (pc := 33) C wd_366 dX1_made_33 ?_
    refine a_iconst (pc := 36) C 1 dX1_made_36 rfl ?_
    refine a_isub (pc := 37) C dX1_made_37 ?_
    exact a_iret (pc := 38) C E rfl (som1 h) (som2 h) dX1_made_38
  · replace h := iteF c1 h
    refine a_bipush (pc := 9) C (-3) dX1_made_9 rfl ?_
    exact a_iret (pc := 11) C E rfl (som1 h) (som2 h) dX1_made_11
set_option maxHeartbeats 200000 in
set_option maxRecDepth 100000 in
theorem ok_fBodies_traced (l : Launch) (N : Rig) (M : Mem) : Ct l N yX1_traced cX1_traced 1 (some .int) 1 [.ref (N.2.1 20)] M (QcI N (some .int) (fBodies_traced M) M) := by
  obtain ⟨r, h⟩ : ∃ r, fBodies_traced M = r := ⟨_, rfl⟩
  rw [h]
  refine ct_of (by decide) rfl ?_
  intro X el eN eL C E
  subst el
  subst eN
  unfold fBodies_traced at h
  show WA X M [(0, .ref (X.N.2.1 20))] 0 []
  refine a_aload_n (pc := 0) C dX1_traced_0 rfl 0 rfl ?_
  refine gf_1_1 (pc := 1) C wd_368 dX1_traced_1 ?_
  refine a_bipush (pc := 4) C 24 dX1_traced_4 rfl ?_
  refine a_mmin (pc := 6) C rfl wd_999 wd_652 wd_94 wd_653 rfl dX1_traced_6 ?_
  exact a_iret (pc := 9) C E rfl h rfl dX1_traced_9
set_option maxHeartbeats 200000 in
set_option maxRecDepth 100000 in
theorem ok_fBodies_from_L6 {X : Amb} (eL : X.nL = 8) {kr kc : Nat} (hkr : Nat.ble (kr + 1) kc = true) (hkb : Nat.ble 0 kc = true) (C : Cx X RX1 cX1_from kc) (g_fBodies_from : Mem → Int32 → Int32 → Int32 → Int32 → Int32 → Option (Int32 × Mem)) (g_fBodies_byShoe : Mem → Int32 → Int32 → Int32 → Int32 → Option (Int32 × Mem)) (g_fBodies_own : Mem → Int32 → Int32 → Int32 → Int32 → Option (Int32 × Mem)) (g_fBodies_byKind : Mem → Int32 → Int32 → Int32 → Int32 → Int32 → Option (Int32 × Mem)) (G_fBodies_from : ∀ (M : Mem) (x1 : Int32) (x2 : Int32) (x3 : Int32) (x4 : Int32) (x5 : Int32) {r : Int32} {M0 : Mem}, g_fBodies_from M x1 x2 x3 x4 x5 = some (r, M0) → Ct X.l X.N yX1_from cX1_from 8 (some .int) kr [.ref (X.N.2.1 20), .int x1, .int x2, .int x3, .int x4, .int x5] M (QcI X.N (some .int) r M0)) (G_fBodies_byShoe : ∀ (M : Mem) (x1 : Int32) (x2 : Int32) (x3 : Int32) (x4 : Int32) {r : Int32} {M0 : Mem}, g_fBodies_byShoe M x1 x2 x3 x4 = some (r, M0) → Ct X.l X.N yX1_byShoe cX1_byShoe 5 (some .int) kr [.ref (X.N.2.1 20), .int x1, .int x2, .int x3, .int x4] M (QcI X.N (some .int) r M0)) (G_fBodies_own : ∀ (M : Mem) (x1 : Int32) (x2 : Int32) (x3 : Int32) (x4 : Int32) {r : Int32} {M0 : Mem}, g_fBodies_own M x1 x2 x3 x4 = some (r, M0) → Ct X.l X.N yX1_own cX1_own 5 (some .int) kr [.ref (X.N.2.1 20), .int x1, .int x2, .int x3, .int x4] M (QcI X.N (some .int) r M0)) (G_fBodies_byKind : ∀ (M : Mem) (x1 : Int32) (x2 : Int32) (x3 : Int32) (x4 : Int32) (x5 : Int32) {r : Int32} {M0 : Mem}, g_fBodies_byKind M x1 x2 x3 x4 x5 = some (r, M0) → Ct X.l X.N yX1_byKind cX1_byKind 6 (some .int) kr [.ref (X.N.2.1 20), .int x1, .int x2, .int x3, .int x4, .int x5] M (QcI X.N (some .int) r M0)) (x3 : Int32) (x4 : Int32) (x5 : Int32) (x2 : Int32) (M : Mem) (o : Int32) (K : WA X M [(0, .ref (X.N.2.1 20)), (2, .int x2), (3, .int x3), (4, .int x4), (5, .int x5), (6, .int o)] 45 []) : ∀ (n : Nat) (x6 : Int32) (x7 : Int32), fBodies_from_L6 g_fBodies_from g_fBodies_byShoe g_fBodies_own g_fBodies_byKind n M x2 x6 x7 = some o → WA X M [(0, .ref (X.N.2.1 20)), (2, .int x2), (3, .int x3), (4, .int x4), (5, .int x5), (6, .int x6), (7, .int x7)] 6 [] := by
  intro n
  induction n with
  | zero => intro _ _ h; cases h
  | succ n ih =>
    intro x6 x7 h
    replace h : fBodies_from_L6_F g_fBodies_from g_fBodies_byShoe g_fBodies_own g_fBodies_byKind (fBodies_from_L6 g_fBodies_from g_fBodies_byShoe g_fBodies_own g_fBodies_byKind n) M x2 x6 x7 = some o := h
    unfold fBodies_from_L6_F at h
    refine a_iload (pc := 6) C dX1_from_6 6 rfl ?_
    refine a_bipush (pc := 8) C 8 dX1_from_8 rfl ?_
    refine a_icmp_ge (pc := 10) C 45 dX1_from_10 rfl (fun c1 => ?_) (fun c1 => ?_)
    · replace h := iteT c1 h
      refine a_sub (lv2 := [(0, .ref (X.N.2.1 20)), (2, .int x2), (3, .int x3), (4, .int x4), (5, .int x5), (6, .int x6)]) [0, 1, 2, 3, 4, 5] rfl ?_
      cases somI h
      exact K
    · replace h := iteF c1 h
      refine a_iload (pc := 13) C dX1_from_13 5 rfl ?_
      refine a_if_le (pc := 15) C 45 dX1_from_15 rfl (fun c2 => ?_) (fun c2 => ?_)
      · replace h := iteT c2 h
        refine a_sub (lv2 := [(0, .ref (X.N.2.1 20)), (2, .int x2), (3, .int x3), (4, .int x4), (5, .int x5), (6, .int x6)]) [0, 1, 2, 3, 4, 5] rfl ?_
        cases somI h
        exact K
      · replace h := iteF c2 h
        refine a_gets (pc := 18) C 2 (by decide) wd_975 dX1_from_18 ?_
        refine a_iconst (pc := 21) C 4 dX1_from_21 rfl ?_
        refine a_iload (pc := 22) C dX1_from_22 5 rfl ?_
        refine a_imul (pc := 24) C dX1_from_24 ?_
        refine a_iload_n (pc := 25) C dX1_from_25 rfl 1 rfl ?_
        refine a_iadd (pc := 26) C dX1_from_26 ?_
        obtain ⟨v3, ev3, h⟩ := bndS h
        refine a_tald (pc := 27) C 2 (by decide) ev3 dX1_from_27 ?_
        refine a_if_ne (pc := 28) C 45 dX1_from_28 rfl (fun c4 => ?_) (fun c4 => ?_)
        · replace h := iteT c4 h
          refine a_sub (lv2 := [(0, .ref (X.N.2.1 20)), (2, .int x2), (3, .int x3), (4, .int x4), (5, .int x5), (6, .int x6)]) [0, 1, 2, 3, 4, 5] rfl ?_
          cases somI h
          exact K
        · replace h := iteF c4 h
          refine a_gets (pc := 31) C 1 (by decide) wd_977 dX1_from_31 ?_
          refine a_iload (pc := 34) C dX1_from_34 5 rfl ?_
          obtain ⟨v5, ev5, h⟩ := bndS h
          refine a_tald (pc := 36) C 1 (by decide) ev5 dX1_from_36 ?_
          refine a_istore (pc := 37) C [(6, .int v5), (0, .ref (X.N.2.1 20)), (2, .int x2), (3, .int x3), (4, .int x4), (5, .int x5), (7, .int x7)] dX1_from_37 (nlt eL rfl) rfl ?_
          refine a_iinc (pc := 39) C 6 (x7 + 1) [(7, .int (x7 + 1)), (6, .int v5), (0, .ref (X.N.2.1 20)), (2, .int x2), (3, .int x3), (4, .int x4), (5, .int x5)] dX1_from_39 rfl rfl (nlt eL rfl) rfl ?_
          refine a_goto (pc := 42) C 6 dX1_from_42 rfl ?_
          refine a_sub [2, 3, 4, 5, 6, 1, 0] rfl ?_
          exact ih v5 (x7 + 1) h
set_option maxHeartbeats 200000 in
set_option maxRecDepth 100000 in
theorem ok_fBodies_from_J91 {X : Amb} (eL : X.nL = 8) {kr kc : Nat} (hkr : Nat.ble (kr + 1) kc = true) (hkb : Nat.ble 0 kc = true) (C : Cx X RX1 cX1_from kc) (g_fBodies_from : Mem → Int32 → Int32 → Int32 → Int32 → Int32 → Option (Int32 × Mem)) (g_fBodies_byShoe : Mem → Int32 → Int32 → Int32 → Int32 → Option (Int32 × Mem)) (g_fBodies_own : Mem → Int32 → Int32 → Int32 → Int32 → Option (Int32 × Mem)) (g_fBodies_byKind : Mem → Int32 → Int32 → Int32 → Int32 → Int32 → Option (Int32 × Mem)) (G_fBodies_from : ∀ (M : Mem) (x1 : Int32) (x2 : Int32) (x3 : Int32) (x4 : Int32) (x5 : Int32) {r : Int32} {M0 : Mem}, g_fBodies_from M x1 x2 x3 x4 x5 = some (r, M0) → Ct X.l X.N yX1_from cX1_from 8 (some .int) kr [.ref (X.N.2.1 20), .int x1, .int x2, .int x3, .int x4, .int x5] M (QcI X.N (some .int) r M0)) (G_fBodies_byShoe : ∀ (M : Mem) (x1 : Int32) (x2 : Int32) (x3 : Int32) (x4 : Int32) {r : Int32} {M0 : Mem}, g_fBodies_byShoe M x1 x2 x3 x4 = some (r, M0) → Ct X.l X.N yX1_byShoe cX1_byShoe 5 (some .int) kr [.ref (X.N.2.1 20), .int x1, .int x2, .int x3, .int x4] M (QcI X.N (some .int) r M0)) (G_fBodies_own : ∀ (M : Mem) (x1 : Int32) (x2 : Int32) (x3 : Int32) (x4 : Int32) {r : Int32} {M0 : Mem}, g_fBodies_own M x1 x2 x3 x4 = some (r, M0) → Ct X.l X.N yX1_own cX1_own 5 (some .int) kr [.ref (X.N.2.1 20), .int x1, .int x2, .int x3, .int x4] M (QcI X.N (some .int) r M0)) (G_fBodies_byKind : ∀ (M : Mem) (x1 : Int32) (x2 : Int32) (x3 : Int32) (x4 : Int32) (x5 : Int32) {r : Int32} {M0 : Mem}, g_fBodies_byKind M x1 x2 x3 x4 x5 = some (r, M0) → Ct X.l X.N yX1_byKind cX1_byKind 6 (some .int) kr [.ref (X.N.2.1 20), .int x1, .int x2, .int x3, .int x4, .int x5] M (QcI X.N (some .int) r M0)) (r : Int32) (M0 : Mem) (E : En X (some .int) (QcI X.N (some .int) r M0)) (M : Mem) (x3 : Int32) (x4 : Int32) (x5 : Int32) (x6 : Int32) (x7 : Int32) (h : fBodies_from_J91 g_fBodies_from g_fBodies_byShoe g_fBodies_own g_fBodies_byKind M x3 x4 x5 x6 x7 = some (r, M0)) : WA X M [(0, .ref (X.N.2.1 20)), (3, .int x3), (4, .int x4), (5, .int x5), (6, .int x6), (7, .int x7)] 91 [] := by
  unfold fBodies_from_J91 at h
  refine a_aload_n (pc := 91) C dX1_from_91 rfl 0 rfl ?_
  refine a_dup (pc := 92) C dX1_from_92 rfl ?_
  refine gf_1_1 (pc := 93) C wd_368 dX1_from_93 ?_
  refine a_iconst (pc := 96) C 1 dX1_from_96 rfl ?_
  refine a_iadd (pc := 97) C dX1_from_97 ?_
  refine pf_1_1 (pc := 98) C wd_368 dX1_from_98 ?_
  refine a_iload (pc := 101) C dX1_from_101 4 rfl ?_
  refine a_if_ne (pc := 103) C 122 dX1_from_103 rfl (fun c11 => ?_) (fun c11 => ?_)
  · replace h := iteT c11 h
    refine a_aload_n (pc := 122) C dX1_from_122 rfl 0 rfl ?_
    refine a_iload (pc := 123) C dX1_from_123 5 rfl ?_
    refine a_gets (pc := 125) C 1 (by decide) wd_977 dX1_from_125 ?_
    refine a_iload (pc := 128) C dX1_from_128 4 rfl ?_
    obtain ⟨v12, ev12, h⟩ := bndS h
    refine a_tald (pc := 130) C 1 (by decide) ev12 dX1_from_130 ?_
    refine a_iload_n (pc := 131) C dX1_from_131 rfl 1 rfl ?_
    refine a_iload (pc := 132) C dX1_from_132 2 rfl ?_
    refine a_iload (pc := 134) C dX1_from_134 3 rfl ?_
    refine a_iconst (pc := 136) C 1 dX1_from_136 rfl ?_
    refine a_iadd (pc := 137) C dX1_from_137 ?_
    obtain ⟨q13, eq13, h⟩ := bndS h
    refine a_callVI (pc := 138) C [.int x7, .int v12, .int x3, .int x4, .int (x5 + 1)] (G_fBodies_byKind (wI M 20 1 ((M.1 20 1) + 1)) x7 v12 x3 x4 (x5 + 1) eq13) hkr mw_X1_byKind wd_987 rfl rfl rfl rfl rfl rfl rfl dX1_from_138 (fun z14 => ?_)
    exact a_iret (pc := 141) C E rfl (som1 h) (som2 h) dX1_from_141
  · replace h := iteF c11 h
    refine a_aload_n (pc := 106) C dX1_from_106 rfl 0 rfl ?_
    refine a_iload (pc := 107) C dX1_from_107 5 rfl ?_
    refine a_iload_n (pc := 109) C dX1_from_109 rfl 1 rfl ?_
    refine a_iload (pc := 110) C dX1_from_110 2 rfl ?_
    refine a_iload (pc := 112) C dX1_from_112 3 rfl ?_
    refine a_iconst (pc := 114) C 1 dX1_from_114 rfl ?_
    refine a_iadd (pc := 115) C dX1_from_115 ?_
    obtain ⟨q15, eq15, h⟩ := bndS h
    refine a_callVI (pc := 116) C [.int x7, .int x3, .int x4, .int (x5 + 1)] (G_fBodies_byShoe (wI M 20 1 ((M.1 20 1) + 1)) x7 x3 x4 (x5 + 1) eq15) hkr mw_X1_byShoe wd_979 rfl rfl rfl rfl rfl rfl rfl dX1_from_116 (fun z16 => ?_)
    refine a_goto (pc := 119) C 141 dX1_from_119 rfl ?_
    exact a_iret (pc := 141) C E rfl (som1 h) (som2 h) dX1_from_141
set_option maxHeartbeats 200000 in
set_option maxRecDepth 100000 in
theorem ok_fBodies_from_J45 {X : Amb} (eL : X.nL = 8) {kr kc : Nat} (hkr : Nat.ble (kr + 1) kc = true) (hkb : Nat.ble 0 kc = true) (C : Cx X RX1 cX1_from kc) (g_fBodies_from : Mem → Int32 → Int32 → Int32 → Int32 → Int32 → Option (Int32 × Mem)) (g_fBodies_byShoe : Mem → Int32 → Int32 → Int32 → Int32 → Option (Int32 × Mem)) (g_fBodies_own : Mem → Int32 → Int32 → Int32 → Int32 → Option (Int32 × Mem)) (g_fBodies_byKind : Mem → Int32 → Int32 → Int32 → Int32 → Int32 → Option (Int32 × Mem)) (G_fBodies_from : ∀ (M : Mem) (x1 : Int32) (x2 : Int32) (x3 : Int32) (x4 : Int32) (x5 : Int32) {r : Int32} {M0 : Mem}, g_fBodies_from M x1 x2 x3 x4 x5 = some (r, M0) → Ct X.l X.N yX1_from cX1_from 8 (some .int) kr [.ref (X.N.2.1 20), .int x1, .int x2, .int x3, .int x4, .int x5] M (QcI X.N (some .int) r M0)) (G_fBodies_byShoe : ∀ (M : Mem) (x1 : Int32) (x2 : Int32) (x3 : Int32) (x4 : Int32) {r : Int32} {M0 : Mem}, g_fBodies_byShoe M x1 x2 x3 x4 = some (r, M0) → Ct X.l X.N yX1_byShoe cX1_byShoe 5 (some .int) kr [.ref (X.N.2.1 20), .int x1, .int x2, .int x3, .int x4] M (QcI X.N (some .int) r M0)) (G_fBodies_own : ∀ (M : Mem) (x1 : Int32) (x2 : Int32) (x3 : Int32) (x4 : Int32) {r : Int32} {M0 : Mem}, g_fBodies_own M x1 x2 x3 x4 = some (r, M0) → Ct X.l X.N yX1_own cX1_own 5 (some .int) kr [.ref (X.N.2.1 20), .int x1, .int x2, .int x3, .int x4] M (QcI X.N (some .int) r M0)) (G_fBodies_byKind : ∀ (M : Mem) (x1 : Int32) (x2 : Int32) (x3 : Int32) (x4 : Int32) (x5 : Int32) {r : Int32} {M0 : Mem}, g_fBodies_byKind M x1 x2 x3 x4 x5 = some (r, M0) → Ct X.l X.N yX1_byKind cX1_byKind 6 (some .int) kr [.ref (X.N.2.1 20), .int x1, .int x2, .int x3, .int x4, .int x5] M (QcI X.N (some .int) r M0)) (r : Int32) (M0 : Mem) (E : En X (some .int) (QcI X.N (some .int) r M0)) (M : Mem) (x2 : Int32) (x3 : Int32) (x4 : Int32) (x5 : Int32) (x6 : Int32) (h : fBodies_from_J45 g_fBodies_from g_fBodies_byShoe g_fBodies_own g_fBodies_byKind M x2 x3 x4 x5 x6 = some (r, M0)) : WA X M [(0, .ref (X.N.2.1 20)), (2, .int x2), (3, .int x3), (4, .int x4), (5, .int x5), (6, .int x6)] 45 [] := by
  unfold fBodies_from_J45 at h
  refine a_iload (pc := 45) C dX1_from_45 5 rfl ?_
  refine a_if_lt (pc := 47) C 57 dX1_from_47 rfl (fun c7 => ?_) (fun c7 => ?_)
  · replace h := iteT c7 h
    refine a_iconst (pc := 57) C 0 dX1_from_57 rfl ?_
    exact a_iret (pc := 58) C E rfl (som1 h) (som2 h) dX1_from_58
  · replace h := iteF c7 h
    refine a_iload (pc := 50) C dX1_from_50 4 rfl ?_
    refine a_bipush (pc := 52) C 20 dX1_from_52 rfl ?_
    refine a_icmp_le (pc := 54) C 59 dX1_from_54 rfl (fun c8 => ?_) (fun c8 => ?_)
    · replace h := iteT c8 h
      refine a_gets (pc := 59) C 2 (by decide) wd_975 dX1_from_59 ?_
      refine a_iconst (pc := 62) C 4 dX1_from_62 rfl ?_
      refine a_iload (pc := 63) C dX1_from_63 5 rfl ?_
      refine a_imul (pc := 65) C dX1_from_65 ?_
      refine a_iload_n (pc := 66) C dX1_from_66 rfl 1 rfl ?_
      refine a_iadd (pc := 67) C dX1_from_67 ?_
      obtain ⟨v9, ev9, h⟩ := bndS h
      refine a_tald (pc := 68) C 2 (by decide) ev9 dX1_from_68 ?_
      refine a_istore (pc := 69) C [(7, .int v9), (0, .ref (X.N.2.1 20)), (2, .int x2), (3, .int x3), (4, .int x4), (5, .int x5), (6, .int x6)] dX1_from_69 (nlt eL rfl) rfl ?_
      refine a_aload_n (pc := 71) C dX1_from_71 rfl 1 rfl ?_
      refine gf_1_1 (pc := 72) C wd_368 dX1_from_72 ?_
      refine a_bipush (pc := 75) C 24 dX1_from_75 rfl ?_
      refine a_icmp_ge (pc := 77) C 91 dX1_from_77 rfl (fun c10 => ?_) (fun c10 => ?_)
      · replace h := iteT c10 h
        refine a_sub (lv2 := [(0, .ref (X.N.2.1 20)), (3, .int x3), (4, .int x4), (5, .int x5), (6, .int x6), (7, .int v9)]) [1, 3, 4, 5, 6, 0] rfl ?_
        exact ok_fBodies_from_J91 eL hkr hkb C g_fBodies_from g_fBodies_byShoe g_fBodies_own g_fBodies_byKind G_fBodies_from G_fBodies_byShoe G_fBodies_own G_fBodies_byKind r M0 E M x3 x4 x5 x6 v9 h
      · replace h := iteF c10 h
        refine a_aload_n (pc := 80) C dX1_from_80 rfl 1 rfl ?_
        refine gf_1_2 (pc := 81) C wd_370 dX1_from_81 ?_
        refine a_aload_n (pc := 84) C dX1_from_84 rfl 1 rfl ?_
        refine gf_1_1 (pc := 85) C wd_368 dX1_from_85 ?_
        refine a_iload (pc := 88) C dX1_from_88 0 rfl ?_
        obtain ⟨M17, eM17, h⟩ := bndS h
        refine a_iast (pc := 90) C rfl eM17 dX1_from_90 ?_
        refine a_sub (lv2 := [(0, .ref (X.N.2.1 20)), (3, .int x3), (4, .int x4), (5, .int x5), (6, .int x6), (7, .int v9)]) [1, 3, 4, 5, 6, 0] rfl ?_
        exact ok_fBodies_from_J91 eL hkr hkb C g_fBodies_from g_fBodies_byShoe g_fBodies_own g_fBodies_byKind G_fBodies_from G_fBodies_byShoe G_fBodies_own G_fBodies_byKind r M0 E M17 x3 x4 x5 x6 v9 h
    · replace h := iteF c8 h
      refine a_iconst (pc := 57) C 0 dX1_from_57 rfl ?_
      exact a_iret (pc := 58) C E rfl (som1 h) (som2 h) dX1_from_58
set_option maxHeartbeats 200000 in
set_option maxRecDepth 100000 in
theorem ok_fBodies_from_F (l : Launch) (N : Rig) {kr kc : Nat} (hkr : Nat.ble (kr + 1) kc = true) (hkb : Nat.ble 0 kc = true) (g_fBodies_from : Mem → Int32 → Int32 → Int32 → Int32 → Int32 → Option (Int32 × Mem)) (g_fBodies_byShoe : Mem → Int32 → Int32 → Int32 → Int32 → Option (Int32 × Mem)) (g_fBodies_own : Mem → Int32 → Int32 → Int32 → Int32 → Option (Int32 × Mem)) (g_fBodies_byKind : Mem → Int32 → Int32 → Int32 → Int32 → Int32 → Option (Int32 × Mem)) (G_fBodies_from : ∀ (M : Mem) (x1 : Int32) (x2 : Int32) (x3 : Int32) (x4 : Int32) (x5 : Int32) {r : Int32} {M0 : Mem}, g_fBodies_from M x1 x2 x3 x4 x5 = some (r, M0) → Ct l N yX1_from cX1_from 8 (some .int) kr [.ref (N.2.1 20), .int x1, .int x2, .int x3, .int x4, .int x5] M (QcI N (some .int) r M0)) (G_fBodies_byShoe : ∀ (M : Mem) (x1 : Int32) (x2 : Int32) (x3 : Int32) (x4 : Int32) {r : Int32} {M0 : Mem}, g_fBodies_byShoe M x1 x2 x3 x4 = some (r, M0) → Ct l N yX1_byShoe cX1_byShoe 5 (some .int) kr [.ref (N.2.1 20), .int x1, .int x2, .int x3, .int x4] M (QcI N (some .int) r M0)) (G_fBodies_own : ∀ (M : Mem) (x1 : Int32) (x2 : Int32) (x3 : Int32) (x4 : Int32) {r : Int32} {M0 : Mem}, g_fBodies_own M x1 x2 x3 x4 = some (r, M0) → Ct l N yX1_own cX1_own 5 (some .int) kr [.ref (N.2.1 20), .int x1, .int x2, .int x3, .int x4] M (QcI N (some .int) r M0)) (G_fBodies_byKind : ∀ (M : Mem) (x1 : Int32) (x2 : Int32) (x3 : Int32) (x4 : Int32) (x5 : Int32) {r : Int32} {M0 : Mem}, g_fBodies_byKind M x1 x2 x3 x4 x5 = some (r, M0) → Ct l N yX1_byKind cX1_byKind 6 (some .int) kr [.ref (N.2.1 20), .int x1, .int x2, .int x3, .int x4, .int x5] M (QcI N (some .int) r M0)) (M : Mem) (x1 : Int32) (x2 : Int32) (x3 : Int32) (x4 : Int32) (x5 : Int32) (r : Int32) (M0 : Mem) (h : fBodies_from_F g_fBodies_from g_fBodies_byShoe g_fBodies_own g_fBodies_byKind M x1 x2 x3 x4 x5 = some (r, M0)) : Ct l N yX1_from cX1_from 8 (some .int) kc [.ref (N.2.1 20), .int x1, .int x2, .int x3, .int x4, .int x5] M (QcI N (some .int) r M0) := by
  refine ct_of (by decide) rfl ?_
  intro X el eN eL C E
  subst el
  subst eN
  unfold fBodies_from_F at h
  show WA X M [(0, .ref (X.N.2.1 20)), (1, .int x1), (2, .int x2), (3, .int x3), (4, .int x4), (5, .int x5)] 0 []
  refine a_iload_n (pc := 0) C dX1_from_0 rfl 1 rfl ?_
  refine a_istore (pc := 1) C [(6, .int x1), (0, .ref (X.N.2.1 20)), (1, .int x1), (2, .int x2), (3, .int x3), (4, .int x4), (5, .int x5)] dX1_from_1 (nlt eL rfl) rfl ?_
  refine a_iconst (pc := 3) C 0 dX1_from_3 rfl ?_
  refine a_istore (pc := 4) C [(7, .int 0), (6, .int x1), (0, .ref (X.N.2.1 20)), (1, .int x1), (2, .int x2), (3, .int x3), (4, .int x4), (5, .int x5)] dX1_from_4 (nlt eL rfl) rfl ?_
  refine a_sub (lv2 := [(0, .ref (X.N.2.1 20)), (2, .int x2), (3, .int x3), (4, .int x4), (5, .int x5), (6, .int x1), (7, .int 0)]) [2, 4, 5, 6, 7, 1, 0] rfl ?_
  obtain ⟨o6, eo6, h⟩ := bndS h
  refine ok_fBodies_from_L6 eL hkr hkb C g_fBodies_from g_fBodies_byShoe g_fBodies_own g_fBodies_byKind G_fBodies_from G_fBodies_byShoe G_fBodies_own G_fBodies_byKind x3 x4 x5 x2 M o6 ?_ FU x1 0 eo6
  refine a_sub (lv2 := [(0, .ref (X.N.2.1 20)), (2, .int x2), (3, .int x3), (4, .int x4), (5, .int x5), (6, .int o6)]) [0, 1, 2, 3, 4, 5] rfl ?_
  exact ok_fBodies_from_J45 eL hkr hkb C g_fBodies_from g_fBodies_byShoe g_fBodies_own g_fBodies_byKind G_fBodies_from G_fBodies_byShoe G_fBodies_own G_fBodies_byKind r M0 E M x2 x3 x4 x5 o6 h
set_option maxHeartbeats 200000 in
set_option maxRecDepth 100000 in
theorem ok_fBodies_byShoe_F (l : Launch) (N : Rig) {kr kc : Nat} (hkr : Nat.ble (kr + 1) kc = true) (hkb : Nat.ble 0 kc = true) (g_fBodies_from : Mem → Int32 → Int32 → Int32 → Int32 → Int32 → Option (Int32 × Mem)) (g_fBodies_byShoe : Mem → Int32 → Int32 → Int32 → Int32 → Option (Int32 × Mem)) (g_fBodies_own : Mem → Int32 → Int32 → Int32 → Int32 → Option (Int32 × Mem)) (g_fBodies_byKind : Mem → Int32 → Int32 → Int32 → Int32 → Int32 → Option (Int32 × Mem)) (G_fBodies_from : ∀ (M : Mem) (x1 : Int32) (x2 : Int32) (x3 : Int32) (x4 : Int32) (x5 : Int32) {r : Int32} {M0 : Mem}, g_fBodies_from M x1 x2 x3 x4 x5 = some (r, M0) → Ct l N yX1_from cX1_from 8 (some .int) kr [.ref (N.2.1 20), .int x1, .int x2, .int x3, .int x4, .int x5] M (QcI N (some .int) r M0)) (G_fBodies_byShoe : ∀ (M : Mem) (x1 : Int32) (x2 : Int32) (x3 : Int32) (x4 : Int32) {r : Int32} {M0 : Mem}, g_fBodies_byShoe M x1 x2 x3 x4 = some (r, M0) → Ct l N yX1_byShoe cX1_byShoe 5 (some .int) kr [.ref (N.2.1 20), .int x1, .int x2, .int x3, .int x4] M (QcI N (some .int) r M0)) (G_fBodies_own : ∀ (M : Mem) (x1 : Int32) (x2 : Int32) (x3 : Int32) (x4 : Int32) {r : Int32} {M0 : Mem}, g_fBodies_own M x1 x2 x3 x4 = some (r, M0) → Ct l N yX1_own cX1_own 5 (some .int) kr [.ref (N.2.1 20), .int x1, .int x2, .int x3, .int x4] M (QcI N (some .int) r M0)) (G_fBodies_byKind : ∀ (M : Mem) (x1 : Int32) (x2 : Int32) (x3 : Int32) (x4 : Int32) (x5 : Int32) {r : Int32} {M0 : Mem}, g_fBodies_byKind M x1 x2 x3 x4 x5 = some (r, M0) → Ct l N yX1_byKind cX1_byKind 6 (some .int) kr [.ref (N.2.1 20), .int x1, .int x2, .int x3, .int x4, .int x5] M (QcI N (some .int) r M0)) (M : Mem) (x1 : Int32) (x2 : Int32) (x3 : Int32) (x4 : Int32) (r : Int32) (M0 : Mem) (h : fBodies_byShoe_F g_fBodies_from g_fBodies_byShoe g_fBodies_own g_fBodies_byKind M x1 x2 x3 x4 = some (r, M0)) : Ct l N yX1_byShoe cX1_byShoe 5 (some .int) kc [.ref (N.2.1 20), .int x1, .int x2, .int x3, .int x4] M (QcI N (some .int) r M0) := by
  refine ct_of (by decide) rfl ?_
  intro X el eN eL C E
  subst el
  subst eN
  unfold fBodies_byShoe_F at h
  show WA X M [(0, .ref (X.N.2.1 20)), (1, .int x1), (2, .int x2), (3, .int x3), (4, .int x4)] 0 []
  refine a_iload_n (pc := 0) C dX1_byShoe_0 rfl 1 rfl ?_
  by_cases c1 : x1 = 1
  · replace h := iteT c1 h
    refine a_lsw (pc := 1) (off := 35) C 36 dX1_byShoe_1 (by decide) (lsw_eq c1 rfl) rfl ?_
    refine a_iload_n (pc := 36) C dX1_byShoe_36 rfl 3 rfl ?_
    refine a_iload_n (pc := 37) C dX1_byShoe_37 rfl 2 rfl ?_
    refine a_iadd (pc := 38) C dX1_byShoe_38 ?_
    exact a_iret (pc := 39) C E rfl (som1 h) (som2 h) dX1_byShoe_39
  replace h := iteF c1 h
  by_cases c2 : x1 = 2
  · replace h := iteT c2 h
    refine a_lsw (pc := 1) (off := 39) C 40 dX1_byShoe_1 (by decide) (lsw_eq c2 rfl) rfl ?_
    refine a_aload_n (pc := 40) C dX1_byShoe_40 rfl 0 rfl ?_
    refine a_iconst (pc := 41) C 1 dX1_byShoe_41 rfl ?_
    refine a_iload_n (pc := 42) C dX1_byShoe_42 rfl 2 rfl ?_
    refine a_iload_n (pc := 43) C dX1_byShoe_43 rfl 3 rfl ?_
    refine a_iload (pc := 44) C dX1_byShoe_44 4 rfl ?_
    obtain ⟨q3, eq3, h⟩ := bndS h
    refine a_callVI (pc := 46) C [.int 1, .int x2, .int x3, .int x4] (G_fBodies_own M 1 x2 x3 x4 eq3) hkr mw_X1_own wd_983 rfl rfl rfl rfl rfl rfl rfl dX1_byShoe_46 (fun z4 => ?_)
    refine a_aload_n (pc := 49) C dX1_byShoe_49 rfl 0 rfl ?_
    refine a_iconst (pc := 50) C 2 dX1_byShoe_50 rfl ?_
    refine a_iload_n (pc := 51) C dX1_byShoe_51 rfl 2 rfl ?_
    refine a_iconst (pc := 52) C 1 dX1_byShoe_52 rfl ?_
    refine a_iload (pc := 53) C dX1_byShoe_53 4 rfl ?_
    obtain ⟨q5, eq5, h⟩ := bndS h
    refine a_callVI (pc := 55) C [.int 2, .int x2, .int 1, .int x4] (G_fBodies_own q3.2 2 x2 1 x4 eq5) hkr mw_X1_own wd_983 rfl rfl rfl rfl rfl rfl rfl dX1_byShoe_55 (fun z6 => ?_)
    refine a_isub (pc := 58) C dX1_byShoe_58 ?_
    exact a_iret (pc := 59) C E rfl (som1 h) (som2 h) dX1_byShoe_59
  replace h := iteF c2 h
  by_cases c7 : x1 = 10
  · replace h := iteT c7 h
    refine a_lsw (pc := 1) (off := 59) C 60 dX1_byShoe_1 (by decide) (lsw_eq c7 rfl) rfl ?_
    refine a_aload_n (pc := 60) C dX1_byShoe_60 rfl 0 rfl ?_
    refine a_iconst (pc := 61) C 0 dX1_byShoe_61 rfl ?_
    refine a_iload_n (pc := 62) C dX1_byShoe_62 rfl 2 rfl ?_
    refine a_iload_n (pc := 63) C dX1_byShoe_63 rfl 3 rfl ?_
    refine a_iload (pc := 64) C dX1_byShoe_64 4 rfl ?_
    obtain ⟨q8, eq8, h⟩ := bndS h
    refine a_callVI (pc := 66) C [.int 0, .int x2, .int x3, .int x4] (G_fBodies_own M 0 x2 x3 x4 eq8) hkr mw_X1_own wd_983 rfl rfl rfl rfl rfl rfl rfl dX1_byShoe_66 (fun z9 => ?_)
    refine a_iconst (pc := 69) C 2 dX1_byShoe_69 rfl ?_
    refine a_imul (pc := 70) C dX1_byShoe_70 ?_
    exact a_iret (pc := 71) C E rfl (som1 h) (som2 h) dX1_byShoe_71
  replace h := iteF c7 h
  refine a_lsw (pc := 1) (off := 71) C 72 dX1_byShoe_1 (by decide) (by simp [Op.lookupswitch.offset, neI2 1 rfl c1, neI2 2 rfl c2, neI2 10 rfl c7]) rfl ?_
  refine a_iload_n (pc := 72) C dX1_byShoe_72 rfl 3 rfl ?_
  refine a_iload_n (pc := 73) C dX1_byShoe_73 rfl 2 rfl ?_
  refine a_ixor (pc := 74) C dX1_byShoe_74 ?_
  exact a_iret (pc := 75) C E rfl (som1 h) (som2 h) dX1_byShoe_75
set_option maxHeartbeats 200000 in
set_option maxRecDepth 100000 in
theorem ok_fBodies_own_F (l : Launch) (N : Rig) {kr kc : Nat} (hkr : Nat.ble (kr + 1) kc = true) (hkb : Nat.ble 0 kc = true) (g_fBodies_from : Mem → Int32 → Int32 → Int32 → Int32 → Int32 → Option (Int32 × Mem)) (g_fBodies_byShoe : Mem → Int32 → Int32 → Int32 → Int32 → Option (Int32 × Mem)) (g_fBodies_own : Mem → Int32 → Int32 → Int32 → Int32 → Option (Int32 × Mem)) (g_fBodies_byKind : Mem → Int32 → Int32 → Int32 → Int32 → Int32 → Option (Int32 × Mem)) (G_fBodies_from : ∀ (M : Mem) (x1 : Int32) (x2 : Int32) (x3 : Int32) (x4 : Int32) (x5 : Int32) {r : Int32} {M0 : Mem}, g_fBodies_from M x1 x2 x3 x4 x5 = some (r, M0) → Ct l N yX1_from cX1_from 8 (some .int) kr [.ref (N.2.1 20), .int x1, .int x2, .int x3, .int x4, .int x5] M (QcI N (some .int) r M0)) (G_fBodies_byShoe : ∀ (M : Mem) (x1 : Int32) (x2 : Int32) (x3 : Int32) (x4 : Int32) {r : Int32} {M0 : Mem}, g_fBodies_byShoe M x1 x2 x3 x4 = some (r, M0) → Ct l N yX1_byShoe cX1_byShoe 5 (some .int) kr [.ref (N.2.1 20), .int x1, .int x2, .int x3, .int x4] M (QcI N (some .int) r M0)) (G_fBodies_own : ∀ (M : Mem) (x1 : Int32) (x2 : Int32) (x3 : Int32) (x4 : Int32) {r : Int32} {M0 : Mem}, g_fBodies_own M x1 x2 x3 x4 = some (r, M0) → Ct l N yX1_own cX1_own 5 (some .int) kr [.ref (N.2.1 20), .int x1, .int x2, .int x3, .int x4] M (QcI N (some .int) r M0)) (G_fBodies_byKind : ∀ (M : Mem) (x1 : Int32) (x2 : Int32) (x3 : Int32) (x4 : Int32) (x5 : Int32) {r : Int32} {M0 : Mem}, g_fBodies_byKind M x1 x2 x3 x4 x5 = some (r, M0) → Ct l N yX1_byKind cX1_byKind 6 (some .int) kr [.ref (N.2.1 20), .int x1, .int x2, .int x3, .int x4, .int x5] M (QcI N (some .int) r M0)) (M : Mem) (x1 : Int32) (x2 : Int32) (x3 : Int32) (x4 : Int32) (r : Int32) (M0 : Mem) (h : fBodies_own_F g_fBodies_from g_fBodies_byShoe g_fBodies_own g_fBodies_byKind M x1 x2 x3 x4 = some (r, M0)) : Ct l N yX1_own cX1_own 5 (some .int) kc [.ref (N.2.1 20), .int x1, .int x2, .int x3, .int x4] M (QcI N (some .int) r M0) := by
  refine ct_of (by decide) rfl ?_
  intro X el eN eL C E
  subst el
  subst eN
  unfold fBodies_own_F at h
  show WA X M [(0, .ref (X.N.2.1 20)), (1, .int x1), (2, .int x2), (3, .int x3), (4, .int x4)] 0 []
  refine a_aload_n (pc := 0) C dX1_own_0 rfl 0 rfl ?_
  refine a_aload_n (pc := 1) C dX1_own_1 rfl 0 rfl ?_
  refine gf_1_3 (pc := 2) C wd_372 dX1_own_2 ?_
  refine a_iload_n (pc := 5) C dX1_own_5 rfl 2 rfl ?_
  obtain ⟨v1, ev1, h⟩ := bndS h
  refine a_iald (pc := 6) C rfl ev1 dX1_own_6 ?_
  refine a_iload_n (pc := 7) C dX1_own_7 rfl 1 rfl ?_
  refine a_iload_n (pc := 8) C dX1_own_8 rfl 2 rfl ?_
  refine a_iload_n (pc := 9) C dX1_own_9 rfl 3 rfl ?_
  refine a_iload (pc := 10) C dX1_own_10 4 rfl ?_
  obtain ⟨q2, eq2, h⟩ := bndS h
  refine a_callVI (pc := 12) C [.int v1, .int x1, .int x2, .int x3, .int x4] (G_fBodies_from M v1 x1 x2 x3 x4 eq2) hkr mw_X1_from wd_971 rfl rfl rfl rfl rfl rfl rfl dX1_own_12 (fun z3 => ?_)
  exact a_iret (pc := 15) C E rfl (som1 h) (som2 h) dX1_own_15
set_option maxHeartbeats 200000 in
set_option maxRecDepth 100000 in
theorem ok_fBodies_byKind_F (l : Launch) (N : Rig) {kr kc : Nat} (hkr : Nat.ble (kr + 1) kc = true) (hkb : Nat.ble 0 kc = true) (g_fBodies_from : Mem → Int32 → Int32 → Int32 → Int32 → Int32 → Option (Int32 × Mem)) (g_fBodies_byShoe : Mem → Int32 → Int32 → Int32 → Int32 → Option (Int32 × Mem)) (g_fBodies_own : Mem → Int32 → Int32 → Int32 → Int32 → Option (Int32 × Mem)) (g_fBodies_byKind : Mem → Int32 → Int32 → Int32 → Int32 → Int32 → Option (Int32 × Mem)) (G_fBodies_from : ∀ (M : Mem) (x1 : Int32) (x2 : Int32) (x3 : Int32) (x4 : Int32) (x5 : Int32) {r : Int32} {M0 : Mem}, g_fBodies_from M x1 x2 x3 x4 x5 = some (r, M0) → Ct l N yX1_from cX1_from 8 (some .int) kr [.ref (N.2.1 20), .int x1, .int x2, .int x3, .int x4, .int x5] M (QcI N (some .int) r M0)) (G_fBodies_byShoe : ∀ (M : Mem) (x1 : Int32) (x2 : Int32) (x3 : Int32) (x4 : Int32) {r : Int32} {M0 : Mem}, g_fBodies_byShoe M x1 x2 x3 x4 = some (r, M0) → Ct l N yX1_byShoe cX1_byShoe 5 (some .int) kr [.ref (N.2.1 20), .int x1, .int x2, .int x3, .int x4] M (QcI N (some .int) r M0)) (G_fBodies_own : ∀ (M : Mem) (x1 : Int32) (x2 : Int32) (x3 : Int32) (x4 : Int32) {r : Int32} {M0 : Mem}, g_fBodies_own M x1 x2 x3 x4 = some (r, M0) → Ct l N yX1_own cX1_own 5 (some .int) kr [.ref (N.2.1 20), .int x1, .int x2, .int x3, .int x4] M (QcI N (some .int) r M0)) (G_fBodies_byKind : ∀ (M : Mem) (x1 : Int32) (x2 : Int32) (x3 : Int32) (x4 : Int32) (x5 : Int32) {r : Int32} {M0 : Mem}, g_fBodies_byKind M x1 x2 x3 x4 x5 = some (r, M0) → Ct l N yX1_byKind cX1_byKind 6 (some .int) kr [.ref (N.2.1 20), .int x1, .int x2, .int x3, .int x4, .int x5] M (QcI N (some .int) r M0)) (M : Mem) (x1 : Int32) (x2 : Int32) (x3 : Int32) (x4 : Int32) (x5 : Int32) (r : Int32) (M0 : Mem) (h : fBodies_byKind_F g_fBodies_from g_fBodies_byShoe g_fBodies_own g_fBodies_byKind M x1 x2 x3 x4 x5 = some (r, M0)) : Ct l N yX1_byKind cX1_byKind 6 (some .int) kc [.ref (N.2.1 20), .int x1, .int x2, .int x3, .int x4, .int x5] M (QcI N (some .int) r M0) := by
  refine ct_of (by decide) rfl ?_
  intro X el eN eL C E
  subst el
  subst eN
  unfold fBodies_byKind_F at h
  show WA X M [(0, .ref (X.N.2.1 20)), (1, .int x1), (2, .int x2), (3, .int x3), (4, .int x4), (5, .int x5)] 0 []
  refine a_iload_n (pc := 0) C dX1_byKind_0 rfl 1 rfl ?_
  by_cases c1 : x1 = 20
  · replace h := iteT c1 h
    refine a_lsw (pc := 1) (off := 75) C 76 dX1_byKind_1 (by decide) (lsw_eq c1 rfl) rfl ?_
    refine a_aload_n (pc := 76) C dX1_byKind_76 rfl 0 rfl ?_
    refine a_iload_n (pc := 77) C dX1_byKind_77 rfl 2 rfl ?_
    refine a_iconst (pc := 78) C 0 dX1_byKind_78 rfl ?_
    refine a_iload_n (pc := 79) C dX1_byKind_79 rfl 3 rfl ?_
    refine a_iload (pc := 80) C dX1_byKind_80 4 rfl ?_
    refine a_iload (pc := 82) C dX1_byKind_82 5 rfl ?_
    obtain ⟨q2, eq2, h⟩ := bndS h
    refine a_callVI (pc := 84) C [.int x2, .int 0, .int x3, .int x4, .int x5] (G_fBodies_from M x2 0 x3 x4 x5 eq2) hkr mw_X1_from wd_971 rfl rfl rfl rfl rfl rfl rfl dX1_byKind_84 (fun z3 => ?_)
    refine a_iconst (pc := 87) C 3 dX1_byKind_87 rfl ?_
    refine a_iadd (pc := 88) C dX1_byKind_88 ?_
    exact a_iret (pc := 89) C E rfl (som1 h) (som2 h) dX1_byKind_89
  replace h := iteF c1 h
  by_cases c4 : x1 = 30
  · replace h := iteT c4 h
    refine a_lsw (pc := 1) (off := 89) C 90 dX1_byKind_1 (by decide) (lsw_eq c4 rfl) rfl ?_
    refine a_aload_n (pc := 90) C dX1_byKind_90 rfl 0 rfl ?_
    refine a_iload_n (pc := 91) C dX1_byKind_91 rfl 2 rfl ?_
    refine a_iconst (pc := 92) C 1 dX1_byKind_92 rfl ?_
    refine a_iload_n (pc := 93) C dX1_byKind_93 rfl 3 rfl ?_
    refine a_iload (pc := 94) C dX1_byKind_94 4 rfl ?_
    refine a_iload (pc := 96) C dX1_byKind_96 5 rfl ?_
    obtain ⟨q5, eq5, h⟩ := bndS h
    refine a_callVI (pc := 98) C [.int x2, .int 1, .int x3, .int x4, .int x5] (G_fBodies_from M x2 1 x3 x4 x5 eq5) hkr mw_X1_from wd_971 rfl rfl rfl rfl rfl rfl rfl dX1_byKind_98 (fun z6 => ?_)
    refine a_ineg (pc := 101) C dX1_byKind_101 ?_
    exact a_iret (pc := 102) C E rfl (som1 h) (som2 h) dX1_byKind_102
  replace h := iteF c4 h
  by_cases c7 : x1 = 40
  · replace h := iteT c7 h
    refine a_lsw (pc := 1) (off := 102) C 103 dX1_byKind_1 (by decide) (lsw_eq c7 rfl) rfl ?_
    refine a_aload_n (pc := 103) C dX1_byKind_103 rfl 0 rfl ?_
    refine a_iload_n (pc := 104) C dX1_byKind_104 rfl 2 rfl ?_
    refine a_iconst (pc := 105) C 2 dX1_byKind_105 rfl ?_
    refine a_iload_n (pc := 106) C dX1_byKind_106 rfl 3 rfl ?_
    refine a_iload (pc := 107) C dX1_byKind_107 4 rfl ?_
    refine a_iload (pc := 109) C dX1_byKind_109 5 rfl ?_
    obtain ⟨q8, eq8, h⟩ := bndS h
    refine a_callVI (pc := 111) C [.int x2, .int 2, .int x3, .int x4, .int x5] (G_fBodies_from M x2 2 x3 x4 x5 eq8) hkr mw_X1_from wd_971 rfl rfl rfl rfl rfl rfl rfl dX1_byKind_111 (fun z9 => ?_)
    refine a_iconst (pc := 114) C 3 dX1_byKind_114 rfl ?_
    refine a_imul (pc := 115) C dX1_byKind_115 ?_
    exact a_iret (pc := 116) C E rfl (som1 h) (som2 h) dX1_byKind_116
  replace h := iteF c7 h
  by_cases c10 : x1 = 41
  · replace h := iteT c10 h
    refine a_lsw (pc := 1) (off := 116) C 117 dX1_byKind_1 (by decide) (lsw_eq c10 rfl) rfl ?_
    refine a_aload_n (pc := 117) C dX1_byKind_117 rfl 0 rfl ?_
    refine a_iload_n (pc := 118) C dX1_byKind_118 rfl 2 rfl ?_
    refine a_iconst (pc := 119) C 1 dX1_byKind_119 rfl ?_
    refine a_iload_n (pc := 120) C dX1_byKind_120 rfl 3 rfl ?_
    refine a_iload (pc := 121) C dX1_byKind_121 4 rfl ?_
    refine a_iconst (pc := 123) C 1 dX1_byKind_123 rfl ?_
    refine a_iadd (pc := 124) C dX1_byKind_124 ?_
    refine a_iload (pc := 125) C dX1_byKind_125 5 rfl ?_
    obtain ⟨q11, eq11, h⟩ := bndS h
    refine a_callVI (pc := 127) C [.int x2, .int 1, .int x3, .int (x4 + 1), .int x5] (G_fBodies_from M x2 1 x3 (x4 + 1) x5 eq11) hkr mw_X1_from wd_971 rfl rfl rfl rfl rfl rfl rfl dX1_byKind_127 (fun z12 => ?_)
    exact a_iret (pc := 130) C E rfl (som1 h) (som2 h) dX1_byKind_130
  replace h := iteF c10 h
  by_cases c13 : x1 = 50
  · replace h := iteT c13 h
    refine a_lsw (pc := 1) (off := 130) C 131 dX1_byKind_1 (by decide) (lsw_eq c13 rfl) rfl ?_
    refine a_aload_n (pc := 131) C dX1_byKind_131 rfl 0 rfl ?_
    refine a_iload_n (pc := 132) C dX1_byKind_132 rfl 2 rfl ?_
    refine a_iconst (pc := 133) C 2 dX1_byKind_133 rfl ?_
    refine a_iload_n (pc := 134) C dX1_byKind_134 rfl 3 rfl ?_
    refine a_iload (pc := 135) C dX1_byKind_135 4 rfl ?_
    refine a_iload (pc := 137) C dX1_byKind_137 5 rfl ?_
    obtain ⟨q14, eq14, h⟩ := bndS h
    refine a_callVI (pc := 139) C [.int x2, .int 2, .int x3, .int x4, .int x5] (G_fBodies_from M x2 2 x3 x4 x5 eq14) hkr mw_X1_from wd_971 rfl rfl rfl rfl rfl rfl rfl dX1_byKind_139 (fun z15 => ?_)
    refine a_aload_n (pc := 142) C dX1_byKind_142 rfl 0 rfl ?_
    refine a_iconst (pc := 143) C 0 dX1_byKind_143 rfl ?_
    refine a_iload_n (pc := 144) C dX1_byKind_144 rfl 3 rfl ?_
    refine a_iconst (pc := 145) C 2 dX1_byKind_145 rfl ?_
    refine a_iload (pc := 146) C dX1_byKind_146 5 rfl ?_
    obtain ⟨q16, eq16, h⟩ := bndS h
    refine a_callVI (pc := 148) C [.int 0, .int x3, .int 2, .int x5] (G_fBodies_own q14.2 0 x3 2 x5 eq16) hkr mw_X1_own wd_983 rfl rfl rfl rfl rfl rfl rfl dX1_byKind_148 (fun z17 => ?_)
    refine a_isub (pc := 151) C dX1_byKind_151 ?_
    exact a_iret (pc := 152) C E rfl (som1 h) (som2 h) dX1_byKind_152
  replace h := iteF c13 h
  by_cases c18 : x1 = 60
  · replace h := iteT c18 h
    refine a_lsw (pc := 1) (off := 152) C 153 dX1_byKind_1 (by decide) (lsw_eq c18 rfl) rfl ?_
    refine a_aload_n (pc := 153) C dX1_byKind_153 rfl 0 rfl ?_
    refine a_iload_n (pc := 154) C dX1_byKind_154 rfl 2 rfl ?_
    refine a_iconst (pc := 155) C 3 dX1_byKind_155 rfl ?_
    refine a_iload_n (pc := 156) C dX1_byKind_156 rfl 3 rfl ?_
    refine a_iload (pc := 157) C dX1_byKind_157 4 rfl ?_
    refine a_iload (pc := 159) C dX1_byKind_159 5 rfl ?_
    obtain ⟨q19, eq19, h⟩ := bndS h
    refine a_callVI (pc := 161) C [.int x2, .int 3, .int x3, .int x4, .int x5] (G_fBodies_from M x2 3 x3 x4 x5 eq19) hkr mw_X1_from wd_971 rfl rfl rfl rfl rfl rfl rfl dX1_byKind_161 (fun z20 => ?_)
    refine a_iconst (pc := 164) C 5 dX1_byKind_164 rfl ?_
    refine a_ixor (pc := 165) C dX1_byKind_165 ?_
    exact a_iret (pc := 166) C E rfl (som1 h) (som2 h) dX1_byKind_166
  replace h := iteF c18 h
  by_cases c21 : x1 = 70
  · replace h := iteT c21 h
    refine a_lsw (pc := 1) (off := 166) C 167 dX1_byKind_1 (by decide) (lsw_eq c21 rfl) rfl ?_
    refine a_aload_n (pc := 167) C dX1_byKind_167 rfl 0 rfl ?_
    refine a_iload_n (pc := 168) C dX1_byKind_168 rfl 2 rfl ?_
    refine a_iconst (pc := 169) C 0 dX1_byKind_169 rfl ?_
    refine a_iload_n (pc := 170) C dX1_byKind_170 rfl 3 rfl ?_
    refine a_iload (pc := 171) C dX1_byKind_171 4 rfl ?_
    refine a_iload (pc := 173) C dX1_byKind_173 5 rfl ?_
    obtain ⟨q22, eq22, h⟩ := bndS h
    refine a_callVI (pc := 175) C [.int x2, .int 0, .int x3, .int x4, .int x5] (G_fBodies_from M x2 0 x3 x4 x5 eq22) hkr mw_X1_from wd_971 rfl rfl rfl rfl rfl rfl rfl dX1_byKind_175 (fun z23 => ?_)
    refine a_iconst (pc := 178) C 2 dX1_byKind_178 rfl ?_
    refine a_imul (pc := 179) C dX1_byKind_179 ?_
    exact a_iret (pc := 180) C E rfl (som1 h) (som2 h) dX1_byKind_180
  replace h := iteF c21 h
  by_cases c24 : x1 = 80
  · replace h := iteT c24 h
    refine a_lsw (pc := 1) (off := 180) C 181 dX1_byKind_1 (by decide) (lsw_eq c24 rfl) rfl ?_
    refine a_aload_n (pc := 181) C dX1_byKind_181 rfl 0 rfl ?_
    refine a_iload_n (pc := 182) C dX1_byKind_182 rfl 2 rfl ?_
    refine a_iconst (pc := 183) C 1 dX1_byKind_183 rfl ?_
    refine a_iload_n (pc := 184) C dX1_byKind_184 rfl 3 rfl ?_
    refine a_iload (pc := 185) C dX1_byKind_185 4 rfl ?_
    refine a_iload (pc := 187) C dX1_byKind_187 5 rfl ?_
    obtain ⟨q25, eq25, h⟩ := bndS h
    refine a_callVI (pc := 189) C [.int x2, .int 1, .int x3, .int x4, .int x5] (G_fBodies_from M x2 1 x3 x4 x5 eq25) hkr mw_X1_from wd_971 rfl rfl rfl rfl rfl rfl rfl dX1_byKind_189 (fun z26 => ?_)
    refine a_aload_n (pc := 192) C dX1_byKind_192 rfl 0 rfl ?_
    refine a_iconst (pc := 193) C 2 dX1_byKind_193 rfl ?_
    refine a_iload_n (pc := 194) C dX1_byKind_194 rfl 3 rfl ?_
    refine a_iconst (pc := 195) C 2 dX1_byKind_195 rfl ?_
    refine a_iload (pc := 196) C dX1_byKind_196 5 rfl ?_
    obtain ⟨q27, eq27, h⟩ := bndS h
    refine a_callVI (pc := 198) C [.int 2, .int x3, .int 2, .int x5] (G_fBodies_own q25.2 2 x3 2 x5 eq27) hkr mw_X1_own wd_983 rfl rfl rfl rfl rfl rfl rfl dX1_byKind_198 (fun z28 => ?_)
    refine a_iadd (pc := 201) C dX1_byKind_201 ?_
    exact a_iret (pc := 202) C E rfl (som1 h) (som2 h) dX1_byKind_202
  replace h := iteF c24 h
  refine a_lsw (pc := 1) (off := 202) C 203 dX1_byKind_1 (by decide) (by simp [Op.lookupswitch.offset, neI2 20 rfl c1, neI2 30 rfl c4, neI2 40 rfl c7, neI2 41 rfl c10, neI2 50 rfl c13, neI2 60 rfl c18, neI2 70 rfl c21, neI2 80 rfl c24]) rfl ?_
  refine a_aload_n (pc := 203) C dX1_byKind_203 rfl 0 rfl ?_
  refine a_iload_n (pc := 204) C dX1_byKind_204 rfl 2 rfl ?_
  refine a_iconst (pc := 205) C 3 dX1_byKind_205 rfl ?_
  refine a_iload_n (pc := 206) C dX1_byKind_206 rfl 3 rfl ?_
  refine a_iload (pc := 207) C dX1_byKind_207 4 rfl ?_
  refine a_iload (pc := 209) C dX1_byKind_209 5 rfl ?_
  obtain ⟨q29, eq29, h⟩ := bndS h
  refine a_callVI (pc := 211) C [.int x2, .int 3, .int x3, .int x4, .int x5] (G_fBodies_from M x2 3 x3 x4 x5 eq29) hkr mw_X1_from wd_971 rfl rfl rfl rfl rfl rfl rfl dX1_byKind_211 (fun z30 => ?_)
  refine a_iconst (pc := 214) C 1 dX1_byKind_214 rfl ?_
  refine a_isub (pc := 215) C dX1_byKind_215 ?_
  exact a_iret (pc := 216) C E rfl (som1 h) (som2 h) dX1_byKind_216
theorem ok_rec_fBodies_from (l : Launch) (N : Rig) : ∀ n : Nat, (∀ (M : Mem) (x1 : Int32) (x2 : Int32) (x3 : Int32) (x4 : Int32) (x5 : Int32) {r : Int32} {M0 : Mem}, (rec_fBodies_from n).1 M x1 x2 x3 x4 x5 = some (r, M0) → Ct l N yX1_from cX1_from 8 (some .int) (0 + n) [.ref (N.2.1 20), .int x1, .int x2, .int x3, .int x4, .int x5] M (QcI N (some .int) r M0)) ∧ (∀ (M : Mem) (x1 : Int32) (x2 : Int32) (x3 : Int32) (x4 : Int32) {r : Int32} {M0 : Mem}, (rec_fBodies_from n).2.1 M x1 x2 x3 x4 = some (r, M0) → Ct l N yX1_byShoe cX1_byShoe 5 (some .int) (0 + n) [.ref (N.2.1 20), .int x1, .int x2, .int x3, .int x4] M (QcI N (some .int) r M0)) ∧ (∀ (M : Mem) (x1 : Int32) (x2 : Int32) (x3 : Int32) (x4 : Int32) {r : Int32} {M0 : Mem}, (rec_fBodies_from n).2.2.1 M x1 x2 x3 x4 = some (r, M0) → Ct l N yX1_own cX1_own 5 (some .int) (0 + n) [.ref (N.2.1 20), .int x1, .int x2, .int x3, .int x4] M (QcI N (some .int) r M0)) ∧ (∀ (M : Mem) (x1 : Int32) (x2 : Int32) (x3 : Int32) (x4 : Int32) (x5 : Int32) {r : Int32} {M0 : Mem}, (rec_fBodies_from n).2.2.2 M x1 x2 x3 x4 x5 = some (r, M0) → Ct l N yX1_byKind cX1_byKind 6 (some .int) (0 + n) [.ref (N.2.1 20), .int x1, .int x2, .int x3, .int x4, .int x5] M (QcI N (some .int) r M0)) := by
  intro n
  induction n with
  | zero => exact ⟨(by intro _ _ _ _ _ _ _ _ h; cases h), (by intro _ _ _ _ _ _ _ h; cases h), (by intro _ _ _ _ _ _ _ h; cases h), (by intro _ _ _ _ _ _ _ _ h; cases h)⟩
  | succ n ih => exact ⟨fun M x1 x2 x3 x4 x5 r M0 h => ok_fBodies_from_F l N (kr := 0 + n) (kc := 0 + (n + 1)) (Nat.ble_eq.mpr (by omega)) (Nat.ble_eq.mpr (by omega)) (rec_fBodies_from n).1 (rec_fBodies_from n).2.1 (rec_fBodies_from n).2.2.1 (rec_fBodies_from n).2.2.2 ih.1 ih.2.1 ih.2.2.1 ih.2.2.2 M x1 x2 x3 x4 x5 r M0 h, fun M x1 x2 x3 x4 r M0 h => ok_fBodies_byShoe_F l N (kr := 0 + n) (kc := 0 + (n + 1)) (Nat.ble_eq.mpr (by omega)) (Nat.ble_eq.mpr (by omega)) (rec_fBodies_from n).1 (rec_fBodies_from n).2.1 (rec_fBodies_from n).2.2.1 (rec_fBodies_from n).2.2.2 ih.1 ih.2.1 ih.2.2.1 ih.2.2.2 M x1 x2 x3 x4 r M0 h, fun M x1 x2 x3 x4 r M0 h => ok_fBodies_own_F l N (kr := 0 + n) (kc := 0 + (n + 1)) (Nat.ble_eq.mpr (by omega)) (Nat.ble_eq.mpr (by omega)) (rec_fBodies_from n).1 (rec_fBodies_from n).2.1 (rec_fBodies_from n).2.2.1 (rec_fBodies_from n).2.2.2 ih.1 ih.2.1 ih.2.2.1 ih.2.2.2 M x1 x2 x3 x4 r M0 h, fun M x1 x2 x3 x4 x5 r M0 h => ok_fBodies_byKind_F l N (kr := 0 + n) (kc := 0 + (n + 1)) (Nat.ble_eq.mpr (by omega)) (Nat.ble_eq.mpr (by omega)) (rec_fBodies_from n).1 (rec_fBodies_from n).2.1 (rec_fBodies_from n).2.2.1 (rec_fBodies_from n).2.2.2 ih.1 ih.2.1 ih.2.2.1 ih.2.2.2 M x1 x2 x3 x4 x5 r M0 h⟩
theorem ok_fBodies_from (l : Launch) (N : Rig) (M : Mem) (x1 : Int32) (x2 : Int32) (x3 : Int32) (x4 : Int32) (x5 : Int32) {r : Int32} {M0 : Mem} (h : fBodies_from M x1 x2 x3 x4 x5 = some (r, M0)) : Ct l N yX1_from cX1_from 8 (some .int) 100 [.ref (N.2.1 20), .int x1, .int x2, .int x3, .int x4, .int x5] M (QcI N (some .int) r M0) := (ok_rec_fBodies_from l N 100).1 M x1 x2 x3 x4 x5 h
theorem ok_fBodies_byShoe (l : Launch) (N : Rig) (M : Mem) (x1 : Int32) (x2 : Int32) (x3 : Int32) (x4 : Int32) {r : Int32} {M0 : Mem} (h : fBodies_byShoe M x1 x2 x3 x4 = some (r, M0)) : Ct l N yX1_byShoe cX1_byShoe 5 (some .int) 100 [.ref (N.2.1 20), .int x1, .int x2, .int x3, .int x4] M (QcI N (some .int) r M0) := (ok_rec_fBodies_from l N 100).2.1 M x1 x2 x3 x4 h
theorem ok_fBodies_own (l : Launch) (N : Rig) (M : Mem) (x1 : Int32) (x2 : Int32) (x3 : Int32) (x4 : Int32) {r : Int32} {M0 : Mem} (h : fBodies_own M x1 x2 x3 x4 = some (r, M0)) : Ct l N yX1_own cX1_own 5 (some .int) 100 [.ref (N.2.1 20), .int x1, .int x2, .int x3, .int x4] M (QcI N (some .int) r M0) := (ok_rec_fBodies_from l N 100).2.2.1 M x1 x2 x3 x4 h
theorem ok_fBodies_byKind (l : Launch) (N : Rig) (M : Mem) (x1 : Int32) (x2 : Int32) (x3 : Int32) (x4 : Int32) (x5 : Int32) {r : Int32} {M0 : Mem} (h : fBodies_byKind M x1 x2 x3 x4 x5 = some (r, M0)) : Ct l N yX1_byKind cX1_byKind 6 (some .int) 100 [.ref (N.2.1 20), .int x1, .int x2, .int x3, .int x4, .int x5] M (QcI N (some .int) r M0) := (ok_rec_fBodies_from l N 100).2.2.2 M x1 x2 x3 x4 x5 h
set_option maxHeartbeats 200000 in
set_option maxRecDepth 100000 in
theorem ok_fBodies_acted (l : Launch) (N : Rig) (M : Mem) (x1 : Int32) (x2 : Int32) (x3 : Int32) {r : Int32} {M0 : Mem} (h : fBodies_acted M x1 x2 x3 = some (r, M0)) : Ct l N yX1_acted cX1_acted 4 (some .int) 101 [.ref (N.2.1 20), .int x1, .int x2, .int x3] M (QcI N (some .int) r M0) := by
  refine ct_of (by decide) rfl ?_
  intro X el eN eL C E
  subst el
  subst eN
  unfold fBodies_acted at h
  show WA X M [(0, .ref (X.N.2.1 20)), (1, .int x1), (2, .int x2), (3, .int x3)] 0 []
  refine a_aload_n (pc := 0) C dX1_acted_0 rfl 0 rfl ?_
  refine a_iconst (pc := 1) C 0 dX1_acted_1 rfl ?_
  refine pf_1_1 (pc := 2) C wd_368 dX1_acted_2 ?_
  refine a_aload_n (pc := 5) C dX1_acted_5 rfl 0 rfl ?_
  refine a_iload_n (pc := 6) C dX1_acted_6 rfl 1 rfl ?_
  refine a_callVI (pc := 7) C [.int x1] (ok_fBodies_isBody X.l X.N (wI M 20 1 0) x1) rfl mw_X1_isBody wd_967 rfl rfl rfl rfl rfl rfl rfl dX1_acted_7 (fun z1 => ?_)
  refine a_if_eq (pc := 10) C 39 dX1_acted_10 rfl (fun c2 => ?_) (fun c2 => ?_)
  · replace h := iteT c2 h
    refine a_iconst (pc := 39) C 0 dX1_acted_39 rfl ?_
    exact a_iret (pc := 40) C E rfl (som1 h) (som2 h) dX1_acted_40
  · replace h := iteF c2 h
    refine a_iload_n (pc := 13) C dX1_acted_13 rfl 2 rfl ?_
    refine a_if_lt (pc := 14) C 39 dX1_acted_14 rfl (fun c3 => ?_) (fun c3 => ?_)
    · replace h := iteT c3 h
      refine a_iconst (pc := 39) C 0 dX1_acted_39 rfl ?_
      exact a_iret (pc := 40) C E rfl (som1 h) (som2 h) dX1_acted_40
    · replace h := iteF c3 h
      refine a_iload_n (pc := 17) C dX1_acted_17 rfl 2 rfl ?_
      refine a_iconst (pc := 18) C 4 dX1_acted_18 rfl ?_
      refine a_icmp_ge (pc := 19) C 39 dX1_acted_19 rfl (fun c4 => ?_) (fun c4 => ?_)
      · replace h := iteT c4 h
        refine a_iconst (pc := 39) C 0 dX1_acted_39 rfl ?_
        exact a_iret (pc := 40) C E rfl (som1 h) (som2 h) dX1_acted_40
      · replace h := iteF c4 h
        refine a_aload_n (pc := 22) C dX1_acted_22 rfl 0 rfl ?_
        refine a_aload_n (pc := 23) C dX1_acted_23 rfl 0 rfl ?_
        refine gf_1_3 (pc := 24) C wd_372 dX1_acted_24 ?_
        refine a_iload_n (pc := 27) C dX1_acted_27 rfl 1 rfl ?_
        obtain ⟨v5, ev5, h⟩ := bndS h
        refine a_iald (pc := 28) C rfl ev5 dX1_acted_28 ?_
        refine a_iload_n (pc := 29) C dX1_acted_29 rfl 2 rfl ?_
        refine a_iload_n (pc := 30) C dX1_acted_30 rfl 1 rfl ?_
        refine a_iload_n (pc := 31) C dX1_acted_31 rfl 3 rfl ?_
        refine a_iconst (pc := 32) C 0 dX1_acted_32 rfl ?_
        obtain ⟨q6, eq6, h⟩ := bndS h
        refine a_callVI (pc := 33) C [.int v5, .int x2, .int x1, .int x3, .int 0] (ok_fBodies_from X.l X.N (wI M 20 1 0) v5 x2 x1 x3 0 eq6) rfl mw_X1_from wd_971 rfl rfl rfl rfl rfl rfl rfl dX1_acted_33 (fun z7 => ?_)
        refine a_goto (pc := 36) C 40 dX1_acted_36 rfl ?_
        exact a_iret (pc := 40) C E rfl (som1 h) (som2 h) dX1_acted_40
set_option maxHeartbeats 200000 in
set_option maxRecDepth 100000 in
theorem ok_fChanges_forgetOldest (l : Launch) (N : Rig) (M : Mem) {M0 : Mem} (h : fChanges_forgetOldest M = some M0) : Ct l N yX2_forgetOldest cX2_forgetOldest 1 none 1 [.ref (N.2.1 15)] M (QcV N M0) := by
  refine ct_of (by decide) rfl ?_
  intro X el eN eL C E
  subst el
  subst eN
  unfold fChanges_forgetOldest at h
  show WA X M [(0, .ref (X.N.2.1 15))] 0 []
  refine a_aload_n (pc := 0) C dX2_forgetOldest_0 rfl 0 rfl ?_
  refine gf_2_0 (pc := 1) C wd_336 dX2_forgetOldest_1 ?_
  refine a_iconst (pc := 4) C 1 dX2_forgetOldest_4 rfl ?_
  refine a_aload_n (pc := 5) C dX2_forgetOldest_5 rfl 0 rfl ?_
  refine gf_2_0 (pc := 6) C wd_336 dX2_forgetOldest_6 ?_
  refine a_iconst (pc := 9) C 0 dX2_forgetOldest_9 rfl ?_
  refine a_bipush (pc := 10) C 39 dX2_forgetOldest_10 rfl ?_
  obtain ⟨M1, eM1, h⟩ := bndS h
  refine a_copyI (pc := 12) C rfl rfl eM1 rfl wd_531 wd_533 wd_532 wd_93 rfl dX2_forgetOldest_12 ?_
  refine a_aload_n (pc := 15) C dX2_forgetOldest_15 rfl 0 rfl ?_
  refine gf_2_1 (pc := 16) C wd_338 dX2_forgetOldest_16 ?_
  refine a_iconst (pc := 19) C 1 dX2_forgetOldest_19 rfl ?_
  refine a_aload_n (pc := 20) C dX2_forgetOldest_20 rfl 0 rfl ?_
  refine gf_2_1 (pc := 21) C wd_338 dX2_forgetOldest_21 ?_
  refine a_iconst (pc := 24) C 0 dX2_forgetOldest_24 rfl ?_
  refine a_bipush (pc := 25) C 39 dX2_forgetOldest_25 rfl ?_
  obtain ⟨M2, eM2, h⟩ := bndS h
  refine a_copyI (pc := 27) C rfl rfl eM2 rfl wd_531 wd_533 wd_532 wd_93 rfl dX2_forgetOldest_27 ?_
  refine a_aload_n (pc := 30) C dX2_forgetOldest_30 rfl 0 rfl ?_
  refine gf_2_2 (pc := 31) C wd_340 dX2_forgetOldest_31 ?_
  refine a_iconst (pc := 34) C 1 dX2_forgetOldest_34 rfl ?_
  refine a_aload_n (pc := 35) C dX2_forgetOldest_35 rfl 0 rfl ?_
  refine gf_2_2 (pc := 36) C wd_340 dX2_forgetOldest_36 ?_
  refine a_iconst (pc := 39) C 0 dX2_forgetOldest_39 rfl ?_
  refine a_bipush (pc := 40) C 39 dX2_forgetOldest_40 rfl ?_
  obtain ⟨M3, eM3, h⟩ := bndS h
  refine a_copyI (pc := 42) C rfl rfl eM3 rfl wd_531 wd_533 wd_532 wd_93 rfl dX2_forgetOldest_42 ?_
  refine a_aload_n (pc := 45) C dX2_forgetOldest_45 rfl 0 rfl ?_
  refine gf_2_3 (pc := 46) C wd_342 dX2_forgetOldest_46 ?_
  refine a_iconst (pc := 49) C 1 dX2_forgetOldest_49 rfl ?_
  refine a_aload_n (pc := 50) C dX2_forgetOldest_50 rfl 0 rfl ?_
  refine gf_2_3 (pc := 51) C wd_342 dX2_forgetOldest_51 ?_
  refine a_iconst (pc := 54) C 0 dX2_forgetOldest_54 rfl ?_
  refine a_bipush (pc := 55) C 39 dX2_forgetOldest_55 rfl ?_
  obtain ⟨M4, eM4, h⟩ := bndS h
  refine a_copyI (pc := 57) C rfl rfl eM4 rfl wd_531 wd_533 wd_532 wd_93 rfl dX2_forgetOldest_57 ?_
  refine a_aload_n (pc := 60) C dX2_forgetOldest_60 rfl 0 rfl ?_
  refine a_bipush (pc := 61) C 39 dX2_forgetOldest_61 rfl ?_
  refine pf_2_4 (pc := 63) C wd_344 dX2_forgetOldest_63 ?_
  exact a_vret (pc := 66) C E (somI h) dX2_forgetOldest_66
set_option maxHeartbeats 200000 in
set_option maxRecDepth 100000 in
theorem ok_fChanges_note_J13 {X : Amb} (eL : X.nL = 5) (C : Cx X RX2 cX2_note 2) (M0 : Mem) (E : En X none (QcV X.N M0)) (M : Mem) (x1 : Int32) (x2 : Int32) (x3 : Int32) (x4 : Int32) (h : fChanges_note_J13 M x1 x2 x3 x4 = some M0) : WA X M [(0, .ref (X.N.2.1 15)), (1, .int x1), (2, .int x2), (3, .int x3), (4, .int x4)] 13 [] := by
  unfold fChanges_note_J13 at h
  refine a_aload_n (pc := 13) C dX2_note_13 rfl 0 rfl ?_
  refine gf_2_0 (pc := 14) C wd_336 dX2_note_14 ?_
  refine a_aload_n (pc := 17) C dX2_note_17 rfl 0 rfl ?_
  refine gf_2_4 (pc := 18) C wd_344 dX2_note_18 ?_
  refine a_iload_n (pc := 21) C dX2_note_21 rfl 1 rfl ?_
  obtain ⟨M2, eM2, h⟩ := bndS h
  refine a_iast (pc := 22) C rfl eM2 dX2_note_22 ?_
  refine a_aload_n (pc := 23) C dX2_note_23 rfl 0 rfl ?_
  refine gf_2_1 (pc := 24) C wd_338 dX2_note_24 ?_
  refine a_aload_n (pc := 27) C dX2_note_27 rfl 0 rfl ?_
  refine gf_2_4 (pc := 28) C wd_344 dX2_note_28 ?_
  refine a_iload_n (pc := 31) C dX2_note_31 rfl 2 rfl ?_
  obtain ⟨M3, eM3, h⟩ := bndS h
  refine a_iast (pc := 32) C rfl eM3 dX2_note_32 ?_
  refine a_aload_n (pc := 33) C dX2_note_33 rfl 0 rfl ?_
  refine gf_2_2 (pc := 34) C wd_340 dX2_note_34 ?_
  refine a_aload_n (pc := 37) C dX2_note_37 rfl 0 rfl ?_
  refine gf_2_4 (pc := 38) C wd_344 dX2_note_38 ?_
  refine a_iload_n (pc := 41) C dX2_note_41 rfl 3 rfl ?_
  obtain ⟨M4, eM4, h⟩ := bndS h
  refine a_iast (pc := 42) C rfl eM4 dX2_note_42 ?_
  refine a_aload_n (pc := 43) C dX2_note_43 rfl 0 rfl ?_
  refine gf_2_3 (pc := 44) C wd_342 dX2_note_44 ?_
  refine a_aload_n (pc := 47) C dX2_note_47 rfl 0 rfl ?_
  refine gf_2_4 (pc := 48) C wd_344 dX2_note_48 ?_
  refine a_iload (pc := 51) C dX2_note_51 4 rfl ?_
  obtain ⟨M5, eM5, h⟩ := bndS h
  refine a_iast (pc := 53) C rfl eM5 dX2_note_53 ?_
  refine a_aload_n (pc := 54) C dX2_note_54 rfl 0 rfl ?_
  refine a_dup (pc := 55) C dX2_note_55 rfl ?_
  refine gf_2_4 (pc := 56) C wd_344 dX2_note_56 ?_
  refine a_iconst (pc := 59) C 1 dX2_note_59 rfl ?_
  refine a_iadd (pc := 60) C dX2_note_60 ?_
  refine pf_2_4 (pc := 61) C wd_344 dX2_note_61 ?_
  refine a_aload_n (pc := 64) C dX2_note_64 rfl 0 rfl ?_
  refine a_aload_n (pc := 65) C dX2_note_65 rfl 0 rfl ?_
  refine gf_2_4 (pc := 66) C wd_344 dX2_note_66 ?_
  refine pf_2_5 (pc := 69) C wd_346 dX2_note_69 ?_
  exact a_vret (pc := 72) C E (somI h) dX2_note_72
set_option maxHeartbeats 200000 in
set_option maxRecDepth 100000 in
theorem ok_fChanges_note (l : Launch) (N : Rig) (M : Mem) (x1 : Int32) (x2 : Int32) (x3 : Int32) (x4 : Int32) {M0 : Mem} (h : fChanges_note M x1 x2 x3 x4 = some M0) : Ct l N yX2_note cX2_note 5 none 2 [.ref (N.2.1 15), .int x1, .int x2, .int x3, .int x4] M (QcV N M0) := by
  refine ct_of (by decide) rfl ?_
  intro X el eN eL C E
  subst el
  subst eN
  unfold fChanges_note at h
  show WA X M [(0, .ref (X.N.2.1 15)), (1, .int x1), (2, .int x2), (3, .int x3), (4, .int x4)] 0 []
  refine a_aload_n (pc := 0) C dX2_note_0 rfl 0 rfl ?_
  refine gf_2_4 (pc := 1) C wd_344 dX2_note_1 ?_
  refine a_bipush (pc := 4) C 40 dX2_note_4 rfl ?_
  refine a_icmp_lt (pc := 6) C 13 dX2_note_6 rfl (fun c1 => ?_) (fun c1 => ?_)
  · replace h := iteT c1 h
    refine a_sub (lv2 := [(0, .ref (X.N.2.1 15)), (1, .int x1), (2, .int x2), (3, .int x3), (4, .int x4)]) [0, 1, 2, 3, 4] rfl ?_
    exact ok_fChanges_note_J13 eL C M0 E M x1 x2 x3 x4 h
  · replace h := iteF c1 h
    refine a_aload_n (pc := 9) C dX2_note_9 rfl 0 rfl ?_
    obtain ⟨q6, eq6, h⟩ := bndS h
    refine a_callVV (pc := 10) C [] (ok_fChanges_forgetOldest X.l X.N M eq6) rfl mw_X2_forgetOldest wd_527 rfl rfl rfl rfl rfl rfl rfl dX2_note_10 ?_
    refine a_sub (lv2 := [(0, .ref (X.N.2.1 15)), (1, .int x1), (2, .int x2), (3, .int x3), (4, .int x4)]) [0, 1, 2, 3, 4] rfl ?_
    exact ok_fChanges_note_J13 eL C M0 E q6 x1 x2 x3 x4 h
set_option maxHeartbeats 200000 in
set_option maxRecDepth 100000 in
theorem ok_fChanges_stepBack (l : Launch) (N : Rig) (M : Mem) {r : Int32} {M0 : Mem} (h : fChanges_stepBack M = some (r, M0)) : Ct l N yX2_stepBack cX2_stepBack 1 (some .int) 0 [.ref (N.2.1 15)] M (QcI N (some .int) r M0) := by
  refine ct_of (by decide) rfl ?_
  intro X el eN eL C E
  subst el
  subst eN
  unfold fChanges_stepBack at h
  show WA X M [(0, .ref (X.N.2.1 15))] 0 []
  refine a_aload_n (pc := 0) C dX2_stepBack_0 rfl 0 rfl ?_
  refine gf_2_4 (pc := 1) C wd_344 dX2_stepBack_1 ?_
  refine a_if_gt (pc := 4) C 9 dX2_stepBack_4 rfl (fun c1 => ?_) (fun c1 => ?_)
  · replace h := iteT c1 h
    refine a_aload_n (pc := 9) C dX2_stepBack_9 rfl 0 rfl ?_
    refine a_dup (pc := 10) C dX2_stepBack_10 rfl ?_
    refine gf_2_4 (pc := 11) C wd_344 dX2_stepBack_11 ?_
    refine a_iconst (pc := 14) C 1 dX2_stepBack_14 rfl ?_
    refine a_isub (pc := 15) C dX2_stepBack_15 ?_
    refine pf_2_4 (pc := 16) C wd_344 dX2_stepBack_16 ?_
    refine a_aload_n (pc := 19) C dX2_stepBack_19 rfl 0 rfl ?_
    refine gf_2_4 (pc := 20) C wd_344 dX2_stepBack_20 ?_
    exact a_iret (pc := 23) C E rfl (som1 h) (som2 h) dX2_stepBack_23
  · replace h := iteF c1 h
    refine a_iconst (pc := 7) C (-1) dX2_stepBack_7 rfl ?_
    exact a_iret (pc := 8) C E rfl (som1 h) (som2 h) dX2_stepBack_8
set_option maxHeartbeats 200000 in
set_option maxRecDepth 100000 in
theorem ok_fChanges_stepOn (l : Launch) (N : Rig) (M : Mem) {r : Int32} {M0 : Mem} (h : fChanges_stepOn M = some (r, M0)) : Ct l N yX2_stepOn cX2_stepOn 1 (some .int) 0 [.ref (N.2.1 15)] M (QcI N (some .int) r M0) := by
  refine ct_of (by decide) rfl ?_
  intro X el eN eL C E
  subst el
  subst eN
  unfold fChanges_stepOn at h
  show WA X M [(0, .ref (X.N.2.1 15))] 0 []
  refine a_aload_n (pc := 0) C dX2_stepOn_0 rfl 0 rfl ?_
  refine gf_2_4 (pc := 1) C wd_344 dX2_stepOn_1 ?_
  refine a_aload_n (pc := 4) C dX2_stepOn_4 rfl 0 rfl ?_
  refine gf_2_5 (pc := 5) C wd_346 dX2_stepOn_5 ?_
  refine a_icmp_lt (pc := 8) C 13 dX2_stepOn_8 rfl (fun c1 => ?_) (fun c1 => ?_)
  · replace h := iteT c1 h
    refine a_aload_n (pc := 13) C dX2_stepOn_13 rfl 0 rfl ?_
    refine a_dup (pc := 14) C dX2_stepOn_14 rfl ?_
    refine gf_2_4 (pc := 15) C wd_344 dX2_stepOn_15 ?_
    refine a_iconst (pc := 18) C 1 dX2_stepOn_18 rfl ?_
    refine a_iadd (pc := 19) C dX2_stepOn_19 ?_
    refine pf_2_4 (pc := 20) C wd_344 dX2_stepOn_20 ?_
    refine a_aload_n (pc := 23) C dX2_stepOn_23 rfl 0 rfl ?_
    refine gf_2_4 (pc := 24) C wd_344 dX2_stepOn_24 ?_
    refine a_iconst (pc := 27) C 1 dX2_stepOn_27 rfl ?_
    refine a_isub (pc := 28) C dX2_stepOn_28 ?_
    exact a_iret (pc := 29) C E rfl (som1 h) (som2 h) dX2_stepOn_29
  · replace h := iteF c1 h
    refine a_iconst (pc := 11) C (-1) dX2_stepOn_11 rfl ?_
    exact a_iret (pc := 12) C E rfl (som1 h) (som2 h) dX2_stepOn_12
set_option maxHeartbeats 200000 in
set_option maxRecDepth 100000 in
theorem ok_fChanges_redoable (l : Launch) (N : Rig) (M : Mem) : Ct l N yX2_redoable cX2_redoable 1 (some .int) 0 [.ref (N.2.1 15)] M (QcI N (some .int) (fChanges_redoable M) M) := by
  obtain ⟨r, h⟩ : ∃ r, fChanges_redoable M = r := ⟨_, rfl⟩
  rw [h]
  refine ct_of (by decide) rfl ?_
  intro X el eN eL C E
  subst el
  subst eN
  unfold fChanges_redoable at h
  show WA X M [(0, .ref (X.N.2.1 15))] 0 []
  refine a_aload_n (pc := 0) C dX2_redoable_0 rfl 0 rfl ?_
  refine gf_2_5 (pc := 1) C wd_346 dX2_redoable_1 ?_
  refine a_aload_n (pc := 4) C dX2_redoable_4 rfl 0 rfl ?_
  refine gf_2_4 (pc := 5) C wd_344 dX2_redoable_5 ?_
  refine a_isub (pc := 8) C dX2_redoable_8 ?_
  exact a_iret (pc := 9) C E rfl h rfl dX2_redoable_9
set_option maxHeartbeats 200000 in
set_option maxRecDepth 100000 in
theorem ok_fLaw_take (l : Launch) (N : Rig) (M : Mem) (x1 : Int32) {r : Int32} {M0 : Mem} (h : fLaw_take M x1 = some (r, M0)) : Ct l N yX3_take cX3_take 2 (some .int) 0 [.ref (N.2.1 7), .int x1] M (QcI N (some .int) r M0) := by
  refine ct_of (by decide) rfl ?_
  intro X el eN eL C E
  subst el
  subst eN
  unfold fLaw_take at h
  show WA X M [(0, .ref (X.N.2.1 7)), (1, .int x1)] 0 []
  refine a_aload_n (pc := 0) C dX3_take_0 rfl 0 rfl ?_
  refine gf_3_0 (pc := 1) C wd_206 dX3_take_1 ?_
  refine a_bipush (pc := 4) C 120 dX3_take_4 rfl ?_
  refine a_icmp_lt (pc := 6) C 12 dX3_take_6 rfl (fun c1 => ?_) (fun c1 => ?_)
  · replace h := iteT c1 h
    refine a_aload_n (pc := 12) C dX3_take_12 rfl 0 rfl ?_
    refine gf_3_1 (pc := 13) C wd_208 dX3_take_13 ?_
    refine a_aload_n (pc := 16) C dX3_take_16 rfl 0 rfl ?_
    refine gf_3_0 (pc := 17) C wd_206 dX3_take_17 ?_
    refine a_iload_n (pc := 20) C dX3_take_20 rfl 1 rfl ?_
    obtain ⟨M2, eM2, h⟩ := bndS h
    refine a_iast (pc := 21) C rfl eM2 dX3_take_21 ?_
    refine a_aload_n (pc := 22) C dX3_take_22 rfl 0 rfl ?_
    refine a_dup (pc := 23) C dX3_take_23 rfl ?_
    refine gf_3_0 (pc := 24) C wd_206 dX3_take_24 ?_
    refine a_iconst (pc := 27) C 1 dX3_take_27 rfl ?_
    refine a_iadd (pc := 28) C dX3_take_28 ?_
    refine pf_3_0 (pc := 29) C wd_206 dX3_take_29 ?_
    refine a_aload_n (pc := 32) C dX3_take_32 rfl 0 rfl ?_
    refine gf_3_0 (pc := 33) C wd_206 dX3_take_33 ?_
    exact a_iret (pc := 36) C E rfl (som1 h) (som2 h) dX3_take_36
  · replace h := iteF c1 h
    refine a_bipush (pc := 9) C (-3) dX3_take_9 rfl ?_
    exact a_iret (pc := 11) C E rfl (som1 h) (som2 h) dX3_take_11
set_option maxHeartbeats 200000 in
set_option maxRecDepth 100000 in
theorem ok_fLaw_isTold (l : Launch) (N : Rig) (M : Mem) : Ct l N yX3_isTold cX3_isTold 1 (some .boolean) 0 [.ref (N.2.1 7)] M (QcI N (some .boolean) (fLaw_isTold M) M) := by
  obtain ⟨r, h⟩ : ∃ r, fLaw_isTold M = r := ⟨_, rfl⟩
  rw [h]
  refine ct_of (by decide) rfl ?_
  intro X el eN eL C E
  subst el
  subst eN
  unfold fLaw_isTold at h
  show WA X M [(0, .ref (X.N.2.1 7))] 0 []
  refine a_aload_n (pc := 0) C dX3_isTold_0 rfl 0 rfl ?_
  refine gf_3_6 (pc := 1) C wd_213 dX3_isTold_1 ?_
  refine a_if_le (pc := 4) C 11 dX3_isTold_4 rfl (fun c1 => ?_) (fun c1 => ?_)
  · replace h := iteT c1 h
    refine a_iconst (pc := 11) C 0 dX3_isTold_11 rfl ?_
    exact a_iret (pc := 12) C E rfl h rfl dX3_isTold_12
  · replace h := iteF c1 h
    refine a_iconst (pc := 7) C 1 dX3_isTold_7 rfl ?_
    refine a_goto (pc := 8) C 12 dX3_isTold_8 rfl ?_
    exact a_iret (pc := 12) C E rfl h rfl dX3_isTold_12
set_option maxHeartbeats 200000 in
set_option maxRecDepth 100000 in
theorem ok_fLaw_sign (l : Launch) (N : Rig) (M : Mem) {r : Int32} (h : fLaw_sign M = some r) : Ct l N yX3_sign cX3_sign 1 (some .int) 0 [.ref (N.2.1 7)] M (QcI N (some .int) r M) := by
  refine ct_of (by decide) rfl ?_
  intro X el eN eL C E
  subst el
  subst eN
  unfold fLaw_sign at h
  show WA X M [(0, .ref (X.N.2.1 7))] 0 []
  refine a_aload_n (pc := 0) C dX3_sign_0 rfl 0 rfl ?_
  refine gf_3_2 (pc := 1) C wd_209 dX3_sign_1 ?_
  refine a_aload_n (pc := 4) C dX3_sign_4 rfl 0 rfl ?_
  refine gf_3_0 (pc := 5) C wd_206 dX3_sign_5 ?_
  refine a_icmp_ge (pc := 8) C 23 dX3_sign_8 rfl (fun c1 => ?_) (fun c1 => ?_)
  · replace h := iteT c1 h
    refine a_iconst (pc := 23) C (-1) dX3_sign_23 rfl ?_
    exact a_iret (pc := 24) C E rfl (somI h) rfl dX3_sign_24
  · replace h := iteF c1 h
    refine a_aload_n (pc := 11) C dX3_sign_11 rfl 0 rfl ?_
    refine gf_3_1 (pc := 12) C wd_208 dX3_sign_12 ?_
    refine a_aload_n (pc := 15) C dX3_sign_15 rfl 0 rfl ?_
    refine gf_3_2 (pc := 16) C wd_209 dX3_sign_16 ?_
    obtain ⟨v2, ev2, h⟩ := bndS h
    refine a_iald (pc := 19) C rfl ev2 dX3_sign_19 ?_
    refine a_goto (pc := 20) C 24 dX3_sign_20 rfl ?_
    exact a_iret (pc := 24) C E rfl (somI h) rfl dX3_sign_24
set_option maxHeartbeats 200000 in
set_option maxRecDepth 100000 in
theorem ok_fLaw_levelOf (l : Launch) (N : Rig) (M : Mem) (x0 : Int32) : Ct l N yX3_levelOf cX3_levelOf 1 (some .int) 0 [.int x0] M (QcI N (some .int) (fLaw_levelOf x0) M) := by
  obtain ⟨r, h⟩ : ∃ r, fLaw_levelOf x0 = r := ⟨_, rfl⟩
  rw [h]
  refine ct_of (by decide) rfl ?_
  intro X el eN eL C E
  subst el
  subst eN
  unfold fLaw_levelOf at h
  show WA X M [(0, .int x0)] 0 []
  refine a_iload_n (pc := 0) C dX3_levelOf_0 rfl 0 rfl ?_
  by_cases c1 : x0 = 37
  · replace h := iteT c1 h
    refine a_lsw (pc := 1) (off := 99) C 100 dX3_levelOf_1 (by decide) (lsw_eq c1 rfl) rfl ?_
    refine a_iconst (pc := 100) C 4 dX3_levelOf_100 rfl ?_
    exact a_iret (pc := 101) C E rfl h rfl dX3_levelOf_101
  replace h := iteF c1 h
  by_cases c2 : x0 = 38
  · replace h := iteT c2 h
    refine a_lsw (pc := 1) (off := 93) C 94 dX3_levelOf_1 (by decide) (lsw_eq c2 rfl) rfl ?_
    refine a_iconst (pc := 94) C 1 dX3_levelOf_94 rfl ?_
    exact a_iret (pc := 95) C E rfl h rfl dX3_levelOf_95
  replace h := iteF c2 h
  by_cases c3 : x0 = 42
  · replace h := iteT c3 h
    refine a_lsw (pc := 1) (off := 99) C 100 dX3_levelOf_1 (by decide) (lsw_eq c3 rfl) rfl ?_
    refine a_iconst (pc := 100) C 4 dX3_levelOf_100 rfl ?_
    exact a_iret (pc := 101) C E rfl h rfl dX3_levelOf_101
  replace h := iteF c3 h
  by_cases c4 : x0 = 43
  · replace h := iteT c4 h
    refine a_lsw (pc := 1) (off := 97) C 98 dX3_levelOf_1 (by decide) (lsw_eq c4 rfl) rfl ?_
    refine a_iconst (pc := 98) C 3 dX3_levelOf_98 rfl ?_
    exact a_iret (pc := 99) C E rfl h rfl dX3_levelOf_99
  replace h := iteF c4 h
  by_cases c5 : x0 = 45
  · replace h := iteT c5 h
    refine a_lsw (pc := 1) (off := 97) C 98 dX3_levelOf_1 (by decide) (lsw_eq c5 rfl) rfl ?_
    refine a_iconst (pc := 98) C 3 dX3_levelOf_98 rfl ?_
    exact a_iret (pc := 99) C E rfl h rfl dX3_levelOf_99
  replace h := iteF c5 h
  by_cases c6 : x0 = 47
  · replace h := iteT c6 h
    refine a_lsw (pc := 1) (off := 99) C 100 dX3_levelOf_1 (by decide) (lsw_eq c6 rfl) rfl ?_
    refine a_iconst (pc := 100) C 4 dX3_levelOf_100 rfl ?_
    exact a_iret (pc := 101) C E rfl h rfl dX3_levelOf_101
  replace h := iteF c6 h
  by_cases c7 : x0 = 60
  · replace h := iteT c7 h
    refine a_lsw (pc := 1) (off := 95) C 96 dX3_levelOf_1 (by decide) (lsw_eq c7 rfl) rfl ?_
    refine a_iconst (pc := 96) C 2 dX3_levelOf_96 rfl ?_
    exact a_iret (pc := 97) C E rfl h rfl dX3_levelOf_97
  replace h := iteF c7 h
  by_cases c8 : x0 = 61
  · replace h := iteT c8 h
    refine a_lsw (pc := 1) (off := 95) C 96 dX3_levelOf_1 (by decide) (lsw_eq c8 rfl) rfl ?_
    refine a_iconst (pc := 96) C 2 dX3_levelOf_96 rfl ?_
    exact a_iret (pc := 97) C E rfl h rfl dX3_levelOf_97
  replace h := iteF c8 h
  by_cases c9 : x0 = 62
  · replace h := iteT c9 h
    refine a_lsw (pc := 1) (off := 95) C 96 dX3_levelOf_1 (by decide) (lsw_eq c9 rfl) rfl ?_
    refine a_iconst (pc := 96) C 2 dX3_levelOf_96 rfl ?_
    exact a_iret (pc := 97) C E rfl h rfl dX3_levelOf_97
  replace h := iteF c9 h
  by_cases c10 : x0 = 124
  · replace h := iteT c10 h
    refine a_lsw (pc := 1) (off := 91) C 92 dX3_levelOf_1 (by decide) (lsw_eq c10 rfl) rfl ?_
    refine a_iconst (pc := 92) C 0 dX3_levelOf_92 rfl ?_
    exact a_iret (pc := 93) C E rfl h rfl dX3_levelOf_93
  replace h := iteF c10 h
  refine a_lsw (pc := 1) (off := 101) C 102 dX3_levelOf_1 (by decide) (by simp [Op.lookupswitch.offset, neI2 37 rfl c1, neI2 38 rfl c2, neI2 42 rfl c3, neI2 43 rfl c4, neI2 45 rfl c5, neI2 47 rfl c6, neI2 60 rfl c7, neI2 61 rfl c8, neI2 62 rfl c9, neI2 124 rfl c10]) rfl ?_
  refine a_iconst (pc := 102) C (-1) dX3_levelOf_102 rfl ?_
  exact a_iret (pc := 103) C E rfl h rfl dX3_levelOf_103
set_option maxHeartbeats 200000 in
set_option maxRecDepth 100000 in
theorem ok_fLaw_step (l : Launch) (N : Rig) (M : Mem) (x1 : Int32) {M0 : Mem} (h : fLaw_step M x1 = some M0) : Ct l N yX3_step cX3_step 2 none 0 [.ref (N.2.1 7), .int x1] M (QcV N M0) := by
  refine ct_of (by decide) rfl ?_
  intro X el eN eL C E
  subst el
  subst eN
  unfold fLaw_step at h
  show WA X M [(0, .ref (X.N.2.1 7)), (1, .int x1)] 0 []
  refine a_aload_n (pc := 0) C dX3_step_0 rfl 0 rfl ?_
  refine gf_3_4 (pc := 1) C wd_211 dX3_step_1 ?_
  refine a_aload_n (pc := 4) C dX3_step_4 rfl 0 rfl ?_
  refine gf_3_3 (pc := 5) C wd_210 dX3_step_5 ?_
  obtain ⟨v1, ev1, h⟩ := bndS h
  refine a_dlen (pc := 8) C ev1 dX3_step_8 ?_
  refine a_icmp_ge (pc := 9) C 32 dX3_step_9 rfl (fun c2 => ?_) (fun c2 => ?_)
  · replace h := iteT c2 h
    exact a_vret (pc := 32) C E (somI h) dX3_step_32
  · replace h := iteF c2 h
    refine a_aload_n (pc := 12) C dX3_step_12 rfl 0 rfl ?_
    refine gf_3_3 (pc := 13) C wd_210 dX3_step_13 ?_
    refine a_aload_n (pc := 16) C dX3_step_16 rfl 0 rfl ?_
    refine gf_3_4 (pc := 17) C wd_211 dX3_step_17 ?_
    refine a_iload_n (pc := 20) C dX3_step_20 rfl 1 rfl ?_
    obtain ⟨M3, eM3, h⟩ := bndS h
    refine a_dast (pc := 21) C eM3 dX3_step_21 ?_
    refine a_aload_n (pc := 22) C dX3_step_22 rfl 0 rfl ?_
    refine a_dup (pc := 23) C dX3_step_23 rfl ?_
    refine gf_3_4 (pc := 24) C wd_211 dX3_step_24 ?_
    refine a_iconst (pc := 27) C 1 dX3_step_27 rfl ?_
    refine a_iadd (pc := 28) C dX3_step_28 ?_
    refine pf_3_4 (pc := 29) C wd_211 dX3_step_29 ?_
    exact a_vret (pc := 32) C E (somI h) dX3_step_32
set_option maxHeartbeats 200000 in
set_option maxRecDepth 100000 in
theorem ok_fLaw_isDigit (l : Launch) (N : Rig) (M : Mem) (x0 : Int32) : Ct l N yX3_isDigit cX3_isDigit 1 (some .boolean) 0 [.int x0] M (QcI N (some .boolean) (fLaw_isDigit x0) M) := by
  obtain ⟨r, h⟩ : ∃ r, fLaw_isDigit x0 = r := ⟨_, rfl⟩
  rw [h]
  refine ct_of (by decide) rfl ?_
  intro X el eN eL C E
  subst el
  subst eN
  unfold fLaw_isDigit at h
  show WA X M [(0, .int x0)] 0 []
  refine a_iload_n (pc := 0) C dX3_isDigit_0 rfl 0 rfl ?_
  refine a_bipush (pc := 1) C 48 dX3_isDigit_1 rfl ?_
  refine a_icmp_lt (pc := 3) C 16 dX3_isDigit_3 rfl (fun c1 => ?_) (fun c1 => ?_)
  · replace h := iteT c1 h
    refine a_iconst (pc := 16) C 0 dX3_isDigit_16 rfl ?_
    exact a_iret (pc := 17) C E rfl h rfl dX3_isDigit_17
  · replace h := iteF c1 h
    refine a_iload_n (pc := 6) C dX3_isDigit_6 rfl 0 rfl ?_
    refine a_bipush (pc := 7) C 57 dX3_isDigit_7 rfl ?_
    refine a_icmp_gt (pc := 9) C 16 dX3_isDigit_9 rfl (fun c2 => ?_) (fun c2 => ?_)
    · replace h := iteT c2 h
      refine a_iconst (pc := 16) C 0 dX3_isDigit_16 rfl ?_
      exact a_iret (pc := 17) C E rfl h rfl dX3_isDigit_17
    · replace h := iteF c2 h
      refine a_iconst (pc := 12) C 1 dX3_isDigit_12 rfl ?_
      refine a_goto (pc := 13) C 17 dX3_isDigit_13 rfl ?_
      exact a_iret (pc := 17) C E rfl h rfl dX3_isDigit_17
set_option maxHeartbeats 200000 in
set_option maxRecDepth 100000 in
theorem ok_fLaw_readNumber_L4 {X : Amb} (eL : X.nL = 3) (C : Cx X RX3 cX3_readNumber 1) (o : Mem × Int32) (K : WA X o.1 [(0, .ref (X.N.2.1 7)), (1, .int o.2)] 48 []) : ∀ (n : Nat) (M : Mem) (x1 : Int32) (x2 : Int32), fLaw_readNumber_L4 n M x1 x2 = some o → WA X M [(0, .ref (X.N.2.1 7)), (1, .int x1), (2, .int x2)] 4 [] := by
  intro n
  induction n with
  | zero => intro _ _ _ h; cases h
  | succ n ih =>
    intro M x1 x2 h
    replace h : fLaw_readNumber_L4_F (fLaw_readNumber_L4 n) M x1 x2 = some o := h
    unfold fLaw_readNumber_L4_F at h
    refine a_iload_n (pc := 4) C dX3_readNumber_4 rfl 2 rfl ?_
    refine a_iconst (pc := 5) C 4 dX3_readNumber_5 rfl ?_
    refine a_icmp_ge (pc := 6) C 48 dX3_readNumber_6 rfl (fun c1 => ?_) (fun c1 => ?_)
    · replace h := iteT c1 h
      refine a_sub (lv2 := [(0, .ref (X.N.2.1 7)), (1, .int x1)]) [0, 1] rfl ?_
      cases somI h
      exact K
    · replace h := iteF c1 h
      refine a_aload_n (pc := 9) C dX3_readNumber_9 rfl 0 rfl ?_
      obtain ⟨v2, ev2, h⟩ := bndS h
      refine a_callVI (pc := 10) C [] (ok_fLaw_sign X.l X.N M ev2) rfl mw_X3_sign wd_585 rfl rfl rfl rfl rfl rfl rfl dX3_readNumber_10 (fun z3 => ?_)
      refine a_callSI (pc := 13) C [.int v2] (ok_fLaw_isDigit X.l X.N M v2) rfl mw_X3_isDigit wd_589 rfl rfl rfl dX3_readNumber_13 (fun z4 => ?_)
      refine a_if_eq (pc := 16) C 48 dX3_readNumber_16 rfl (fun c5 => ?_) (fun c5 => ?_)
      · replace h := iteT c5 h
        refine a_sub (lv2 := [(0, .ref (X.N.2.1 7)), (1, .int x1)]) [0, 1] rfl ?_
        cases somI h
        exact K
      · replace h := iteF c5 h
        refine a_iload_n (pc := 19) C dX3_readNumber_19 rfl 1 rfl ?_
        refine a_bipush (pc := 20) C 10 dX3_readNumber_20 rfl ?_
        refine a_imul (pc := 22) C dX3_readNumber_22 ?_
        refine a_aload_n (pc := 23) C dX3_readNumber_23 rfl 0 rfl ?_
        obtain ⟨v6, ev6, h⟩ := bndS h
        refine a_callVI (pc := 24) C [] (ok_fLaw_sign X.l X.N M ev6) rfl mw_X3_sign wd_585 rfl rfl rfl rfl rfl rfl rfl dX3_readNumber_24 (fun z7 => ?_)
        refine a_iadd (pc := 27) C dX3_readNumber_27 ?_
        refine a_bipush (pc := 28) C 48 dX3_readNumber_28 rfl ?_
        refine a_isub (pc := 30) C dX3_readNumber_30 ?_
        refine a_istore_n (pc := 31) C [(1, .int (((x1 * 10) + v6) - 48)), (0, .ref (X.N.2.1 7)), (2, .int x2)] dX3_readNumber_31 rfl (nlt eL rfl) rfl ?_
        refine a_aload_n (pc := 32) C dX3_readNumber_32 rfl 1 rfl ?_
        refine a_dup (pc := 33) C dX3_readNumber_33 rfl ?_
        refine gf_3_2 (pc := 34) C wd_209 dX3_readNumber_34 ?_
        refine a_iconst (pc := 37) C 1 dX3_readNumber_37 rfl ?_
        refine a_iadd (pc := 38) C dX3_readNumber_38 ?_
        refine pf_3_2 (pc := 39) C wd_209 dX3_readNumber_39 ?_
        refine a_iinc (pc := 42) C 2 (x2 + 1) [(2, .int (x2 + 1)), (1, .int (((x1 * 10) + v6) - 48)), (0, .ref (X.N.2.1 7))] dX3_readNumber_42 rfl rfl (nlt eL rfl) rfl ?_
        refine a_goto (pc := 45) C 4 dX3_readNumber_45 rfl ?_
        refine a_sub [2, 1, 0] rfl ?_
        exact ih (wI M 7 2 ((M.1 7 2) + 1)) (((x1 * 10) + v6) - 48) (x2 + 1) h
set_option maxHeartbeats 200000 in
set_option maxRecDepth 100000 in
theorem ok_fLaw_readNumber (l : Launch) (N : Rig) (M : Mem) {M0 : Mem} (h : fLaw_readNumber M = some M0) : Ct l N yX3_readNumber cX3_readNumber 3 none 1 [.ref (N.2.1 7)] M (QcV N M0) := by
  refine ct_of (by decide) rfl ?_
  intro X el eN eL C E
  subst el
  subst eN
  unfold fLaw_readNumber at h
  show WA X M [(0, .ref (X.N.2.1 7))] 0 []
  refine a_iconst (pc := 0) C 0 dX3_readNumber_0 rfl ?_
  refine a_istore_n (pc := 1) C [(1, .int 0), (0, .ref (X.N.2.1 7))] dX3_readNumber_1 rfl (nlt eL rfl) rfl ?_
  refine a_iconst (pc := 2) C 0 dX3_readNumber_2 rfl ?_
  refine a_istore_n (pc := 3) C [(2, .int 0), (1, .int 0), (0, .ref (X.N.2.1 7))] dX3_readNumber_3 rfl (nlt eL rfl) rfl ?_
  refine a_sub (lv2 := [(0, .ref (X.N.2.1 7)), (1, .int 0), (2, .int 0)]) [2, 1, 0] rfl ?_
  obtain ⟨o8, eo8, h⟩ := bndS h
  refine ok_fLaw_readNumber_L4 eL C o8 ?_ FU M 0 0 eo8
  refine a_aload_n (pc := 48) C dX3_readNumber_48 rfl 0 rfl ?_
  refine a_iload_n (pc := 49) C dX3_readNumber_49 rfl 1 rfl ?_
  obtain ⟨q9, eq9, h⟩ := bndS h
  refine a_callVV (pc := 50) C [.int o8.2] (ok_fLaw_step X.l X.N o8.1 o8.2 eq9) rfl mw_X3_step wd_596 rfl rfl rfl rfl rfl rfl rfl dX3_readNumber_50 ?_
  exact a_vret (pc := 53) C E (somI h) dX3_readNumber_53
set_option maxHeartbeats 200000 in
set_option maxRecDepth 100000 in
theorem ok_fLaw_isName (l : Launch) (N : Rig) (M : Mem) (x0 : Int32) : Ct l N yX3_isName cX3_isName 1 (some .boolean) 0 [.int x0] M (QcI N (some .boolean) (fLaw_isName x0) M) := by
  obtain ⟨r, h⟩ : ∃ r, fLaw_isName x0 = r := ⟨_, rfl⟩
  rw [h]
  refine ct_of (by decide) rfl ?_
  intro X el eN eL C E
  subst el
  subst eN
  unfold fLaw_isName at h
  show WA X M [(0, .int x0)] 0 []
  refine a_iload_n (pc := 0) C dX3_isName_0 rfl 0 rfl ?_
  refine a_bipush (pc := 1) C 108 dX3_isName_1 rfl ?_
  refine a_icmp_eq (pc := 3) C 36 dX3_isName_3 rfl (fun c1 => ?_) (fun c1 => ?_)
  · replace h := iteT c1 h
    refine a_iconst (pc := 36) C 1 dX3_isName_36 rfl ?_
    refine a_goto (pc := 37) C 41 dX3_isName_37 rfl ?_
    exact a_iret (pc := 41) C E rfl h rfl dX3_isName_41
  · replace h := iteF c1 h
    refine a_iload_n (pc := 6) C dX3_isName_6 rfl 0 rfl ?_
    refine a_bipush (pc := 7) C 115 dX3_isName_7 rfl ?_
    refine a_icmp_eq (pc := 9) C 36 dX3_isName_9 rfl (fun c2 => ?_) (fun c2 => ?_)
    · replace h := iteT c2 h
      refine a_iconst (pc := 36) C 1 dX3_isName_36 rfl ?_
      refine a_goto (pc := 37) C 41 dX3_isName_37 rfl ?_
      exact a_iret (pc := 41) C E rfl h rfl dX3_isName_41
    · replace h := iteF c2 h
      refine a_iload_n (pc := 12) C dX3_isName_12 rfl 0 rfl ?_
      refine a_bipush (pc := 13) C 104 dX3_isName_13 rfl ?_
      refine a_icmp_eq (pc := 15) C 36 dX3_isName_15 rfl (fun c3 => ?_) (fun c3 => ?_)
      · replace h := iteT c3 h
        refine a_iconst (pc := 36) C 1 dX3_isName_36 rfl ?_
        refine a_goto (pc := 37) C 41 dX3_isName_37 rfl ?_
        exact a_iret (pc := 41) C E rfl h rfl dX3_isName_41
      · replace h := iteF c3 h
        refine a_iload_n (pc := 18) C dX3_isName_18 rfl 0 rfl ?_
        refine a_bipush (pc := 19) C 112 dX3_isName_19 rfl ?_
        refine a_icmp_eq (pc := 21) C 36 dX3_isName_21 rfl (fun c4 => ?_) (fun c4 => ?_)
        · replace h := iteT c4 h
          refine a_iconst (pc := 36) C 1 dX3_isName_36 rfl ?_
          refine a_goto (pc := 37) C 41 dX3_isName_37 rfl ?_
          exact a_iret (pc := 41) C E rfl h rfl dX3_isName_41
        · replace h := iteF c4 h
          refine a_iload_n (pc := 24) C dX3_isName_24 rfl 0 rfl ?_
          refine a_bipush (pc := 25) C 111 dX3_isName_25 rfl ?_
          refine a_icmp_eq (pc := 27) C 36 dX3_isName_27 rfl (fun c5 => ?_) (fun c5 => ?_)
          · replace h := iteT c5 h
            refine a_iconst (pc := 36) C 1 dX3_isName_36 rfl ?_
            refine a_goto (pc := 37) C 41 dX3_isName_37 rfl ?_
            exact a_iret (pc := 41) C E rfl h rfl dX3_isName_41
          · replace h := iteF c5 h
            refine a_iload_n (pc := 30) C dX3_isName_30 rfl 0 rfl ?_
            refine a_bipush (pc := 31) C 99 dX3_isName_31 rfl ?_
            refine a_icmp_ne (pc := 33) C 40 dX3_isName_33 rfl (fun c6 => ?_) (fun c6 => ?_)
            · replace h := iteT c6 h
              refine a_iconst (pc := 40) C 0 dX3_isName_40 rfl ?_
              exact a_iret (pc := 41) C E rfl h rfl dX3_isName_41
            · replace h := iteF c6 h
              refine a_iconst (pc := 36) C 1 dX3_isName_36 rfl ?_
              refine a_goto (pc := 37) C 41 dX3_isName_37 rfl ?_
              exact a_iret (pc := 41) C E rfl h rfl dX3_isName_41
set_option maxHeartbeats 200000 in
set_option maxRecDepth 100000 in
theorem ok_fLaw_took (l : Launch) (N : Rig) (M : Mem) (x1 : Int32) {r : Int32} {M0 : Mem} (h : fLaw_took M x1 = some (r, M0)) : Ct l N yX3_took cX3_took 2 (some .boolean) 1 [.ref (N.2.1 7), .int x1] M (QcI N (some .boolean) r M0) := by
  refine ct_of (by decide) rfl ?_
  intro X el eN eL C E
  subst el
  subst eN
  unfold fLaw_took at h
  show WA X M [(0, .ref (X.N.2.1 7)), (1, .int x1)] 0 []
  refine a_aload_n (pc := 0) C dX3_took_0 rfl 0 rfl ?_
  obtain ⟨v1, ev1, h⟩ := bndS h
  refine a_callVI (pc := 1) C [] (ok_fLaw_sign X.l X.N M ev1) rfl mw_X3_sign wd_585 rfl rfl rfl rfl rfl rfl rfl dX3_took_1 (fun z2 => ?_)
  refine a_iload_n (pc := 4) C dX3_took_4 rfl 1 rfl ?_
  refine a_icmp_eq (pc := 5) C 10 dX3_took_5 rfl (fun c3 => ?_) (fun c3 => ?_)
  · replace h := iteT c3 h
    refine a_aload_n (pc := 10) C dX3_took_10 rfl 0 rfl ?_
    refine a_dup (pc := 11) C dX3_took_11 rfl ?_
    refine gf_3_2 (pc := 12) C wd_209 dX3_took_12 ?_
    refine a_iconst (pc := 15) C 1 dX3_took_15 rfl ?_
    refine a_iadd (pc := 16) C dX3_took_16 ?_
    refine pf_3_2 (pc := 17) C wd_209 dX3_took_17 ?_
    refine a_iconst (pc := 20) C 1 dX3_took_20 rfl ?_
    exact a_iret (pc := 21) C E rfl (som1 h) (som2 h) dX3_took_21
  · replace h := iteF c3 h
    refine a_iconst (pc := 8) C 0 dX3_took_8 rfl ?_
    exact a_iret (pc := 9) C E rfl (som1 h) (som2 h) dX3_took_9
set_option maxHeartbeats 200000 in
set_option maxRecDepth 100000 in
theorem ok_fLaw_readJoined_L39 {X : Amb} (eL : X.nL = 6) {kr kc : Nat} (hkr : Nat.ble (kr + 1) kc = true) (hkb : Nat.ble 2 kc = true) (C : Cx X RX3 cX3_readJoined kc) (g_fLaw_readJoined : Mem → Int32 → Int32 → Option (Int32 × Mem)) (g_fLaw_readOperand : Mem → Int32 → Option (Int32 × Mem)) (G_fLaw_readJoined : ∀ (M : Mem) (x1 : Int32) (x2 : Int32) {r : Int32} {M0 : Mem}, g_fLaw_readJoined M x1 x2 = some (r, M0) → Ct X.l X.N yX3_readJoined cX3_readJoined 6 (some .boolean) kr [.ref (X.N.2.1 7), .int x1, .int x2] M (QcI X.N (some .boolean) r M0)) (G_fLaw_readOperand : ∀ (M : Mem) (x1 : Int32) {r : Int32} {M0 : Mem}, g_fLaw_readOperand M x1 = some (r, M0) → Ct X.l X.N yX3_readOperand cX3_readOperand 3 (some .boolean) kr [.ref (X.N.2.1 7), .int x1] M (QcI X.N (some .boolean) r M0)) (x1 : Int32) (x2 : Int32) (x3 : Int32) (r : Int32) (M0 : Mem) (E : En X (some .boolean) (QcI X.N (some .boolean) r M0)) : ∀ (n : Nat) (M : Mem) (x4 : Int32), fLaw_readJoined_L39 g_fLaw_readJoined g_fLaw_readOperand n M x1 x2 x3 x4 = some (r, M0) → WA X M [(0, .ref (X.N.2.1 7)), (1, .int x1), (2, .int x2), (3, .int x3), (4, .int x4)] 39 [] := by
  intro n
  induction n with
  | zero => intro _ _ h; cases h
  | succ n ih =>
    intro M x4 h
    replace h : fLaw_readJoined_L39_F g_fLaw_readJoined g_fLaw_readOperand (fLaw_readJoined_L39 g_fLaw_readJoined g_fLaw_readOperand n) M x1 x2 x3 x4 = some (r, M0) := h
    unfold fLaw_readJoined_L39_F at h
    refine a_iload (pc := 39) C dX3_readJoined_39 4 rfl ?_
    refine a_iload_n (pc := 41) C dX3_readJoined_41 rfl 3 rfl ?_
    refine a_icmp_ge (pc := 42) C 98 dX3_readJoined_42 rfl (fun c6 => ?_) (fun c6 => ?_)
    · replace h := iteT c6 h
      refine a_iconst (pc := 98) C 1 dX3_readJoined_98 rfl ?_
      exact a_iret (pc := 99) C E rfl (som1 h) (som2 h) dX3_readJoined_99
    · replace h := iteF c6 h
      refine a_aload_n (pc := 45) C dX3_readJoined_45 rfl 0 rfl ?_
      obtain ⟨v7, ev7, h⟩ := bndS h
      refine a_callVI (pc := 46) C [] (ok_fLaw_sign X.l X.N M ev7) (ble_tr (b := 2) rfl hkb) mw_X3_sign wd_585 rfl rfl rfl rfl rfl rfl rfl dX3_readJoined_46 (fun z8 => ?_)
      refine a_callSI (pc := 49) C [.int v7] (ok_fLaw_levelOf X.l X.N M v7) (ble_tr (b := 2) rfl hkb) mw_X3_levelOf wd_607 rfl rfl rfl dX3_readJoined_49 (fun z9 => ?_)
      refine a_iload_n (pc := 52) C dX3_readJoined_52 rfl 1 rfl ?_
      refine a_icmp_ne (pc := 53) C 98 dX3_readJoined_53 rfl (fun c10 => ?_) (fun c10 => ?_)
      · replace h := iteT c10 h
        refine a_iconst (pc := 98) C 1 dX3_readJoined_98 rfl ?_
        exact a_iret (pc := 99) C E rfl (som1 h) (som2 h) dX3_readJoined_99
      · replace h := iteF c10 h
        refine a_aload_n (pc := 56) C dX3_readJoined_56 rfl 0 rfl ?_
        obtain ⟨v11, ev11, h⟩ := bndS h
        refine a_callVI (pc := 57) C [] (ok_fLaw_sign X.l X.N M ev11) (ble_tr (b := 2) rfl hkb) mw_X3_sign wd_585 rfl rfl rfl rfl rfl rfl rfl dX3_readJoined_57 (fun z12 => ?_)
        refine a_istore (pc := 60) C [(5, .int v11), (0, .ref (X.N.2.1 7)), (1, .int x1), (2, .int x2), (3, .int x3), (4, .int x4)] dX3_readJoined_60 (nlt eL rfl) rfl ?_
        refine a_aload_n (pc := 62) C dX3_readJoined_62 rfl 1 rfl ?_
        refine a_dup (pc := 63) C dX3_readJoined_63 rfl ?_
        refine gf_3_2 (pc := 64) C wd_209 dX3_readJoined_64 ?_
        refine a_iconst (pc := 67) C 1 dX3_readJoined_67 rfl ?_
        refine a_iadd (pc := 68) C dX3_readJoined_68 ?_
        refine pf_3_2 (pc := 69) C wd_209 dX3_readJoined_69 ?_
        refine a_aload_n (pc := 72) C dX3_readJoined_72 rfl 1 rfl ?_
        refine a_iload_n (pc := 73) C dX3_readJoined_73 rfl 2 rfl ?_
        refine a_iconst (pc := 74) C 1 dX3_readJoined_74 rfl ?_
        refine a_iadd (pc := 75) C dX3_readJoined_75 ?_
        refine a_iload_n (pc := 76) C dX3_readJoined_76 rfl 3 rfl ?_
        obtain ⟨q13, eq13, h⟩ := bndS h
        refine a_callVI (pc := 77) C [.int (x1 + 1), .int x2] (G_fLaw_readJoined (wI M 7 2 ((M.1 7 2) + 1)) (x1 + 1) x2 eq13) hkr mw_X3_readJoined wd_577 rfl rfl rfl rfl rfl rfl rfl dX3_readJoined_77 (fun z14 => ?_)
        refine a_if_ne (pc := 80) C 85 dX3_readJoined_80 rfl (fun c15 => ?_) (fun c15 => ?_)
        · replace h := iteT c15 h
          refine a_aload_n (pc := 85) C dX3_readJoined_85 rfl 1 rfl ?_
          refine a_iload (pc := 86) C dX3_readJoined_86 0 rfl ?_
          refine a_ineg (pc := 88) C dX3_readJoined_88 ?_
          obtain ⟨q16, eq16, h⟩ := bndS h
          refine a_callVV (pc := 89) C [.int (-v11)] (ok_fLaw_step X.l X.N q13.2 (-v11) eq16) (ble_tr (b := 2) rfl hkb) mw_X3_step wd_596 rfl rfl rfl rfl rfl rfl rfl dX3_readJoined_89 ?_
          refine a_iinc (pc := 92) C 5 (x4 + 1) [(4, .int (x4 + 1)), (5, .int v11), (0, .ref (X.N.2.1 7)), (1, .int x1), (2, .int x2), (3, .int x3)] dX3_readJoined_92 rfl rfl (nlt eL rfl) rfl ?_
          refine a_goto (pc := 95) C 39 dX3_readJoined_95 rfl ?_
          refine a_sub [2, 3, 4, 5, 0] rfl ?_
          exact ih q16 (x4 + 1) h
        · replace h := iteF c15 h
          refine a_iconst (pc := 83) C 0 dX3_readJoined_83 rfl ?_
          exact a_iret (pc := 84) C E rfl (som1 h) (som2 h) dX3_readJoined_84
set_option maxHeartbeats 200000 in
set_option maxRecDepth 100000 in
theorem ok_fLaw_readJoined_J35 {X : Amb} (eL : X.nL = 6) {kr kc : Nat} (hkr : Nat.ble (kr + 1) kc = true) (hkb : Nat.ble 2 kc = true) (C : Cx X RX3 cX3_readJoined kc) (g_fLaw_readJoined : Mem → Int32 → Int32 → Option (Int32 × Mem)) (g_fLaw_readOperand : Mem → Int32 → Option (Int32 × Mem)) (G_fLaw_readJoined : ∀ (M : Mem) (x1 : Int32) (x2 : Int32) {r : Int32} {M0 : Mem}, g_fLaw_readJoined M x1 x2 = some (r, M0) → Ct X.l X.N yX3_readJoined cX3_readJoined 6 (some .boolean) kr [.ref (X.N.2.1 7), .int x1, .int x2] M (QcI X.N (some .boolean) r M0)) (G_fLaw_readOperand : ∀ (M : Mem) (x1 : Int32) {r : Int32} {M0 : Mem}, g_fLaw_readOperand M x1 = some (r, M0) → Ct X.l X.N yX3_readOperand cX3_readOperand 3 (some .boolean) kr [.ref (X.N.2.1 7), .int x1] M (QcI X.N (some .boolean) r M0)) (r : Int32) (M0 : Mem) (E : En X (some .boolean) (QcI X.N (some .boolean) r M0)) (M : Mem) (x1 : Int32) (x2 : Int32) (s0 : Int32) (h : fLaw_readJoined_J35 g_fLaw_readJoined g_fLaw_readOperand M x1 x2 s0 = some (r, M0)) : WA X M [(0, .ref (X.N.2.1 7)), (1, .int x1), (2, .int x2)] 35 [.int s0] := by
  unfold fLaw_readJoined_J35 at h
  refine a_istore_n (pc := 35) C [(3, .int s0), (0, .ref (X.N.2.1 7)), (1, .int x1), (2, .int x2)] dX3_readJoined_35 rfl (nlt eL rfl) rfl ?_
  refine a_iconst (pc := 36) C 0 dX3_readJoined_36 rfl ?_
  refine a_istore (pc := 37) C [(4, .int 0), (3, .int s0), (0, .ref (X.N.2.1 7)), (1, .int x1), (2, .int x2)] dX3_readJoined_37 (nlt eL rfl) rfl ?_
  refine a_sub (lv2 := [(0, .ref (X.N.2.1 7)), (1, .int x1), (2, .int x2), (3, .int s0), (4, .int 0)]) [2, 3, 4, 1, 0] rfl ?_
  exact ok_fLaw_readJoined_L39 eL hkr hkb C g_fLaw_readJoined g_fLaw_readOperand G_fLaw_readJoined G_fLaw_readOperand x1 x2 s0 r M0 E FU M 0 h
set_option maxHeartbeats 200000 in
set_option maxRecDepth 100000 in
theorem ok_fLaw_readJoined_F (l : Launch) (N : Rig) {kr kc : Nat} (hkr : Nat.ble (kr + 1) kc = true) (hkb : Nat.ble 2 kc = true) (g_fLaw_readJoined : Mem → Int32 → Int32 → Option (Int32 × Mem)) (g_fLaw_readOperand : Mem → Int32 → Option (Int32 × Mem)) (G_fLaw_readJoined : ∀ (M : Mem) (x1 : Int32) (x2 : Int32) {r : Int32} {M0 : Mem}, g_fLaw_readJoined M x1 x2 = some (r, M0) → Ct l N yX3_readJoined cX3_readJoined 6 (some .boolean) kr [.ref (N.2.1 7), .int x1, .int x2] M (QcI N (some .boolean) r M0)) (G_fLaw_readOperand : ∀ (M : Mem) (x1 : Int32) {r : Int32} {M0 : Mem}, g_fLaw_readOperand M x1 = some (r, M0) → Ct l N yX3_readOperand cX3_readOperand 3 (some .boolean) kr [.ref (N.2.1 7), .int x1] M (QcI N (some .boolean) r M0)) (M : Mem) (x1 : Int32) (x2 : Int32) (r : Int32) (M0 : Mem) (h : fLaw_readJoined_F g_fLaw_readJoined g_fLaw_readOperand M x1 x2 = some (r, M0)) : Ct l N yX3_readJoined cX3_readJoined 6 (some .boolean) kc [.ref (N.2.1 7), .int x1, .int x2] M (QcI N (some .boolean) r M0) := by
  refine ct_of (by decide) rfl ?_
  intro X el eN eL C E
  subst el
  subst eN
  unfold fLaw_readJoined_F at h
  show WA X M [(0, .ref (X.N.2.1 7)), (1, .int x1), (2, .int x2)] 0 []
  refine a_iload_n (pc := 0) C dX3_readJoined_0 rfl 1 rfl ?_
  refine a_iconst (pc := 1) C 5 dX3_readJoined_1 rfl ?_
  refine a_icmp_lt (pc := 2) C 11 dX3_readJoined_2 rfl (fun c1 => ?_) (fun c1 => ?_)
  · replace h := iteT c1 h
    refine a_aload_n (pc := 11) C dX3_readJoined_11 rfl 0 rfl ?_
    refine a_iload_n (pc := 12) C dX3_readJoined_12 rfl 1 rfl ?_
    refine a_iconst (pc := 13) C 1 dX3_readJoined_13 rfl ?_
    refine a_iadd (pc := 14) C dX3_readJoined_14 ?_
    refine a_iload_n (pc := 15) C dX3_readJoined_15 rfl 2 rfl ?_
    obtain ⟨q2, eq2, h⟩ := bndS h
    refine a_callVI (pc := 16) C [.int (x1 + 1), .int x2] (G_fLaw_readJoined M (x1 + 1) x2 eq2) hkr mw_X3_readJoined wd_577 rfl rfl rfl rfl rfl rfl rfl dX3_readJoined_16 (fun z3 => ?_)
    refine a_if_ne (pc := 19) C 24 dX3_readJoined_19 rfl (fun c4 => ?_) (fun c4 => ?_)
    · replace h := iteT c4 h
      refine a_iload_n (pc := 24) C dX3_readJoined_24 rfl 1 rfl ?_
      refine a_iconst (pc := 25) C 2 dX3_readJoined_25 rfl ?_
      refine a_icmp_ne (pc := 26) C 33 dX3_readJoined_26 rfl (fun c5 => ?_) (fun c5 => ?_)
      · replace h := iteT c5 h
        refine a_bipush (pc := 33) C 120 dX3_readJoined_33 rfl ?_
        refine a_sub (lv2 := [(0, .ref (X.N.2.1 7)), (1, .int x1), (2, .int x2)]) [0, 1, 2] rfl ?_
        exact ok_fLaw_readJoined_J35 eL hkr hkb C g_fLaw_readJoined g_fLaw_readOperand G_fLaw_readJoined G_fLaw_readOperand r M0 E q2.2 x1 x2 120 h
      · replace h := iteF c5 h
        refine a_iconst (pc := 29) C 1 dX3_readJoined_29 rfl ?_
        refine a_goto (pc := 30) C 35 dX3_readJoined_30 rfl ?_
        refine a_sub (lv2 := [(0, .ref (X.N.2.1 7)), (1, .int x1), (2, .int x2)]) [0, 1, 2] rfl ?_
        exact ok_fLaw_readJoined_J35 eL hkr hkb C g_fLaw_readJoined g_fLaw_readOperand G_fLaw_readJoined G_fLaw_readOperand r M0 E q2.2 x1 x2 1 h
    · replace h := iteF c4 h
      refine a_iconst (pc := 22) C 0 dX3_readJoined_22 rfl ?_
      exact a_iret (pc := 23) C E rfl (som1 h) (som2 h) dX3_readJoined_23
  · replace h := iteF c1 h
    refine a_aload_n (pc := 5) C dX3_readJoined_5 rfl 0 rfl ?_
    refine a_iload_n (pc := 6) C dX3_readJoined_6 rfl 2 rfl ?_
    obtain ⟨q17, eq17, h⟩ := bndS h
    refine a_callVI (pc := 7) C [.int x2] (G_fLaw_readOperand M x2 eq17) hkr mw_X3_readOperand wd_581 rfl rfl rfl rfl rfl rfl rfl dX3_readJoined_7 (fun z18 => ?_)
    exact a_iret (pc := 10) C E (z18 _ rfl) (som1 h) (som2 h) dX3_readJoined_10
set_option maxHeartbeats 200000 in
set_option maxRecDepth 100000 in
theorem ok_fLaw_readOperand_J61 {X : Amb} (eL : X.nL = 3) {kr kc : Nat} (hkr : Nat.ble (kr + 1) kc = true) (hkb : Nat.ble 2 kc = true) (C : Cx X RX3 cX3_readOperand kc) (g_fLaw_readJoined : Mem → Int32 → Int32 → Option (Int32 × Mem)) (g_fLaw_readOperand : Mem → Int32 → Option (Int32 × Mem)) (G_fLaw_readJoined : ∀ (M : Mem) (x1 : Int32) (x2 : Int32) {r : Int32} {M0 : Mem}, g_fLaw_readJoined M x1 x2 = some (r, M0) → Ct X.l X.N yX3_readJoined cX3_readJoined 6 (some .boolean) kr [.ref (X.N.2.1 7), .int x1, .int x2] M (QcI X.N (some .boolean) r M0)) (G_fLaw_readOperand : ∀ (M : Mem) (x1 : Int32) {r : Int32} {M0 : Mem}, g_fLaw_readOperand M x1 = some (r, M0) → Ct X.l X.N yX3_readOperand cX3_readOperand 3 (some .boolean) kr [.ref (X.N.2.1 7), .int x1] M (QcI X.N (some .boolean) r M0)) (r : Int32) (M0 : Mem) (E : En X (some .boolean) (QcI X.N (some .boolean) r M0)) (M : Mem) (x1 : Int32) (x2 : Int32) (h : fLaw_readOperand_J61 g_fLaw_readJoined g_fLaw_readOperand M x1 x2 = some (r, M0)) : WA X M [(0, .ref (X.N.2.1 7)), (1, .int x1), (2, .int x2)] 61 [] := by
  unfold fLaw_readOperand_J61 at h
  refine a_iload_n (pc := 61) C dX3_readOperand_61 rfl 1 rfl ?_
  refine a_bipush (pc := 62) C 6 dX3_readOperand_62 rfl ?_
  refine a_icmp_lt (pc := 64) C 69 dX3_readOperand_64 rfl (fun c8 => ?_) (fun c8 => ?_)
  · replace h := iteT c8 h
    refine a_aload_n (pc := 69) C dX3_readOperand_69 rfl 0 rfl ?_
    refine a_dup (pc := 70) C dX3_readOperand_70 rfl ?_
    refine gf_3_2 (pc := 71) C wd_209 dX3_readOperand_71 ?_
    refine a_iconst (pc := 74) C 1 dX3_readOperand_74 rfl ?_
    refine a_iadd (pc := 75) C dX3_readOperand_75 ?_
    refine pf_3_2 (pc := 76) C wd_209 dX3_readOperand_76 ?_
    refine a_iload_n (pc := 79) C dX3_readOperand_79 rfl 2 rfl ?_
    refine a_bipush (pc := 80) C 40 dX3_readOperand_80 rfl ?_
    refine a_icmp_ne (pc := 82) C 111 dX3_readOperand_82 rfl (fun c9 => ?_) (fun c9 => ?_)
    · replace h := iteT c9 h
      refine a_aload_n (pc := 111) C dX3_readOperand_111 rfl 0 rfl ?_
      refine a_iload_n (pc := 112) C dX3_readOperand_112 rfl 1 rfl ?_
      refine a_iconst (pc := 113) C 1 dX3_readOperand_113 rfl ?_
      refine a_iadd (pc := 114) C dX3_readOperand_114 ?_
      obtain ⟨q10, eq10, h⟩ := bndS h
      refine a_callVI (pc := 115) C [.int (x1 + 1)] (G_fLaw_readOperand (wI M 7 2 ((M.1 7 2) + 1)) (x1 + 1) eq10) hkr mw_X3_readOperand wd_581 rfl rfl rfl rfl rfl rfl rfl dX3_readOperand_115 (fun z11 => ?_)
      refine a_if_ne (pc := 118) C 123 dX3_readOperand_118 rfl (fun c12 => ?_) (fun c12 => ?_)
      · replace h := iteT c12 h
        refine a_aload_n (pc := 123) C dX3_readOperand_123 rfl 0 rfl ?_
        refine a_iload_n (pc := 124) C dX3_readOperand_124 rfl 2 rfl ?_
        refine a_bipush (pc := 125) C 45 dX3_readOperand_125 rfl ?_
        refine a_icmp_ne (pc := 127) C 134 dX3_readOperand_127 rfl (fun c13 => ?_) (fun c13 => ?_)
        · replace h := iteT c13 h
          refine a_bipush (pc := 134) C (-33) dX3_readOperand_134 rfl ?_
          obtain ⟨q14, eq14, h⟩ := bndS h
          refine a_callVV (pc := 136) C [.int (-33)] (ok_fLaw_step X.l X.N q10.2 (-33) eq14) (ble_tr (b := 2) rfl hkb) mw_X3_step wd_596 rfl rfl rfl rfl rfl rfl rfl dX3_readOperand_136 ?_
          refine a_iconst (pc := 139) C 1 dX3_readOperand_139 rfl ?_
          exact a_iret (pc := 140) C E rfl (som1 h) (som2 h) dX3_readOperand_140
        · replace h := iteF c13 h
          refine a_iconst (pc := 130) C (-1) dX3_readOperand_130 rfl ?_
          refine a_goto (pc := 131) C 136 dX3_readOperand_131 rfl ?_
          obtain ⟨q15, eq15, h⟩ := bndS h
          refine a_callVV (pc := 136) C [.int (-1)] (ok_fLaw_step X.l X.N q10.2 (-1) eq15) (ble_tr (b := 2) rfl hkb) mw_X3_step wd_596 rfl rfl rfl rfl rfl rfl rfl dX3_readOperand_136 ?_
          refine a_iconst (pc := 139) C 1 dX3_readOperand_139 rfl ?_
          exact a_iret (pc := 140) C E rfl (som1 h) (som2 h) dX3_readOperand_140
      · replace h := iteF c12 h
        refine a_iconst (pc := 121) C 0 dX3_readOperand_121 rfl ?_
        exact a_iret (pc := 122) C E rfl (som1 h) (som2 h) dX3_readOperand_122
    · replace h := iteF c9 h
      refine a_aload_n (pc := 85) C dX3_readOperand_85 rfl 0 rfl ?_
      refine a_iconst (pc := 86) C 0 dX3_readOperand_86 rfl ?_
      refine a_iload_n (pc := 87) C dX3_readOperand_87 rfl 1 rfl ?_
      refine a_iconst (pc := 88) C 1 dX3_readOperand_88 rfl ?_
      refine a_iadd (pc := 89) C dX3_readOperand_89 ?_
      obtain ⟨q16, eq16, h⟩ := bndS h
      refine a_callVI (pc := 90) C [.int 0, .int (x1 + 1)] (G_fLaw_readJoined (wI M 7 2 ((M.1 7 2) + 1)) 0 (x1 + 1) eq16) hkr mw_X3_readJoined wd_577 rfl rfl rfl rfl rfl rfl rfl dX3_readOperand_90 (fun z17 => ?_)
      refine a_if_eq (pc := 93) C 109 dX3_readOperand_93 rfl (fun c18 => ?_) (fun c18 => ?_)
      · replace h := iteT c18 h
        refine a_iconst (pc := 109) C 0 dX3_readOperand_109 rfl ?_
        exact a_iret (pc := 110) C E rfl (som1 h) (som2 h) dX3_readOperand_110
      · replace h := iteF c18 h
        refine a_aload_n (pc := 96) C dX3_readOperand_96 rfl 0 rfl ?_
        refine a_bipush (pc := 97) C 41 dX3_readOperand_97 rfl ?_
        obtain ⟨q19, eq19, h⟩ := bndS h
        refine a_callVI (pc := 99) C [.int 41] (ok_fLaw_took X.l X.N q16.2 41 eq19) (ble_tr (b := 2) rfl hkb) mw_X3_took wd_603 rfl rfl rfl rfl rfl rfl rfl dX3_readOperand_99 (fun z20 => ?_)
        refine a_if_eq (pc := 102) C 109 dX3_readOperand_102 rfl (fun c21 => ?_) (fun c21 => ?_)
        · replace h := iteT c21 h
          refine a_iconst (pc := 109) C 0 dX3_readOperand_109 rfl ?_
          exact a_iret (pc := 110) C E rfl (som1 h) (som2 h) dX3_readOperand_110
        · replace h := iteF c21 h
          refine a_iconst (pc := 105) C 1 dX3_readOperand_105 rfl ?_
          refine a_goto (pc := 106) C 110 dX3_readOperand_106 rfl ?_
          exact a_iret (pc := 110) C E rfl (som1 h) (som2 h) dX3_readOperand_110
  · replace h := iteF c8 h
    refine a_iconst (pc := 67) C 0 dX3_readOperand_67 rfl ?_
    exact a_iret (pc := 68) C E rfl (som1 h) (som2 h) dX3_readOperand_68
set_option maxHeartbeats 200000 in
set_option maxRecDepth 100000 in
theorem ok_fLaw_readOperand_F (l : Launch) (N : Rig) {kr kc : Nat} (hkr : Nat.ble (kr + 1) kc = true) (hkb : Nat.ble 2 kc = true) (g_fLaw_readJoined : Mem → Int32 → Int32 → Option (Int32 × Mem)) (g_fLaw_readOperand : Mem → Int32 → Option (Int32 × Mem)) (G_fLaw_readJoined : ∀ (M : Mem) (x1 : Int32) (x2 : Int32) {r : Int32} {M0 : Mem}, g_fLaw_readJoined M x1 x2 = some (r, M0) → Ct l N yX3_readJoined cX3_readJoined 6 (some .boolean) kr [.ref (N.2.1 7), .int x1, .int x2] M (QcI N (some .boolean) r M0)) (G_fLaw_readOperand : ∀ (M : Mem) (x1 : Int32) {r : Int32} {M0 : Mem}, g_fLaw_readOperand M x1 = some (r, M0) → Ct l N yX3_readOperand cX3_readOperand 3 (some .boolean) kr [.ref (N.2.1 7), .int x1] M (QcI N (some .boolean) r M0)) (M : Mem) (x1 : Int32) (r : Int32) (M0 : Mem) (h : fLaw_readOperand_F g_fLaw_readJoined g_fLaw_readOperand M x1 = some (r, M0)) : Ct l N yX3_readOperand cX3_readOperand 3 (some .boolean) kc [.ref (N.2.1 7), .int x1] M (QcI N (some .boolean) r M0) := by
  refine ct_of (by decide) rfl ?_
  intro X el eN eL C E
  subst el
  subst eN
  unfold fLaw_readOperand_F at h
  show WA X M [(0, .ref (X.N.2.1 7)), (1, .int x1)] 0 []
  refine a_aload_n (pc := 0) C dX3_readOperand_0 rfl 0 rfl ?_
  obtain ⟨v1, ev1, h⟩ := bndS h
  refine a_callVI (pc := 1) C [] (ok_fLaw_sign X.l X.N M ev1) (ble_tr (b := 2) rfl hkb) mw_X3_sign wd_585 rfl rfl rfl rfl rfl rfl rfl dX3_readOperand_1 (fun z2 => ?_)
  refine a_istore_n (pc := 4) C [(2, .int v1), (0, .ref (X.N.2.1 7)), (1, .int x1)] dX3_readOperand_4 rfl (nlt eL rfl) rfl ?_
  refine a_iload_n (pc := 5) C dX3_readOperand_5 rfl 0 rfl ?_
  refine a_callSI (pc := 6) C [.int v1] (ok_fLaw_isDigit X.l X.N M v1) (ble_tr (b := 2) rfl hkb) mw_X3_isDigit wd_589 rfl rfl rfl dX3_readOperand_6 (fun z3 => ?_)
  refine a_if_eq (pc := 9) C 18 dX3_readOperand_9 rfl (fun c4 => ?_) (fun c4 => ?_)
  · replace h := iteT c4 h
    refine a_iload_n (pc := 18) C dX3_readOperand_18 rfl 0 rfl ?_
    refine a_callSI (pc := 19) C [.int v1] (ok_fLaw_isName X.l X.N M v1) (ble_tr (b := 2) rfl hkb) mw_X3_isName wd_600 rfl rfl rfl dX3_readOperand_19 (fun z5 => ?_)
    refine a_if_eq (pc := 22) C 43 dX3_readOperand_22 rfl (fun c6 => ?_) (fun c6 => ?_)
    · replace h := iteT c6 h
      refine a_iload_n (pc := 43) C dX3_readOperand_43 rfl 0 rfl ?_
      refine a_bipush (pc := 44) C 40 dX3_readOperand_44 rfl ?_
      refine a_icmp_eq (pc := 46) C 61 dX3_readOperand_46 rfl (fun c7 => ?_) (fun c7 => ?_)
      · replace h := iteT c7 h
        refine a_sub (lv2 := [(0, .ref (X.N.2.1 7)), (1, .int x1), (2, .int v1)]) [1, 2, 0] rfl ?_
        exact ok_fLaw_readOperand_J61 eL hkr hkb C g_fLaw_readJoined g_fLaw_readOperand G_fLaw_readJoined G_fLaw_readOperand r M0 E M x1 v1 h
      · replace h := iteF c7 h
        refine a_iload_n (pc := 49) C dX3_readOperand_49 rfl 0 rfl ?_
        refine a_bipush (pc := 50) C 33 dX3_readOperand_50 rfl ?_
        refine a_icmp_eq (pc := 52) C 61 dX3_readOperand_52 rfl (fun c22 => ?_) (fun c22 => ?_)
        · replace h := iteT c22 h
          refine a_sub (lv2 := [(0, .ref (X.N.2.1 7)), (1, .int x1), (2, .int v1)]) [1, 2, 0] rfl ?_
          exact ok_fLaw_readOperand_J61 eL hkr hkb C g_fLaw_readJoined g_fLaw_readOperand G_fLaw_readJoined G_fLaw_readOperand r M0 E M x1 v1 h
        · replace h := iteF c22 h
          refine a_iload_n (pc := 55) C dX3_readOperand_55 rfl 0 rfl ?_
          refine a_bipush (pc := 56) C 45 dX3_readOperand_56 rfl ?_
          refine a_icmp_ne (pc := 58) C 67 dX3_readOperand_58 rfl (fun c23 => ?_) (fun c23 => ?_)
          · replace h := iteT c23 h
            refine a_iconst (pc := 67) C 0 dX3_readOperand_67 rfl ?_
            exact a_iret (pc := 68) C E rfl (som1 h) (som2 h) dX3_readOperand_68
          · replace h := iteF c23 h
            refine a_sub (lv2 := [(0, .ref (X.N.2.1 7)), (1, .int x1), (2, .int v1)]) [1, 2, 0] rfl ?_
            exact ok_fLaw_readOperand_J61 eL hkr hkb C g_fLaw_readJoined g_fLaw_readOperand G_fLaw_readJoined G_fLaw_readOperand r M0 E M x1 v1 h
    · replace h := iteF c6 h
      refine a_aload_n (pc := 25) C dX3_readOperand_25 rfl 1 rfl ?_
      refine a_dup (pc := 26) C dX3_readOperand_26 rfl ?_
      refine gf_3_2 (pc := 27) C wd_209 dX3_readOperand_27 ?_
      refine a_iconst (pc := 30) C 1 dX3_readOperand_30 rfl ?_
      refine a_iadd (pc := 31) C dX3_readOperand_31 ?_
      refine pf_3_2 (pc := 32) C wd_209 dX3_readOperand_32 ?_
      refine a_aload_n (pc := 35) C dX3_readOperand_35 rfl 1 rfl ?_
      refine a_iload_n (pc := 36) C dX3_readOperand_36 rfl 0 rfl ?_
      refine a_ineg (pc := 37) C dX3_readOperand_37 ?_
      obtain ⟨q24, eq24, h⟩ := bndS h
      refine a_callVV (pc := 38) C [.int (-v1)] (ok_fLaw_step X.l X.N (wI M 7 2 ((M.1 7 2) + 1)) (-v1) eq24) (ble_tr (b := 2) rfl hkb) mw_X3_step wd_596 rfl rfl rfl rfl rfl rfl rfl dX3_readOperand_38 ?_
      refine a_iconst (pc := 41) C 1 dX3_readOperand_41 rfl ?_
      exact a_iret (pc := 42) C E rfl (som1 h) (som2 h) dX3_readOperand_42
  · replace h := iteF c4 h
    refine a_aload_n (pc := 12) C dX3_readOperand_12 rfl 1 rfl ?_
    obtain ⟨q25, eq25, h⟩ := bndS h
    refine a_callVV (pc := 13) C [] (ok_fLaw_readNumber X.l X.N M eq25) (ble_tr (b := 2) rfl hkb) mw_X3_readNumber wd_592 rfl rfl rfl rfl rfl rfl rfl dX3_readOperand_13 ?_
    refine a_iconst (pc := 16) C 1 dX3_readOperand_16 rfl ?_
    exact a_iret (pc := 17) C E rfl (som1 h) (som2 h) dX3_readOperand_17
theorem ok_rec_fLaw_readJoined (l : Launch) (N : Rig) : ∀ n : Nat, (∀ (M : Mem) (x1 : Int32) (x2 : Int32) {r : Int32} {M0 : Mem}, (rec_fLaw_readJoined n).1 M x1 x2 = some (r, M0) → Ct l N yX3_readJoined cX3_readJoined 6 (some .boolean) (2 + n) [.ref (N.2.1 7), .int x1, .int x2] M (QcI N (some .boolean) r M0)) ∧ (∀ (M : Mem) (x1 : Int32) {r : Int32} {M0 : Mem}, (rec_fLaw_readJoined n).2 M x1 = some (r, M0) → Ct l N yX3_readOperand cX3_readOperand 3 (some .boolean) (2 + n) [.ref (N.2.1 7), .int x1] M (QcI N (some .boolean) r M0)) := by
  intro n
  induction n with
  | zero => exact ⟨(by intro _ _ _ _ _ h; cases h), (by intro _ _ _ _ h; cases h)⟩
  | succ n ih => exact ⟨fun M x1 x2 r M0 h => ok_fLaw_readJoined_F l N (kr := 2 + n) (kc := 2 + (n + 1)) (Nat.ble_eq.mpr (by omega)) (Nat.ble_eq.mpr (by omega)) (rec_fLaw_readJoined n).1 (rec_fLaw_readJoined n).2 ih.1 ih.2 M x1 x2 r M0 h, fun M x1 r M0 h => ok_fLaw_readOperand_F l N (kr := 2 + n) (kc := 2 + (n + 1)) (Nat.ble_eq.mpr (by omega)) (Nat.ble_eq.mpr (by omega)) (rec_fLaw_readJoined n).1 (rec_fLaw_readJoined n).2 ih.1 ih.2 M x1 r M0 h⟩
theorem ok_fLaw_readJoined (l : Launch) (N : Rig) (M : Mem) (x1 : Int32) (x2 : Int32) {r : Int32} {M0 : Mem} (h : fLaw_readJoined M x1 x2 = some (r, M0)) : Ct l N yX3_readJoined cX3_readJoined 6 (some .boolean) 102 [.ref (N.2.1 7), .int x1, .int x2] M (QcI N (some .boolean) r M0) := (ok_rec_fLaw_readJoined l N 100).1 M x1 x2 h
theorem ok_fLaw_readOperand (l : Launch) (N : Rig) (M : Mem) (x1 : Int32) {r : Int32} {M0 : Mem} (h : fLaw_readOperand M x1 = some (r, M0)) : Ct l N yX3_readOperand cX3_readOperand 3 (some .boolean) 102 [.ref (N.2.1 7), .int x1] M (QcI N (some .boolean) r M0) := (ok_rec_fLaw_readJoined l N 100).2 M x1 h
set_option maxHeartbeats 200000 in
set_option maxRecDepth 100000 in
theorem ok_fLaw_readLine (l : Launch) (N : Rig) (M : Mem) {r : Int32} {M0 : Mem} (h : fLaw_readLine M = some (r, M0)) : Ct l N yX3_readLine cX3_readLine 2 (some .boolean) 103 [.ref (N.2.1 7)] M (QcI N (some .boolean) r M0) := by
  refine ct_of (by decide) rfl ?_
  intro X el eN eL C E
  subst el
  subst eN
  unfold fLaw_readLine at h
  show WA X M [(0, .ref (X.N.2.1 7))] 0 []
  refine a_aload_n (pc := 0) C dX3_readLine_0 rfl 0 rfl ?_
  refine a_iconst (pc := 1) C 0 dX3_readLine_1 rfl ?_
  refine a_iconst (pc := 2) C 0 dX3_readLine_2 rfl ?_
  obtain ⟨q1, eq1, h⟩ := bndS h
  refine a_callVI (pc := 3) C [.int 0, .int 0] (ok_fLaw_readJoined X.l X.N M 0 0 eq1) rfl mw_X3_readJoined wd_577 rfl rfl rfl rfl rfl rfl rfl dX3_readLine_3 (fun z2 => ?_)
  refine a_if_ne (pc := 6) C 11 dX3_readLine_6 rfl (fun c3 => ?_) (fun c3 => ?_)
  · replace h := iteT c3 h
    refine a_aload_n (pc := 11) C dX3_readLine_11 rfl 0 rfl ?_
    refine a_bipush (pc := 12) C 63 dX3_readLine_12 rfl ?_
    obtain ⟨q4, eq4, h⟩ := bndS h
    refine a_callVI (pc := 14) C [.int 63] (ok_fLaw_took X.l X.N q1.2 63 eq4) rfl mw_X3_took wd_603 rfl rfl rfl rfl rfl rfl rfl dX3_readLine_14 (fun z5 => ?_)
    refine a_if_ne (pc := 17) C 28 dX3_readLine_17 rfl (fun c6 => ?_) (fun c6 => ?_)
    · replace h := iteT c6 h
      refine a_aload_n (pc := 28) C dX3_readLine_28 rfl 0 rfl ?_
      refine a_bipush (pc := 29) C (-2) dX3_readLine_29 rfl ?_
      obtain ⟨q7, eq7, h⟩ := bndS h
      refine a_callVV (pc := 31) C [.int (-2)] (ok_fLaw_step X.l X.N q4.2 (-2) eq7) rfl mw_X3_step wd_596 rfl rfl rfl rfl rfl rfl rfl dX3_readLine_31 ?_
      refine a_aload_n (pc := 34) C dX3_readLine_34 rfl 0 rfl ?_
      refine gf_3_4 (pc := 35) C wd_211 dX3_readLine_35 ?_
      refine a_istore_n (pc := 38) C [(1, .int (q7.1 7 4)), (0, .ref (X.N.2.1 7))] dX3_readLine_38 rfl (nlt eL rfl) rfl ?_
      refine a_aload_n (pc := 39) C dX3_readLine_39 rfl 1 rfl ?_
      refine a_iconst (pc := 40) C 0 dX3_readLine_40 rfl ?_
      obtain ⟨q8, eq8, h⟩ := bndS h
      refine a_callVV (pc := 41) C [.int 0] (ok_fLaw_step X.l X.N q7 0 eq8) rfl mw_X3_step wd_596 rfl rfl rfl rfl rfl rfl rfl dX3_readLine_41 ?_
      refine a_aload_n (pc := 44) C dX3_readLine_44 rfl 1 rfl ?_
      refine a_iconst (pc := 45) C 0 dX3_readLine_45 rfl ?_
      refine a_iconst (pc := 46) C 0 dX3_readLine_46 rfl ?_
      obtain ⟨q9, eq9, h⟩ := bndS h
      refine a_callVI (pc := 47) C [.int 0, .int 0] (ok_fLaw_readJoined X.l X.N q8 0 0 eq9) rfl mw_X3_readJoined wd_577 rfl rfl rfl rfl rfl rfl rfl dX3_readLine_47 (fun z10 => ?_)
      refine a_if_ne (pc := 50) C 55 dX3_readLine_50 rfl (fun c11 => ?_) (fun c11 => ?_)
      · replace h := iteT c11 h
        refine a_aload_n (pc := 55) C dX3_readLine_55 rfl 1 rfl ?_
        refine a_bipush (pc := 56) C (-3) dX3_readLine_56 rfl ?_
        obtain ⟨q12, eq12, h⟩ := bndS h
        refine a_callVV (pc := 58) C [.int (-3)] (ok_fLaw_step X.l X.N q9.2 (-3) eq12) rfl mw_X3_step wd_596 rfl rfl rfl rfl rfl rfl rfl dX3_readLine_58 ?_
        refine a_iload_n (pc := 61) C dX3_readLine_61 rfl 0 rfl ?_
        refine a_aload_n (pc := 62) C dX3_readLine_62 rfl 1 rfl ?_
        refine gf_3_3 (pc := 63) C wd_210 dX3_readLine_63 ?_
        obtain ⟨v13, ev13, h⟩ := bndS h
        refine a_dlen (pc := 66) C ev13 dX3_readLine_66 ?_
        refine a_icmp_ge (pc := 67) C 80 dX3_readLine_67 rfl (fun c14 => ?_) (fun c14 => ?_)
        · replace h := iteT c14 h
          refine a_iconst (pc := 80) C 1 dX3_readLine_80 rfl ?_
          exact a_iret (pc := 81) C E rfl (som1 h) (som2 h) dX3_readLine_81
        · replace h := iteF c14 h
          refine a_aload_n (pc := 70) C dX3_readLine_70 rfl 1 rfl ?_
          refine gf_3_3 (pc := 71) C wd_210 dX3_readLine_71 ?_
          refine a_iload_n (pc := 74) C dX3_readLine_74 rfl 0 rfl ?_
          refine a_aload_n (pc := 75) C dX3_readLine_75 rfl 1 rfl ?_
          refine gf_3_4 (pc := 76) C wd_211 dX3_readLine_76 ?_
          obtain ⟨M15, eM15, h⟩ := bndS h
          refine a_dast (pc := 79) C eM15 dX3_readLine_79 ?_
          refine a_iconst (pc := 80) C 1 dX3_readLine_80 rfl ?_
          exact a_iret (pc := 81) C E rfl (som1 h) (som2 h) dX3_readLine_81
      · replace h := iteF c11 h
        refine a_iconst (pc := 53) C 0 dX3_readLine_53 rfl ?_
        exact a_iret (pc := 54) C E rfl (som1 h) (som2 h) dX3_readLine_54
    · replace h := iteF c6 h
      refine a_aload_n (pc := 20) C dX3_readLine_20 rfl 0 rfl ?_
      refine a_bipush (pc := 21) C (-3) dX3_readLine_21 rfl ?_
      obtain ⟨q16, eq16, h⟩ := bndS h
      refine a_callVV (pc := 23) C [.int (-3)] (ok_fLaw_step X.l X.N q4.2 (-3) eq16) rfl mw_X3_step wd_596 rfl rfl rfl rfl rfl rfl rfl dX3_readLine_23 ?_
      refine a_iconst (pc := 26) C 1 dX3_readLine_26 rfl ?_
      exact a_iret (pc := 27) C E rfl (som1 h) (som2 h) dX3_readLine_27
  · replace h := iteF c3 h
    refine a_iconst (pc := 9) C 0 dX3_readLine_9 rfl ?_
    exact a_iret (pc := 10) C E rfl (som1 h) (som2 h) dX3_readLine_10
set_option maxHeartbeats 200000 in
set_option maxRecDepth 100000 in
theorem ok_fLaw_readLines_L2 {X : Amb} (eL : X.nL = 2) (C : Cx X RX3 cX3_readLines 104) (r : Int32) (M0 : Mem) (E : En X (some .boolean) (QcI X.N (some .boolean) r M0)) : ∀ (n : Nat) (M : Mem) (x1 : Int32), fLaw_readLines_L2 n M x1 = some (r, M0) → WA X M [(0, .ref (X.N.2.1 7)), (1, .int x1)] 2 [] := by
  intro n
  induction n with
  | zero => intro _ _ h; cases h
  | succ n ih =>
    intro M x1 h
    replace h : fLaw_readLines_L2_F (fLaw_readLines_L2 n) M x1 = some (r, M0) := h
    unfold fLaw_readLines_L2_F at h
    refine a_iload_n (pc := 2) C dX3_readLines_2 rfl 1 rfl ?_
    refine a_bipush (pc := 3) C 120 dX3_readLines_3 rfl ?_
    refine a_icmp_gt (pc := 5) C 49 dX3_readLines_5 rfl (fun c1 => ?_) (fun c1 => ?_)
    · replace h := iteT c1 h
      refine a_iconst (pc := 49) C 0 dX3_readLines_49 rfl ?_
      exact a_iret (pc := 50) C E rfl (som1 h) (som2 h) dX3_readLines_50
    · replace h := iteF c1 h
      refine a_aload_n (pc := 8) C dX3_readLines_8 rfl 0 rfl ?_
      obtain ⟨q2, eq2, h⟩ := bndS h
      refine a_callVI (pc := 9) C [] (ok_fLaw_readLine X.l X.N M eq2) rfl mw_X3_readLine wd_573 rfl rfl rfl rfl rfl rfl rfl dX3_readLines_9 (fun z3 => ?_)
      refine a_if_ne (pc := 12) C 17 dX3_readLines_12 rfl (fun c4 => ?_) (fun c4 => ?_)
      · replace h := iteT c4 h
        refine a_aload_n (pc := 17) C dX3_readLines_17 rfl 0 rfl ?_
        refine a_bipush (pc := 18) C 59 dX3_readLines_18 rfl ?_
        obtain ⟨q5, eq5, h⟩ := bndS h
        refine a_callVI (pc := 20) C [.int 59] (ok_fLaw_took X.l X.N q2.2 59 eq5) rfl mw_X3_took wd_603 rfl rfl rfl rfl rfl rfl rfl dX3_readLines_20 (fun z6 => ?_)
        refine a_if_ne (pc := 23) C 43 dX3_readLines_23 rfl (fun c7 => ?_) (fun c7 => ?_)
        · replace h := iteT c7 h
          refine a_iinc (pc := 43) C 1 (x1 + 1) [(1, .int (x1 + 1)), (0, .ref (X.N.2.1 7))] dX3_readLines_43 rfl rfl (nlt eL rfl) rfl ?_
          refine a_goto (pc := 46) C 2 dX3_readLines_46 rfl ?_
          refine a_sub [1, 0] rfl ?_
          exact ih q5.2 (x1 + 1) h
        · replace h := iteF c7 h
          refine a_aload_n (pc := 26) C dX3_readLines_26 rfl 0 rfl ?_
          refine gf_3_2 (pc := 27) C wd_209 dX3_readLines_27 ?_
          refine a_aload_n (pc := 30) C dX3_readLines_30 rfl 0 rfl ?_
          refine gf_3_0 (pc := 31) C wd_206 dX3_readLines_31 ?_
          refine a_icmp_lt (pc := 34) C 41 dX3_readLines_34 rfl (fun c8 => ?_) (fun c8 => ?_)
          · replace h := iteT c8 h
            refine a_iconst (pc := 41) C 0 dX3_readLines_41 rfl ?_
            exact a_iret (pc := 42) C E rfl (som1 h) (som2 h) dX3_readLines_42
          · replace h := iteF c8 h
            refine a_iconst (pc := 37) C 1 dX3_readLines_37 rfl ?_
            refine a_goto (pc := 38) C 42 dX3_readLines_38 rfl ?_
            exact a_iret (pc := 42) C E rfl (som1 h) (som2 h) dX3_readLines_42
      · replace h := iteF c4 h
        refine a_iconst (pc := 15) C 0 dX3_readLines_15 rfl ?_
        exact a_iret (pc := 16) C E rfl (som1 h) (som2 h) dX3_readLines_16
set_option maxHeartbeats 200000 in
set_option maxRecDepth 100000 in
theorem ok_fLaw_readLines (l : Launch) (N : Rig) (M : Mem) {r : Int32} {M0 : Mem} (h : fLaw_readLines M = some (r, M0)) : Ct l N yX3_readLines cX3_readLines 2 (some .boolean) 104 [.ref (N.2.1 7)] M (QcI N (some .boolean) r M0) := by
  refine ct_of (by decide) rfl ?_
  intro X el eN eL C E
  subst el
  subst eN
  unfold fLaw_readLines at h
  show WA X M [(0, .ref (X.N.2.1 7))] 0 []
  refine a_iconst (pc := 0) C 0 dX3_readLines_0 rfl ?_
  refine a_istore_n (pc := 1) C [(1, .int 0), (0, .ref (X.N.2.1 7))] dX3_readLines_1 rfl (nlt eL rfl) rfl ?_
  refine a_sub (lv2 := [(0, .ref (X.N.2.1 7)), (1, .int 0)]) [1, 0] rfl ?_
  exact ok_fLaw_readLines_L2 eL C r M0 E FU M 0 h
set_option maxHeartbeats 200000 in
set_option maxRecDepth 100000 in
theorem ok_fLaw_read (l : Launch) (N : Rig) (M : Mem) {r : Int32} {M0 : Mem} (h : fLaw_read M = some (r, M0)) : Ct l N yX3_read cX3_read 3 (some .int) 105 [.ref (N.2.1 7)] M (QcI N (some .int) r M0) := by
  refine ct_of (by decide) rfl ?_
  intro X el eN eL C E
  subst el
  subst eN
  unfold fLaw_read at h
  show WA X M [(0, .ref (X.N.2.1 7))] 0 []
  refine a_aload_n (pc := 0) C dX3_read_0 rfl 0 rfl ?_
  refine a_iconst (pc := 1) C 0 dX3_read_1 rfl ?_
  refine pf_3_2 (pc := 2) C wd_209 dX3_read_2 ?_
  refine a_aload_n (pc := 5) C dX3_read_5 rfl 0 rfl ?_
  refine a_iconst (pc := 6) C 0 dX3_read_6 rfl ?_
  refine pf_3_4 (pc := 7) C wd_211 dX3_read_7 ?_
  refine a_aload_n (pc := 10) C dX3_read_10 rfl 0 rfl ?_
  obtain ⟨q1, eq1, h⟩ := bndS h
  refine a_callVI (pc := 11) C [] (ok_fLaw_readLines X.l X.N (wI (wI M 7 2 0) 7 4 0) eq1) rfl mw_X3_readLines wd_569 rfl rfl rfl rfl rfl rfl rfl dX3_read_11 (fun z2 => ?_)
  refine a_istore_n (pc := 14) C [(1, .int q1.1), (0, .ref (X.N.2.1 7))] dX3_read_14 rfl (nlt eL rfl) rfl ?_
  refine a_aload_n (pc := 15) C dX3_read_15 rfl 1 rfl ?_
  refine a_iconst (pc := 16) C 0 dX3_read_16 rfl ?_
  refine pf_3_0 (pc := 17) C wd_206 dX3_read_17 ?_
  refine a_iload_n (pc := 20) C dX3_read_20 rfl 0 rfl ?_
  refine a_if_ne (pc := 21) C 32 dX3_read_21 rfl (fun c3 => ?_) (fun c3 => ?_)
  · replace h := iteT c3 h
    refine a_aload_n (pc := 32) C dX3_read_32 rfl 1 rfl ?_
    refine gf_3_5 (pc := 33) C wd_212 dX3_read_33 ?_
    refine a_astore_n (pc := 36) C [(2, .ref (X.N.2.1 ((wI q1.2 7 0 0).2.2.2))), (1, .int q1.1), (0, .ref (X.N.2.1 7))] dX3_read_36 rfl (nlt eL rfl) rfl ?_
    refine a_aload_n (pc := 37) C dX3_read_37 rfl 2 rfl ?_
    refine a_aload_n (pc := 38) C dX3_read_38 rfl 2 rfl ?_
    refine gf_3_3 (pc := 39) C wd_210 dX3_read_39 ?_
    refine pf_3_5 (pc := 42) C wd_212 dX3_read_42 ?_
    refine a_aload_n (pc := 45) C dX3_read_45 rfl 2 rfl ?_
    refine a_aload_n (pc := 46) C dX3_read_46 rfl 0 rfl ?_
    refine pf_3_3 (pc := 47) C wd_210 dX3_read_47 ?_
    refine a_aload_n (pc := 50) C dX3_read_50 rfl 2 rfl ?_
    refine a_aload_n (pc := 51) C dX3_read_51 rfl 2 rfl ?_
    refine gf_3_4 (pc := 52) C wd_211 dX3_read_52 ?_
    refine pf_3_6 (pc := 55) C wd_213 dX3_read_55 ?_
    refine a_iconst (pc := 58) C 1 dX3_read_58 rfl ?_
    exact a_iret (pc := 59) C E rfl (som1 h) (som2 h) dX3_read_59
  · replace h := iteF c3 h
    refine a_bipush (pc := 24) C (-100) dX3_read_24 rfl ?_
    refine a_aload_n (pc := 26) C dX3_read_26 rfl 1 rfl ?_
    refine gf_3_2 (pc := 27) C wd_209 dX3_read_27 ?_
    refine a_isub (pc := 30) C dX3_read_30 ?_
    exact a_iret (pc := 31) C E rfl (som1 h) (som2 h) dX3_read_31
set_option maxHeartbeats 200000 in
set_option maxRecDepth 100000 in
theorem ok_fLaw_joined (l : Launch) (N : Rig) (M : Mem) (x0 : Int32) (x1 : Int32) (x2 : Int32) {r : Int32} (h : fLaw_joined x0 x1 x2 = some r) : Ct l N yX3_joined cX3_joined 3 (some .int) 0 [.int x0, .int x1, .int x2] M (QcI N (some .int) r M) := by
  refine ct_of (by decide) rfl ?_
  intro X el eN eL C E
  subst el
  subst eN
  unfold fLaw_joined at h
  show WA X M [(0, .int x0), (1, .int x1), (2, .int x2)] 0 []
  refine a_iload_n (pc := 0) C dX3_joined_0 rfl 0 rfl ?_
  by_cases c1 : x0 = 38
  · replace h := iteT c1 h
    refine a_lsw (pc := 1) (off := 97) C 98 dX3_joined_1 (by decide) (lsw_eq c1 rfl) rfl ?_
    refine a_iload_n (pc := 98) C dX3_joined_98 rfl 1 rfl ?_
    refine a_if_eq (pc := 99) C 110 dX3_joined_99 rfl (fun c2 => ?_) (fun c2 => ?_)
    · replace h := iteT c2 h
      refine a_iconst (pc := 110) C 0 dX3_joined_110 rfl ?_
      exact a_iret (pc := 111) C E rfl (somI h) rfl dX3_joined_111
    · replace h := iteF c2 h
      refine a_iload_n (pc := 102) C dX3_joined_102 rfl 2 rfl ?_
      refine a_if_eq (pc := 103) C 110 dX3_joined_103 rfl (fun c3 => ?_) (fun c3 => ?_)
      · replace h := iteT c3 h
        refine a_iconst (pc := 110) C 0 dX3_joined_110 rfl ?_
        exact a_iret (pc := 111) C E rfl (somI h) rfl dX3_joined_111
      · replace h := iteF c3 h
        refine a_iconst (pc := 106) C 1 dX3_joined_106 rfl ?_
        refine a_goto (pc := 107) C 111 dX3_joined_107 rfl ?_
        exact a_iret (pc := 111) C E rfl (somI h) rfl dX3_joined_111
  replace h := iteF c1 h
  by_cases c4 : x0 = 42
  · replace h := iteT c4 h
    refine a_lsw (pc := 1) (off := 152) C 153 dX3_joined_1 (by decide) (lsw_eq c4 rfl) rfl ?_
    refine a_iload_n (pc := 153) C dX3_joined_153 rfl 1 rfl ?_
    refine a_iload_n (pc := 154) C dX3_joined_154 rfl 2 rfl ?_
    refine a_imul (pc := 155) C dX3_joined_155 ?_
    exact a_iret (pc := 156) C E rfl (somI h) rfl dX3_joined_156
  replace h := iteF c4 h
  by_cases c5 : x0 = 43
  · replace h := iteT c5 h
    refine a_lsw (pc := 1) (off := 144) C 145 dX3_joined_1 (by decide) (lsw_eq c5 rfl) rfl ?_
    refine a_iload_n (pc := 145) C dX3_joined_145 rfl 1 rfl ?_
    refine a_iload_n (pc := 146) C dX3_joined_146 rfl 2 rfl ?_
    refine a_iadd (pc := 147) C dX3_joined_147 ?_
    exact a_iret (pc := 148) C E rfl (somI h) rfl dX3_joined_148
  replace h := iteF c5 h
  by_cases c6 : x0 = 45
  · replace h := iteT c6 h
    refine a_lsw (pc := 1) (off := 148) C 149 dX3_joined_1 (by decide) (lsw_eq c6 rfl) rfl ?_
    refine a_iload_n (pc := 149) C dX3_joined_149 rfl 1 rfl ?_
    refine a_iload_n (pc := 150) C dX3_joined_150 rfl 2 rfl ?_
    refine a_isub (pc := 151) C dX3_joined_151 ?_
    exact a_iret (pc := 152) C E rfl (somI h) rfl dX3_joined_152
  replace h := iteF c6 h
  by_cases c7 : x0 = 47
  · replace h := iteT c7 h
    refine a_lsw (pc := 1) (off := 156) C 157 dX3_joined_1 (by decide) (lsw_eq c7 rfl) rfl ?_
    refine a_iload_n (pc := 157) C dX3_joined_157 rfl 2 rfl ?_
    refine a_if_ne (pc := 158) C 165 dX3_joined_158 rfl (fun c8 => ?_) (fun c8 => ?_)
    · replace h := iteT c8 h
      refine a_iload_n (pc := 165) C dX3_joined_165 rfl 1 rfl ?_
      refine a_iload_n (pc := 166) C dX3_joined_166 rfl 2 rfl ?_
      obtain ⟨v9, ev9, h⟩ := bndS h
      obtain ⟨nv9, rfl⟩ := dvI_s ev9
      refine a_idiv (pc := 167) C dX3_joined_167 nv9 ?_
      exact a_iret (pc := 168) C E rfl (somI h) rfl dX3_joined_168
    · replace h := iteF c8 h
      refine a_iconst (pc := 161) C 0 dX3_joined_161 rfl ?_
      refine a_goto (pc := 162) C 168 dX3_joined_162 rfl ?_
      exact a_iret (pc := 168) C E rfl (somI h) rfl dX3_joined_168
  replace h := iteF c7 h
  by_cases c10 : x0 = 60
  · replace h := iteT c10 h
    refine a_lsw (pc := 1) (off := 111) C 112 dX3_joined_1 (by decide) (lsw_eq c10 rfl) rfl ?_
    refine a_iload_n (pc := 112) C dX3_joined_112 rfl 1 rfl ?_
    refine a_iload_n (pc := 113) C dX3_joined_113 rfl 2 rfl ?_
    refine a_icmp_ge (pc := 114) C 121 dX3_joined_114 rfl (fun c11 => ?_) (fun c11 => ?_)
    · replace h := iteT c11 h
      refine a_iconst (pc := 121) C 0 dX3_joined_121 rfl ?_
      exact a_iret (pc := 122) C E rfl (somI h) rfl dX3_joined_122
    · replace h := iteF c11 h
      refine a_iconst (pc := 117) C 1 dX3_joined_117 rfl ?_
      refine a_goto (pc := 118) C 122 dX3_joined_118 rfl ?_
      exact a_iret (pc := 122) C E rfl (somI h) rfl dX3_joined_122
  replace h := iteF c10 h
  by_cases c12 : x0 = 61
  · replace h := iteT c12 h
    refine a_lsw (pc := 1) (off := 122) C 123 dX3_joined_1 (by decide) (lsw_eq c12 rfl) rfl ?_
    refine a_iload_n (pc := 123) C dX3_joined_123 rfl 1 rfl ?_
    refine a_iload_n (pc := 124) C dX3_joined_124 rfl 2 rfl ?_
    refine a_icmp_ne (pc := 125) C 132 dX3_joined_125 rfl (fun c13 => ?_) (fun c13 => ?_)
    · replace h := iteT c13 h
      refine a_iconst (pc := 132) C 0 dX3_joined_132 rfl ?_
      exact a_iret (pc := 133) C E rfl (somI h) rfl dX3_joined_133
    · replace h := iteF c13 h
      refine a_iconst (pc := 128) C 1 dX3_joined_128 rfl ?_
      refine a_goto (pc := 129) C 133 dX3_joined_129 rfl ?_
      exact a_iret (pc := 133) C E rfl (somI h) rfl dX3_joined_133
  replace h := iteF c12 h
  by_cases c14 : x0 = 62
  · replace h := iteT c14 h
    refine a_lsw (pc := 1) (off := 133) C 134 dX3_joined_1 (by decide) (lsw_eq c14 rfl) rfl ?_
    refine a_iload_n (pc := 134) C dX3_joined_134 rfl 1 rfl ?_
    refine a_iload_n (pc := 135) C dX3_joined_135 rfl 2 rfl ?_
    refine a_icmp_le (pc := 136) C 143 dX3_joined_136 rfl (fun c15 => ?_) (fun c15 => ?_)
    · replace h := iteT c15 h
      refine a_iconst (pc := 143) C 0 dX3_joined_143 rfl ?_
      exact a_iret (pc := 144) C E rfl (somI h) rfl dX3_joined_144
    · replace h := iteF c15 h
      refine a_iconst (pc := 139) C 1 dX3_joined_139 rfl ?_
      refine a_goto (pc := 140) C 144 dX3_joined_140 rfl ?_
      exact a_iret (pc := 144) C E rfl (somI h) rfl dX3_joined_144
  replace h := iteF c14 h
  by_cases c16 : x0 = 124
  · replace h := iteT c16 h
    refine a_lsw (pc := 1) (off := 83) C 84 dX3_joined_1 (by decide) (lsw_eq c16 rfl) rfl ?_
    refine a_iload_n (pc := 84) C dX3_joined_84 rfl 1 rfl ?_
    refine a_if_ne (pc := 85) C 92 dX3_joined_85 rfl (fun c17 => ?_) (fun c17 => ?_)
    · replace h := iteT c17 h
      refine a_iconst (pc := 92) C 1 dX3_joined_92 rfl ?_
      refine a_goto (pc := 93) C 97 dX3_joined_93 rfl ?_
      exact a_iret (pc := 97) C E rfl (somI h) rfl dX3_joined_97
    · replace h := iteF c17 h
      refine a_iload_n (pc := 88) C dX3_joined_88 rfl 2 rfl ?_
      refine a_if_eq (pc := 89) C 96 dX3_joined_89 rfl (fun c18 => ?_) (fun c18 => ?_)
      · replace h := iteT c18 h
        refine a_iconst (pc := 96) C 0 dX3_joined_96 rfl ?_
        exact a_iret (pc := 97) C E rfl (somI h) rfl dX3_joined_97
      · replace h := iteF c18 h
        refine a_iconst (pc := 92) C 1 dX3_joined_92 rfl ?_
        refine a_goto (pc := 93) C 97 dX3_joined_93 rfl ?_
        exact a_iret (pc := 97) C E rfl (somI h) rfl dX3_joined_97
  replace h := iteF c16 h
  refine a_lsw (pc := 1) (off := 168) C 169 dX3_joined_1 (by decide) (by simp [Op.lookupswitch.offset, neI2 38 rfl c1, neI2 42 rfl c4, neI2 43 rfl c5, neI2 45 rfl c6, neI2 47 rfl c7, neI2 60 rfl c10, neI2 61 rfl c12, neI2 62 rfl c14, neI2 124 rfl c16]) rfl ?_
  refine a_iload_n (pc := 169) C dX3_joined_169 rfl 2 rfl ?_
  refine a_if_ne (pc := 170) C 177 dX3_joined_170 rfl (fun c19 => ?_) (fun c19 => ?_)
  · replace h := iteT c19 h
    refine a_iload_n (pc := 177) C dX3_joined_177 rfl 1 rfl ?_
    refine a_iload_n (pc := 178) C dX3_joined_178 rfl 2 rfl ?_
    obtain ⟨v20, ev20, h⟩ := bndS h
    obtain ⟨nv20, rfl⟩ := rmIo_s ev20
    refine a_irem (pc := 179) C dX3_joined_179 nv20 ?_
    exact a_iret (pc := 180) C E rfl (somI h) rfl dX3_joined_180
  · replace h := iteF c19 h
    refine a_iconst (pc := 173) C 0 dX3_joined_173 rfl ?_
    refine a_goto (pc := 174) C 180 dX3_joined_174 rfl ?_
    exact a_iret (pc := 180) C E rfl (somI h) rfl dX3_joined_180
set_option maxHeartbeats 200000 in
set_option maxRecDepth 100000 in
theorem ok_fLaw_turned (l : Launch) (N : Rig) (M : Mem) (x0 : Int32) (x1 : Int32) : Ct l N yX3_turned cX3_turned 2 (some .int) 0 [.int x0, .int x1] M (QcI N (some .int) (fLaw_turned x0 x1) M) := by
  obtain ⟨r, h⟩ : ∃ r, fLaw_turned x0 x1 = r := ⟨_, rfl⟩
  rw [h]
  refine ct_of (by decide) rfl ?_
  intro X el eN eL C E
  subst el
  subst eN
  unfold fLaw_turned at h
  show WA X M [(0, .int x0), (1, .int x1)] 0 []
  refine a_iload_n (pc := 0) C dX3_turned_0 rfl 0 rfl ?_
  refine a_iconst (pc := 1) C (-1) dX3_turned_1 rfl ?_
  refine a_icmp_ne (pc := 2) C 8 dX3_turned_2 rfl (fun c1 => ?_) (fun c1 => ?_)
  · replace h := iteT c1 h
    refine a_iload_n (pc := 8) C dX3_turned_8 rfl 1 rfl ?_
    refine a_if_ne (pc := 9) C 16 dX3_turned_9 rfl (fun c2 => ?_) (fun c2 => ?_)
    · replace h := iteT c2 h
      refine a_iconst (pc := 16) C 0 dX3_turned_16 rfl ?_
      exact a_iret (pc := 17) C E rfl h rfl dX3_turned_17
    · replace h := iteF c2 h
      refine a_iconst (pc := 12) C 1 dX3_turned_12 rfl ?_
      refine a_goto (pc := 13) C 17 dX3_turned_13 rfl ?_
      exact a_iret (pc := 17) C E rfl h rfl dX3_turned_17
  · replace h := iteF c1 h
    refine a_iload_n (pc := 5) C dX3_turned_5 rfl 1 rfl ?_
    refine a_ineg (pc := 6) C dX3_turned_6 ?_
    exact a_iret (pc := 7) C E rfl h rfl dX3_turned_7
set_option maxHeartbeats 200000 in
set_option maxRecDepth 100000 in
theorem ok_fLaw_named (l : Launch) (N : Rig) (M : Mem) (x1 : Int32) : Ct l N yX3_named cX3_named 2 (some .int) 0 [.ref (N.2.1 7), .int x1] M (QcI N (some .int) (fLaw_named M x1) M) := by
  obtain ⟨r, h⟩ : ∃ r, fLaw_named M x1 = r := ⟨_, rfl⟩
  rw [h]
  refine ct_of (by decide) rfl ?_
  intro X el eN eL C E
  subst el
  subst eN
  unfold fLaw_named at h
  show WA X M [(0, .ref (X.N.2.1 7)), (1, .int x1)] 0 []
  refine a_iload_n (pc := 0) C dX3_named_0 rfl 1 rfl ?_
  by_cases c1 : x1 = 104
  · replace h := iteT c1 h
    refine a_tsw_in (pc := 1) C 104 74 dX3_named_1 c1 (by decide) (by decide) rfl rfl ?_
    refine a_aload_n (pc := 74) C dX3_named_74 rfl 0 rfl ?_
    refine gf_3_10 (pc := 75) C wd_217 dX3_named_75 ?_
    exact a_iret (pc := 78) C E rfl h rfl dX3_named_78
  replace h := iteF c1 h
  by_cases c2 : x1 = 108
  · replace h := iteT c2 h
    refine a_tsw_in (pc := 1) C 108 64 dX3_named_1 c2 (by decide) (by decide) rfl rfl ?_
    refine a_aload_n (pc := 64) C dX3_named_64 rfl 0 rfl ?_
    refine gf_3_8 (pc := 65) C wd_215 dX3_named_65 ?_
    exact a_iret (pc := 68) C E rfl h rfl dX3_named_68
  replace h := iteF c2 h
  by_cases c3 : x1 = 111
  · replace h := iteT c3 h
    refine a_tsw_in (pc := 1) C 111 84 dX3_named_1 c3 (by decide) (by decide) rfl rfl ?_
    refine a_aload_n (pc := 84) C dX3_named_84 rfl 0 rfl ?_
    refine gf_3_12 (pc := 85) C wd_219 dX3_named_85 ?_
    exact a_iret (pc := 88) C E rfl h rfl dX3_named_88
  replace h := iteF c3 h
  by_cases c4 : x1 = 112
  · replace h := iteT c4 h
    refine a_tsw_in (pc := 1) C 112 79 dX3_named_1 c4 (by decide) (by decide) rfl rfl ?_
    refine a_aload_n (pc := 79) C dX3_named_79 rfl 0 rfl ?_
    refine gf_3_11 (pc := 80) C wd_218 dX3_named_80 ?_
    exact a_iret (pc := 83) C E rfl h rfl dX3_named_83
  replace h := iteF c4 h
  by_cases c5 : x1 = 115
  · replace h := iteT c5 h
    refine a_tsw_in (pc := 1) C 115 69 dX3_named_1 c5 (by decide) (by decide) rfl rfl ?_
    refine a_aload_n (pc := 69) C dX3_named_69 rfl 0 rfl ?_
    refine gf_3_9 (pc := 70) C wd_216 dX3_named_70 ?_
    exact a_iret (pc := 73) C E rfl h rfl dX3_named_73
  replace h := iteF c5 h
  have kd : WA X M [(0, .ref (X.N.2.1 7)), (1, .int x1)] 89 [] := by
    refine a_aload_n (pc := 89) C dX3_named_89 rfl 0 rfl ?_
    refine gf_3_13 (pc := 90) C wd_220 dX3_named_90 ?_
    exact a_iret (pc := 93) C E rfl h rfl dX3_named_93
  by_cases c6 : x1 = 105
  · exact a_tsw_in (pc := 1) C 105 89 dX3_named_1 c6 (by decide) (by decide) rfl rfl kd
  by_cases c7 : x1 = 106
  · exact a_tsw_in (pc := 1) C 106 89 dX3_named_1 c7 (by decide) (by decide) rfl rfl kd
  by_cases c8 : x1 = 107
  · exact a_tsw_in (pc := 1) C 107 89 dX3_named_1 c8 (by decide) (by decide) rfl rfl kd
  by_cases c9 : x1 = 109
  · exact a_tsw_in (pc := 1) C 109 89 dX3_named_1 c9 (by decide) (by decide) rfl rfl kd
  by_cases c10 : x1 = 110
  · exact a_tsw_in (pc := 1) C 110 89 dX3_named_1 c10 (by decide) (by decide) rfl rfl kd
  by_cases c11 : x1 = 113
  · exact a_tsw_in (pc := 1) C 113 89 dX3_named_1 c11 (by decide) (by decide) rfl rfl kd
  by_cases c12 : x1 = 114
  · exact a_tsw_in (pc := 1) C 114 89 dX3_named_1 c12 (by decide) (by decide) rfl rfl kd
  exact a_tsw_out (pc := 1) C 89 dX3_named_1 (by have := neI 104 rfl c1; have := neI 108 rfl c2; have := neI 111 rfl c3; have := neI 112 rfl c4; have := neI 115 rfl c5; have := neI 105 rfl c6; have := neI 106 rfl c7; have := neI 107 rfl c8; have := neI 109 rfl c9; have := neI 110 rfl c10; have := neI 113 rfl c11; have := neI 114 rfl c12; omega) rfl kd
set_option maxHeartbeats 200000 in
set_option maxRecDepth 100000 in
theorem ok_fLaw_gives_J235_42 {X : Amb} (eL : X.nL = 12) (C : Cx X RX3 cX3_gives 1) (r : Int32) (M0 : Mem) (E : En X (some .int) (QcI X.N (some .int) r M0)) (ihf : Mem → Int32 → Int32 → Int32 → Option (Int32 × Mem)) (ih : ∀ (M : Mem) (x7 : Int32) (x8 : Int32) (x9 : Int32), ihf M x7 x8 x9 = some (r, M0) → WA X M [(0, .ref (X.N.2.1 7)), (7, .int x7), (8, .int x8), (9, .int x9)] 42 []) (M : Mem) (x7 : Int32) (x8 : Int32) (x9 : Int32) (x10 : Int32) (h : fLaw_gives_J235_42 ihf M x7 x8 x9 x10 = some (r, M0)) : WA X M [(0, .ref (X.N.2.1 7)), (7, .int x7), (8, .int x8), (9, .int x9), (10, .int x10)] 235 [] := by
  unfold fLaw_gives_J235_42 at h
  refine a_iload (pc := 235) C dX3_gives_235 1 rfl ?_
  refine a_if_le (pc := 237) C 303 dX3_gives_237 rfl (fun c9 => ?_) (fun c9 => ?_)
  · replace h := iteT c9 h
    refine a_iinc (pc := 303) C 3 (x9 + 1) [(9, .int (x9 + 1)), (0, .ref (X.N.2.1 7)), (7, .int x7), (8, .int x8), (10, .int x10)] dX3_gives_303 rfl rfl (nlt eL rfl) rfl ?_
    refine a_goto (pc := 306) C 42 dX3_gives_306 rfl ?_
    refine a_sub [1, 2, 3, 0] rfl ?_
    exact ih M x7 x8 (x9 + 1) h
  · replace h := iteF c9 h
    refine a_aload_n (pc := 240) C dX3_gives_240 rfl 0 rfl ?_
    refine gf_3_7 (pc := 241) C wd_214 dX3_gives_241 ?_
    refine a_iload (pc := 244) C dX3_gives_244 1 rfl ?_
    refine a_iconst (pc := 246) C 1 dX3_gives_246 rfl ?_
    refine a_isub (pc := 247) C dX3_gives_247 ?_
    refine a_iload (pc := 248) C dX3_gives_248 4 rfl ?_
    refine a_aload_n (pc := 250) C dX3_gives_250 rfl 0 rfl ?_
    refine gf_3_7 (pc := 251) C wd_214 dX3_gives_251 ?_
    refine a_iload (pc := 254) C dX3_gives_254 1 rfl ?_
    refine a_iconst (pc := 256) C 1 dX3_gives_256 rfl ?_
    refine a_isub (pc := 257) C dX3_gives_257 ?_
    obtain ⟨v10, ev10, h⟩ := bndS h
    refine a_iald (pc := 258) C rfl ev10 dX3_gives_258 ?_
    refine a_callSI (pc := 259) C [.int x10, .int v10] (ok_fLaw_turned X.l X.N M x10 v10) rfl mw_X3_turned wd_644 rfl rfl rfl dX3_gives_259 (fun z11 => ?_)
    obtain ⟨M12, eM12, h⟩ := bndS h
    refine a_iast (pc := 262) C rfl eM12 dX3_gives_262 ?_
    refine a_goto (pc := 263) C 303 dX3_gives_263 rfl ?_
    refine a_iinc (pc := 303) C 3 (x9 + 1) [(9, .int (x9 + 1)), (0, .ref (X.N.2.1 7)), (7, .int x7), (8, .int x8), (10, .int x10)] dX3_gives_303 rfl rfl (nlt eL rfl) rfl ?_
    refine a_goto (pc := 306) C 42 dX3_gives_306 rfl ?_
    refine a_sub [1, 2, 3, 0] rfl ?_
    exact ih M12 x7 x8 (x9 + 1) h
set_option maxHeartbeats 200000 in
set_option maxRecDepth 100000 in
theorem ok_fLaw_gives_J136_42 {X : Amb} (eL : X.nL = 12) (C : Cx X RX3 cX3_gives 1) (r : Int32) (M0 : Mem) (E : En X (some .int) (QcI X.N (some .int) r M0)) (ihf : Mem → Int32 → Int32 → Int32 → Option (Int32 × Mem)) (ih : ∀ (M : Mem) (x7 : Int32) (x8 : Int32) (x9 : Int32), ihf M x7 x8 x9 = some (r, M0) → WA X M [(0, .ref (X.N.2.1 7)), (7, .int x7), (8, .int x8), (9, .int x9)] 42 []) (M : Mem) (x9 : Int32) (s0 : Int32) (h : fLaw_gives_J136_42 ihf M x9 s0 = some (r, M0)) : WA X M [(0, .ref (X.N.2.1 7)), (9, .int x9)] 136 [.int s0] := by
  unfold fLaw_gives_J136_42 at h
  refine a_istore (pc := 136) C [(11, .int s0), (0, .ref (X.N.2.1 7)), (9, .int x9)] dX3_gives_136 (nlt eL rfl) rfl ?_
  refine a_iload (pc := 138) C dX3_gives_138 0 rfl ?_
  refine a_if_eq (pc := 140) C 155 dX3_gives_140 rfl (fun c26 => ?_) (fun c26 => ?_)
  · replace h := iteT c26 h
    refine a_iload (pc := 155) C dX3_gives_155 2 rfl ?_
    refine a_iconst (pc := 157) C 2 dX3_gives_157 rfl ?_
    refine a_iadd (pc := 158) C dX3_gives_158 ?_
    refine a_istore (pc := 159) C [(8, .int (x9 + 2)), (11, .int s0), (0, .ref (X.N.2.1 7)), (9, .int x9)] dX3_gives_159 (nlt eL rfl) rfl ?_
    refine a_iconst (pc := 161) C 0 dX3_gives_161 rfl ?_
    refine a_istore (pc := 162) C [(7, .int 0), (8, .int (x9 + 2)), (11, .int s0), (0, .ref (X.N.2.1 7)), (9, .int x9)] dX3_gives_162 (nlt eL rfl) rfl ?_
    refine a_goto (pc := 164) C 303 dX3_gives_164 rfl ?_
    refine a_iinc (pc := 303) C 4 (x9 + 1) [(9, .int (x9 + 1)), (7, .int 0), (8, .int (x9 + 2)), (11, .int s0), (0, .ref (X.N.2.1 7))] dX3_gives_303 rfl rfl (nlt eL rfl) rfl ?_
    refine a_goto (pc := 306) C 42 dX3_gives_306 rfl ?_
    refine a_sub [4, 1, 2, 0] rfl ?_
    exact ih M 0 (x9 + 2) (x9 + 1) h
  · replace h := iteF c26 h
    refine a_aload_n (pc := 143) C dX3_gives_143 rfl 1 rfl ?_
    refine gf_3_5 (pc := 144) C wd_212 dX3_gives_144 ?_
    refine a_iload (pc := 147) C dX3_gives_147 2 rfl ?_
    refine a_iconst (pc := 149) C 1 dX3_gives_149 rfl ?_
    refine a_iadd (pc := 150) C dX3_gives_150 ?_
    obtain ⟨v27, ev27, h⟩ := bndS h
    refine a_dald (pc := 151) C ev27 dX3_gives_151 ?_
    refine a_goto (pc := 152) C 159 dX3_gives_152 rfl ?_
    refine a_istore (pc := 159) C [(8, .int v27), (11, .int s0), (0, .ref (X.N.2.1 7)), (9, .int x9)] dX3_gives_159 (nlt eL rfl) rfl ?_
    refine a_iconst (pc := 161) C 0 dX3_gives_161 rfl ?_
    refine a_istore (pc := 162) C [(7, .int 0), (8, .int v27), (11, .int s0), (0, .ref (X.N.2.1 7)), (9, .int x9)] dX3_gives_162 (nlt eL rfl) rfl ?_
    refine a_goto (pc := 164) C 303 dX3_gives_164 rfl ?_
    refine a_iinc (pc := 303) C 4 (x9 + 1) [(9, .int (x9 + 1)), (7, .int 0), (8, .int v27), (11, .int s0), (0, .ref (X.N.2.1 7))] dX3_gives_303 rfl rfl (nlt eL rfl) rfl ?_
    refine a_goto (pc := 306) C 42 dX3_gives_306 rfl ?_
    refine a_sub [4, 1, 2, 0] rfl ?_
    exact ih M 0 v27 (x9 + 1) h
set_option maxHeartbeats 200000 in
set_option maxRecDepth 100000 in
theorem ok_fLaw_gives_J135_42 {X : Amb} (eL : X.nL = 12) (C : Cx X RX3 cX3_gives 1) (r : Int32) (M0 : Mem) (E : En X (some .int) (QcI X.N (some .int) r M0)) (ihf : Mem → Int32 → Int32 → Int32 → Option (Int32 × Mem)) (ih : ∀ (M : Mem) (x7 : Int32) (x8 : Int32) (x9 : Int32), ihf M x7 x8 x9 = some (r, M0) → WA X M [(0, .ref (X.N.2.1 7)), (7, .int x7), (8, .int x8), (9, .int x9)] 42 []) (M : Mem) (x9 : Int32) (h : fLaw_gives_J135_42 ihf M x9 = some (r, M0)) : WA X M [(0, .ref (X.N.2.1 7)), (9, .int x9)] 135 [] := by
  unfold fLaw_gives_J135_42 at h
  refine a_iconst (pc := 135) C 0 dX3_gives_135 rfl ?_
  refine a_sub (lv2 := [(0, .ref (X.N.2.1 7)), (9, .int x9)]) [0, 1] rfl ?_
  exact ok_fLaw_gives_J136_42 eL C r M0 E _ ih M x9 0 h
set_option maxHeartbeats 200000 in
set_option maxRecDepth 100000 in
theorem ok_fLaw_gives_L42 {X : Amb} (eL : X.nL = 12) (C : Cx X RX3 cX3_gives 1) (r : Int32) (M0 : Mem) (E : En X (some .int) (QcI X.N (some .int) r M0)) : ∀ (n : Nat) (M : Mem) (x7 : Int32) (x8 : Int32) (x9 : Int32), fLaw_gives_L42 n M x7 x8 x9 = some (r, M0) → WA X M [(0, .ref (X.N.2.1 7)), (7, .int x7), (8, .int x8), (9, .int x9)] 42 [] := by
  intro n
  induction n with
  | zero => intro _ _ _ _ h; cases h
  | succ n ih =>
    intro M x7 x8 x9 h
    replace h : fLaw_gives_L42_F (fLaw_gives_L42 n) M x7 x8 x9 = some (r, M0) := h
    unfold fLaw_gives_L42_F at h
    refine a_iload (pc := 42) C dX3_gives_42 3 rfl ?_
    refine a_aload_n (pc := 44) C dX3_gives_44 rfl 0 rfl ?_
    refine gf_3_6 (pc := 45) C wd_213 dX3_gives_45 ?_
    refine a_icmp_ge (pc := 48) C 309 dX3_gives_48 rfl (fun c1 => ?_) (fun c1 => ?_)
    · replace h := iteT c1 h
      refine a_iconst (pc := 309) C 0 dX3_gives_309 rfl ?_
      exact a_iret (pc := 310) C E rfl (som1 h) (som2 h) dX3_gives_310
    · replace h := iteF c1 h
      refine a_iload (pc := 51) C dX3_gives_51 3 rfl ?_
      refine a_iload (pc := 53) C dX3_gives_53 2 rfl ?_
      refine a_icmp_ge (pc := 55) C 61 dX3_gives_55 rfl (fun c2 => ?_) (fun c2 => ?_)
      · replace h := iteT c2 h
        refine a_aload_n (pc := 61) C dX3_gives_61 rfl 0 rfl ?_
        refine gf_3_5 (pc := 62) C wd_212 dX3_gives_62 ?_
        refine a_iload (pc := 65) C dX3_gives_65 3 rfl ?_
        obtain ⟨v3, ev3, h⟩ := bndS h
        refine a_dald (pc := 67) C ev3 dX3_gives_67 ?_
        refine a_istore (pc := 68) C [(10, .int v3), (0, .ref (X.N.2.1 7)), (7, .int x7), (8, .int x8), (9, .int x9)] dX3_gives_68 (nlt eL rfl) rfl ?_
        refine a_iload (pc := 70) C dX3_gives_70 0 rfl ?_
        refine a_bipush (pc := 72) C (-3) dX3_gives_72 rfl ?_
        refine a_icmp_ne (pc := 74) C 96 dX3_gives_74 rfl (fun c4 => ?_) (fun c4 => ?_)
        · replace h := iteT c4 h
          refine a_iload (pc := 96) C dX3_gives_96 0 rfl ?_
          refine a_bipush (pc := 98) C (-2) dX3_gives_98 rfl ?_
          refine a_icmp_ne (pc := 100) C 167 dX3_gives_100 rfl (fun c5 => ?_) (fun c5 => ?_)
          · replace h := iteT c5 h
            refine a_iload (pc := 167) C dX3_gives_167 0 rfl ?_
            refine a_ineg (pc := 169) C dX3_gives_169 ?_
            refine a_callSI (pc := 170) C [.int (-v3)] (ok_fLaw_levelOf X.l X.N M (-v3)) rfl mw_X3_levelOf wd_607 rfl rfl rfl dX3_gives_170 (fun z6 => ?_)
            refine a_iconst (pc := 173) C (-1) dX3_gives_173 rfl ?_
            refine a_icmp_eq (pc := 174) C 222 dX3_gives_174 rfl (fun c7 => ?_) (fun c7 => ?_)
            · replace h := iteT c7 h
              refine a_iload (pc := 222) C dX3_gives_222 0 rfl ?_
              refine a_iconst (pc := 224) C (-1) dX3_gives_224 rfl ?_
              refine a_icmp_eq (pc := 225) C 235 dX3_gives_225 rfl (fun c8 => ?_) (fun c8 => ?_)
              · replace h := iteT c8 h
                refine a_sub (lv2 := [(0, .ref (X.N.2.1 7)), (7, .int x7), (8, .int x8), (9, .int x9), (10, .int v3)]) [1, 2, 3, 4, 0] rfl ?_
                exact ok_fLaw_gives_J235_42 eL C r M0 E _ ih M x7 x8 x9 v3 h
              · replace h := iteF c8 h
                refine a_iload (pc := 228) C dX3_gives_228 0 rfl ?_
                refine a_bipush (pc := 230) C (-33) dX3_gives_230 rfl ?_
                refine a_icmp_ne (pc := 232) C 266 dX3_gives_232 rfl (fun c13 => ?_) (fun c13 => ?_)
                · replace h := iteT c13 h
                  refine a_iload (pc := 266) C dX3_gives_266 2 rfl ?_
                  refine a_aload_n (pc := 268) C dX3_gives_268 rfl 1 rfl ?_
                  refine gf_3_7 (pc := 269) C wd_214 dX3_gives_269 ?_
                  refine a_alen (pc := 272) C (v := 120) rfl (by decide) rfl dX3_gives_272 ?_
                  refine a_icmp_ge (pc := 273) C 303 dX3_gives_273 rfl (fun c14 => ?_) (fun c14 => ?_)
                  · replace h := iteT c14 h
                    refine a_iinc (pc := 303) C 4 (x9 + 1) [(9, .int (x9 + 1)), (10, .int v3), (0, .ref (X.N.2.1 7)), (7, .int x7), (8, .int x8)] dX3_gives_303 rfl rfl (nlt eL rfl) rfl ?_
                    refine a_goto (pc := 306) C 42 dX3_gives_306 rfl ?_
                    refine a_sub [2, 3, 4, 0] rfl ?_
                    exact ih M x7 x8 (x9 + 1) h
                  · replace h := iteF c14 h
                    refine a_aload_n (pc := 276) C dX3_gives_276 rfl 1 rfl ?_
                    refine gf_3_7 (pc := 277) C wd_214 dX3_gives_277 ?_
                    refine a_iload (pc := 280) C dX3_gives_280 2 rfl ?_
                    refine a_iload (pc := 282) C dX3_gives_282 0 rfl ?_
                    refine a_if_lt (pc := 284) C 292 dX3_gives_284 rfl (fun c15 => ?_) (fun c15 => ?_)
                    · replace h := iteT c15 h
                      refine a_aload_n (pc := 292) C dX3_gives_292 rfl 1 rfl ?_
                      refine a_iload (pc := 293) C dX3_gives_293 0 rfl ?_
                      refine a_ineg (pc := 295) C dX3_gives_295 ?_
                      refine a_callVI (pc := 296) C [.int (-v3)] (ok_fLaw_named X.l X.N M (-v3)) rfl mw_X3_named wd_647 rfl rfl rfl rfl rfl rfl rfl dX3_gives_296 (fun z16 => ?_)
                      obtain ⟨M17, eM17, h⟩ := bndS h
                      refine a_iast (pc := 299) C rfl eM17 dX3_gives_299 ?_
                      refine a_iinc (pc := 300) C 2 (x7 + 1) [(7, .int (x7 + 1)), (10, .int v3), (0, .ref (X.N.2.1 7)), (8, .int x8), (9, .int x9)] dX3_gives_300 rfl rfl (nlt eL rfl) rfl ?_
                      refine a_iinc (pc := 303) C 4 (x9 + 1) [(9, .int (x9 + 1)), (7, .int (x7 + 1)), (10, .int v3), (0, .ref (X.N.2.1 7)), (8, .int x8)] dX3_gives_303 rfl rfl (nlt eL rfl) rfl ?_
                      refine a_goto (pc := 306) C 42 dX3_gives_306 rfl ?_
                      refine a_sub [3, 1, 4, 0] rfl ?_
                      exact ih M17 (x7 + 1) x8 (x9 + 1) h
                    · replace h := iteF c15 h
                      refine a_iload (pc := 287) C dX3_gives_287 0 rfl ?_
                      refine a_goto (pc := 289) C 299 dX3_gives_289 rfl ?_
                      obtain ⟨M18, eM18, h⟩ := bndS h
                      refine a_iast (pc := 299) C rfl eM18 dX3_gives_299 ?_
                      refine a_iinc (pc := 300) C 2 (x7 + 1) [(7, .int (x7 + 1)), (10, .int v3), (0, .ref (X.N.2.1 7)), (8, .int x8), (9, .int x9)] dX3_gives_300 rfl rfl (nlt eL rfl) rfl ?_
                      refine a_iinc (pc := 303) C 4 (x9 + 1) [(9, .int (x9 + 1)), (7, .int (x7 + 1)), (10, .int v3), (0, .ref (X.N.2.1 7)), (8, .int x8)] dX3_gives_303 rfl rfl (nlt eL rfl) rfl ?_
                      refine a_goto (pc := 306) C 42 dX3_gives_306 rfl ?_
                      refine a_sub [3, 1, 4, 0] rfl ?_
                      exact ih M18 (x7 + 1) x8 (x9 + 1) h
                · replace h := iteF c13 h
                  refine a_sub (lv2 := [(0, .ref (X.N.2.1 7)), (7, .int x7), (8, .int x8), (9, .int x9), (10, .int v3)]) [1, 2, 3, 4, 0] rfl ?_
                  exact ok_fLaw_gives_J235_42 eL C r M0 E _ ih M x7 x8 x9 v3 h
            · replace h := iteF c7 h
              refine a_iload (pc := 177) C dX3_gives_177 2 rfl ?_
              refine a_iconst (pc := 179) C 1 dX3_gives_179 rfl ?_
              refine a_icmp_le (pc := 180) C 303 dX3_gives_180 rfl (fun c19 => ?_) (fun c19 => ?_)
              · replace h := iteT c19 h
                refine a_iinc (pc := 303) C 4 (x9 + 1) [(9, .int (x9 + 1)), (10, .int v3), (0, .ref (X.N.2.1 7)), (7, .int x7), (8, .int x8)] dX3_gives_303 rfl rfl (nlt eL rfl) rfl ?_
                refine a_goto (pc := 306) C 42 dX3_gives_306 rfl ?_
                refine a_sub [2, 3, 4, 0] rfl ?_
                exact ih M x7 x8 (x9 + 1) h
              · replace h := iteF c19 h
                refine a_aload_n (pc := 183) C dX3_gives_183 rfl 1 rfl ?_
                refine gf_3_7 (pc := 184) C wd_214 dX3_gives_184 ?_
                refine a_iload (pc := 187) C dX3_gives_187 2 rfl ?_
                refine a_iconst (pc := 189) C 2 dX3_gives_189 rfl ?_
                refine a_isub (pc := 190) C dX3_gives_190 ?_
                refine a_iload (pc := 191) C dX3_gives_191 0 rfl ?_
                refine a_ineg (pc := 193) C dX3_gives_193 ?_
                refine a_aload_n (pc := 194) C dX3_gives_194 rfl 1 rfl ?_
                refine gf_3_7 (pc := 195) C wd_214 dX3_gives_195 ?_
                refine a_iload (pc := 198) C dX3_gives_198 2 rfl ?_
                refine a_iconst (pc := 200) C 2 dX3_gives_200 rfl ?_
                refine a_isub (pc := 201) C dX3_gives_201 ?_
                obtain ⟨v20, ev20, h⟩ := bndS h
                refine a_iald (pc := 202) C rfl ev20 dX3_gives_202 ?_
                refine a_aload_n (pc := 203) C dX3_gives_203 rfl 1 rfl ?_
                refine gf_3_7 (pc := 204) C wd_214 dX3_gives_204 ?_
                refine a_iload (pc := 207) C dX3_gives_207 2 rfl ?_
                refine a_iconst (pc := 209) C 1 dX3_gives_209 rfl ?_
                refine a_isub (pc := 210) C dX3_gives_210 ?_
                obtain ⟨v21, ev21, h⟩ := bndS h
                refine a_iald (pc := 211) C rfl ev21 dX3_gives_211 ?_
                obtain ⟨v22, ev22, h⟩ := bndS h
                refine a_callSI (pc := 212) C [.int (-v3), .int v20, .int v21] (ok_fLaw_joined X.l X.N M (-v3) v20 v21 ev22) rfl mw_X3_joined wd_641 rfl rfl rfl dX3_gives_212 (fun z23 => ?_)
                obtain ⟨M24, eM24, h⟩ := bndS h
                refine a_iast (pc := 215) C rfl eM24 dX3_gives_215 ?_
                refine a_iinc (pc := 216) C 2 (x7 + (-1)) [(7, .int (x7 + (-1))), (10, .int v3), (0, .ref (X.N.2.1 7)), (8, .int x8), (9, .int x9)] dX3_gives_216 rfl rfl (nlt eL rfl) rfl ?_
                refine a_goto (pc := 219) C 303 dX3_gives_219 rfl ?_
                refine a_iinc (pc := 303) C 4 (x9 + 1) [(9, .int (x9 + 1)), (7, .int (x7 + (-1))), (10, .int v3), (0, .ref (X.N.2.1 7)), (8, .int x8)] dX3_gives_303 rfl rfl (nlt eL rfl) rfl ?_
                refine a_goto (pc := 306) C 42 dX3_gives_306 rfl ?_
                refine a_sub [3, 1, 4, 0] rfl ?_
                exact ih M24 (x7 + (-1)) x8 (x9 + 1) h
          · replace h := iteF c5 h
            refine a_iload (pc := 103) C dX3_gives_103 2 rfl ?_
            refine a_if_le (pc := 105) C 135 dX3_gives_105 rfl (fun c25 => ?_) (fun c25 => ?_)
            · replace h := iteT c25 h
              refine a_sub (lv2 := [(0, .ref (X.N.2.1 7)), (9, .int x9)]) [1, 4] rfl ?_
              exact ok_fLaw_gives_J135_42 eL C r M0 E _ ih M x9 h
            · replace h := iteF c25 h
              refine a_aload_n (pc := 108) C dX3_gives_108 rfl 1 rfl ?_
              refine gf_3_7 (pc := 109) C wd_214 dX3_gives_109 ?_
              refine a_iload (pc := 112) C dX3_gives_112 2 rfl ?_
              refine a_iconst (pc := 114) C 1 dX3_gives_114 rfl ?_
              refine a_isub (pc := 115) C dX3_gives_115 ?_
              obtain ⟨v28, ev28, h⟩ := bndS h
              refine a_iald (pc := 116) C rfl ev28 dX3_gives_116 ?_
              refine a_if_ne (pc := 117) C 135 dX3_gives_117 rfl (fun c29 => ?_) (fun c29 => ?_)
              · replace h := iteT c29 h
                refine a_sub (lv2 := [(0, .ref (X.N.2.1 7)), (9, .int x9)]) [1, 4] rfl ?_
                exact ok_fLaw_gives_J135_42 eL C r M0 E _ ih M x9 h
              · replace h := iteF c29 h
                refine a_iload (pc := 120) C dX3_gives_120 4 rfl ?_
                refine a_iconst (pc := 122) C 1 dX3_gives_122 rfl ?_
                refine a_iadd (pc := 123) C dX3_gives_123 ?_
                refine a_aload_n (pc := 124) C dX3_gives_124 rfl 1 rfl ?_
                refine gf_3_6 (pc := 125) C wd_213 dX3_gives_125 ?_
                refine a_icmp_ge (pc := 128) C 135 dX3_gives_128 rfl (fun c30 => ?_) (fun c30 => ?_)
                · replace h := iteT c30 h
                  refine a_sub (lv2 := [(0, .ref (X.N.2.1 7)), (9, .int x9)]) [1, 4] rfl ?_
                  exact ok_fLaw_gives_J135_42 eL C r M0 E _ ih M x9 h
                · replace h := iteF c30 h
                  refine a_iconst (pc := 131) C 1 dX3_gives_131 rfl ?_
                  refine a_goto (pc := 132) C 136 dX3_gives_132 rfl ?_
                  refine a_sub (lv2 := [(0, .ref (X.N.2.1 7)), (9, .int x9)]) [1, 4] rfl ?_
                  exact ok_fLaw_gives_J136_42 eL C r M0 E _ ih M x9 1 h
        · replace h := iteF c4 h
          refine a_iload (pc := 77) C dX3_gives_77 2 rfl ?_
          refine a_if_le (pc := 79) C 94 dX3_gives_79 rfl (fun c31 => ?_) (fun c31 => ?_)
          · replace h := iteT c31 h
            refine a_iconst (pc := 94) C 0 dX3_gives_94 rfl ?_
            exact a_iret (pc := 95) C E rfl (som1 h) (som2 h) dX3_gives_95
          · replace h := iteF c31 h
            refine a_aload_n (pc := 82) C dX3_gives_82 rfl 1 rfl ?_
            refine gf_3_7 (pc := 83) C wd_214 dX3_gives_83 ?_
            refine a_iload (pc := 86) C dX3_gives_86 2 rfl ?_
            refine a_iconst (pc := 88) C 1 dX3_gives_88 rfl ?_
            refine a_isub (pc := 89) C dX3_gives_89 ?_
            obtain ⟨v32, ev32, h⟩ := bndS h
            refine a_iald (pc := 90) C rfl ev32 dX3_gives_90 ?_
            refine a_goto (pc := 91) C 95 dX3_gives_91 rfl ?_
            exact a_iret (pc := 95) C E rfl (som1 h) (som2 h) dX3_gives_95
      · replace h := iteF c2 h
        refine a_goto (pc := 58) C 303 dX3_gives_58 rfl ?_
        refine a_iinc (pc := 303) C 3 (x9 + 1) [(9, .int (x9 + 1)), (0, .ref (X.N.2.1 7)), (7, .int x7), (8, .int x8)] dX3_gives_303 rfl rfl (nlt eL rfl) rfl ?_
        refine a_goto (pc := 306) C 42 dX3_gives_306 rfl ?_
        refine a_sub [1, 2, 3, 0] rfl ?_
        exact ih M x7 x8 (x9 + 1) h
set_option maxHeartbeats 200000 in
set_option maxRecDepth 100000 in
theorem ok_fLaw_gives (l : Launch) (N : Rig) (M : Mem) (x1 : Int32) (x2 : Int32) (x3 : Int32) (x4 : Int32) (x5 : Int32) (x6 : Int32) {r : Int32} {M0 : Mem} (h : fLaw_gives M x1 x2 x3 x4 x5 x6 = some (r, M0)) : Ct l N yX3_gives cX3_gives 12 (some .int) 1 [.ref (N.2.1 7), .int x1, .int x2, .int x3, .int x4, .int x5, .int x6] M (QcI N (some .int) r M0) := by
  refine ct_of (by decide) rfl ?_
  intro X el eN eL C E
  subst el
  subst eN
  unfold fLaw_gives at h
  show WA X M [(0, .ref (X.N.2.1 7)), (1, .int x1), (2, .int x2), (3, .int x3), (4, .int x4), (5, .int x5), (6, .int x6)] 0 []
  refine a_aload_n (pc := 0) C dX3_gives_0 rfl 0 rfl ?_
  refine a_iload_n (pc := 1) C dX3_gives_1 rfl 1 rfl ?_
  refine pf_3_8 (pc := 2) C wd_215 dX3_gives_2 ?_
  refine a_aload_n (pc := 5) C dX3_gives_5 rfl 0 rfl ?_
  refine a_iload_n (pc := 6) C dX3_gives_6 rfl 2 rfl ?_
  refine pf_3_9 (pc := 7) C wd_216 dX3_gives_7 ?_
  refine a_aload_n (pc := 10) C dX3_gives_10 rfl 0 rfl ?_
  refine a_iload_n (pc := 11) C dX3_gives_11 rfl 3 rfl ?_
  refine pf_3_10 (pc := 12) C wd_217 dX3_gives_12 ?_
  refine a_aload_n (pc := 15) C dX3_gives_15 rfl 0 rfl ?_
  refine a_iload (pc := 16) C dX3_gives_16 4 rfl ?_
  refine pf_3_11 (pc := 18) C wd_218 dX3_gives_18 ?_
  refine a_aload_n (pc := 21) C dX3_gives_21 rfl 0 rfl ?_
  refine a_iload (pc := 22) C dX3_gives_22 5 rfl ?_
  refine pf_3_12 (pc := 24) C wd_219 dX3_gives_24 ?_
  refine a_aload_n (pc := 27) C dX3_gives_27 rfl 0 rfl ?_
  refine a_iload (pc := 28) C dX3_gives_28 6 rfl ?_
  refine pf_3_13 (pc := 30) C wd_220 dX3_gives_30 ?_
  refine a_iconst (pc := 33) C 0 dX3_gives_33 rfl ?_
  refine a_istore (pc := 34) C [(7, .int 0), (0, .ref (X.N.2.1 7)), (1, .int x1), (2, .int x2), (3, .int x3), (4, .int x4), (5, .int x5), (6, .int x6)] dX3_gives_34 (nlt eL rfl) rfl ?_
  refine a_iconst (pc := 36) C 0 dX3_gives_36 rfl ?_
  refine a_istore (pc := 37) C [(8, .int 0), (7, .int 0), (0, .ref (X.N.2.1 7)), (1, .int x1), (2, .int x2), (3, .int x3), (4, .int x4), (5, .int x5), (6, .int x6)] dX3_gives_37 (nlt eL rfl) rfl ?_
  refine a_iconst (pc := 39) C 0 dX3_gives_39 rfl ?_
  refine a_istore (pc := 40) C [(9, .int 0), (8, .int 0), (7, .int 0), (0, .ref (X.N.2.1 7)), (1, .int x1), (2, .int x2), (3, .int x3), (4, .int x4), (5, .int x5), (6, .int x6)] dX3_gives_40 (nlt eL rfl) rfl ?_
  refine a_sub (lv2 := [(0, .ref (X.N.2.1 7)), (7, .int 0), (8, .int 0), (9, .int 0)]) [3, 2, 1, 0] rfl ?_
  exact ok_fLaw_gives_L42 eL C r M0 E FU (wI (wI (wI (wI (wI (wI M 7 8 x1) 7 9 x2) 7 10 x3) 7 11 x4) 7 12 x5) 7 13 x6) 0 0 0 h
set_option maxHeartbeats 200000 in
set_option maxRecDepth 100000 in
theorem ok_fShelves_isShelf (l : Launch) (N : Rig) (M : Mem) (x0 : Int32) : Ct l N yX4_isShelf cX4_isShelf 1 (some .boolean) 0 [.int x0] M (QcI N (some .boolean) (fShelves_isShelf x0) M) := by
  obtain ⟨r, h⟩ : ∃ r, fShelves_isShelf x0 = r := ⟨_, rfl⟩
  rw [h]
  refine ct_of (by decide) rfl ?_
  intro X el eN eL C E
  subst el
  subst eN
  unfold fShelves_isShelf at h
  show WA X M [(0, .int x0)] 0 []
  refine a_iload_n (pc := 0) C dX4_isShelf_0 rfl 0 rfl ?_
  refine a_if_lt (pc := 1) C 14 dX4_isShelf_1 rfl (fun c1 => ?_) (fun c1 => ?_)
  · replace h := iteT c1 h
    refine a_iconst (pc := 14) C 0 dX4_isShelf_14 rfl ?_
    exact a_iret (pc := 15) C E rfl h rfl dX4_isShelf_15
  · replace h := iteF c1 h
    refine a_iload_n (pc := 4) C dX4_isShelf_4 rfl 0 rfl ?_
    refine a_bipush (pc := 5) C 6 dX4_isShelf_5 rfl ?_
    refine a_icmp_ge (pc := 7) C 14 dX4_isShelf_7 rfl (fun c2 => ?_) (fun c2 => ?_)
    · replace h := iteT c2 h
      refine a_iconst (pc := 14) C 0 dX4_isShelf_14 rfl ?_
      exact a_iret (pc := 15) C E rfl h rfl dX4_isShelf_15
    · replace h := iteF c2 h
      refine a_iconst (pc := 10) C 1 dX4_isShelf_10 rfl ?_
      refine a_goto (pc := 11) C 15 dX4_isShelf_11 rfl ?_
      exact a_iret (pc := 15) C E rfl h rfl dX4_isShelf_15
set_option maxHeartbeats 200000 in
set_option maxRecDepth 100000 in
theorem ok_fShelves_isSort (l : Launch) (N : Rig) (M : Mem) (x0 : Int32) : Ct l N yX4_isSort cX4_isSort 1 (some .boolean) 0 [.int x0] M (QcI N (some .boolean) (fShelves_isSort x0) M) := by
  obtain ⟨r, h⟩ : ∃ r, fShelves_isSort x0 = r := ⟨_, rfl⟩
  rw [h]
  refine ct_of (by decide) rfl ?_
  intro X el eN eL C E
  subst el
  subst eN
  unfold fShelves_isSort at h
  show WA X M [(0, .int x0)] 0 []
  refine a_iload_n (pc := 0) C dX4_isSort_0 rfl 0 rfl ?_
  refine a_if_lt (pc := 1) C 13 dX4_isSort_1 rfl (fun c1 => ?_) (fun c1 => ?_)
  · replace h := iteT c1 h
    refine a_iconst (pc := 13) C 0 dX4_isSort_13 rfl ?_
    exact a_iret (pc := 14) C E rfl h rfl dX4_isSort_14
  · replace h := iteF c1 h
    refine a_iload_n (pc := 4) C dX4_isSort_4 rfl 0 rfl ?_
    refine a_iconst (pc := 5) C 4 dX4_isSort_5 rfl ?_
    refine a_icmp_gt (pc := 6) C 13 dX4_isSort_6 rfl (fun c2 => ?_) (fun c2 => ?_)
    · replace h := iteT c2 h
      refine a_iconst (pc := 13) C 0 dX4_isSort_13 rfl ?_
      exact a_iret (pc := 14) C E rfl h rfl dX4_isSort_14
    · replace h := iteF c2 h
      refine a_iconst (pc := 9) C 1 dX4_isSort_9 rfl ?_
      refine a_goto (pc := 10) C 14 dX4_isSort_10 rfl ?_
      exact a_iret (pc := 14) C E rfl h rfl dX4_isSort_14
set_option maxHeartbeats 200000 in
set_option maxRecDepth 100000 in
theorem ok_fShelves_isEmpty (l : Launch) (N : Rig) (M : Mem) (x1 : Int32) {r : Int32} (h : fShelves_isEmpty M x1 = some r) : Ct l N yX4_isEmpty cX4_isEmpty 2 (some .boolean) 0 [.ref (N.2.1 23), .int x1] M (QcI N (some .boolean) r M) := by
  refine ct_of (by decide) rfl ?_
  intro X el eN eL C E
  subst el
  subst eN
  unfold fShelves_isEmpty at h
  show WA X M [(0, .ref (X.N.2.1 23)), (1, .int x1)] 0 []
  refine a_aload_n (pc := 0) C dX4_isEmpty_0 rfl 0 rfl ?_
  refine gf_4_0 (pc := 1) C wd_391 dX4_isEmpty_1 ?_
  refine a_iload_n (pc := 4) C dX4_isEmpty_4 rfl 1 rfl ?_
  obtain ⟨v1, ev1, h⟩ := bndS h
  refine a_iald (pc := 5) C rfl ev1 dX4_isEmpty_5 ?_
  refine a_iconst (pc := 6) C (-1) dX4_isEmpty_6 rfl ?_
  refine a_icmp_ne (pc := 7) C 14 dX4_isEmpty_7 rfl (fun c2 => ?_) (fun c2 => ?_)
  · replace h := iteT c2 h
    refine a_iconst (pc := 14) C 0 dX4_isEmpty_14 rfl ?_
    exact a_iret (pc := 15) C E rfl (somI h) rfl dX4_isEmpty_15
  · replace h := iteF c2 h
    refine a_iconst (pc := 10) C 1 dX4_isEmpty_10 rfl ?_
    refine a_goto (pc := 11) C 15 dX4_isEmpty_11 rfl ?_
    exact a_iret (pc := 15) C E rfl (somI h) rfl dX4_isEmpty_15
set_option maxHeartbeats 200000 in
set_option maxRecDepth 100000 in
theorem ok_fShelves_isRow (l : Launch) (N : Rig) (M : Mem) (x1 : Int32) {r : Int32} (h : fShelves_isRow M x1 = some r) : Ct l N yX4_isRow cX4_isRow 2 (some .boolean) 1 [.ref (N.2.1 23), .int x1] M (QcI N (some .boolean) r M) := by
  refine ct_of (by decide) rfl ?_
  intro X el eN eL C E
  subst el
  subst eN
  unfold fShelves_isRow at h
  show WA X M [(0, .ref (X.N.2.1 23)), (1, .int x1)] 0 []
  refine a_aload_n (pc := 0) C dX4_isRow_0 rfl 0 rfl ?_
  refine gf_4_0 (pc := 1) C wd_391 dX4_isRow_1 ?_
  refine a_iload_n (pc := 4) C dX4_isRow_4 rfl 1 rfl ?_
  obtain ⟨v1, ev1, h⟩ := bndS h
  refine a_iald (pc := 5) C rfl ev1 dX4_isRow_5 ?_
  refine a_callSI (pc := 6) C [.int v1] (ok_fShelves_isSort X.l X.N M v1) rfl mw_X4_isSort wd_1039 rfl rfl rfl dX4_isRow_6 (fun z2 => ?_)
  exact a_iret (pc := 9) C E (z2 _ rfl) (somI h) rfl dX4_isRow_9
set_option maxHeartbeats 200000 in
set_option maxRecDepth 100000 in
theorem ok_fShelves_isRowOf (l : Launch) (N : Rig) (M : Mem) (x1 : Int32) (x2 : Int32) {r : Int32} (h : fShelves_isRowOf M x1 x2 = some r) : Ct l N yX4_isRowOf cX4_isRowOf 3 (some .boolean) 0 [.ref (N.2.1 23), .int x1, .int x2] M (QcI N (some .boolean) r M) := by
  refine ct_of (by decide) rfl ?_
  intro X el eN eL C E
  subst el
  subst eN
  unfold fShelves_isRowOf at h
  show WA X M [(0, .ref (X.N.2.1 23)), (1, .int x1), (2, .int x2)] 0 []
  refine a_aload_n (pc := 0) C dX4_isRowOf_0 rfl 0 rfl ?_
  refine gf_4_0 (pc := 1) C wd_391 dX4_isRowOf_1 ?_
  refine a_iload_n (pc := 4) C dX4_isRowOf_4 rfl 1 rfl ?_
  obtain ⟨v1, ev1, h⟩ := bndS h
  refine a_iald (pc := 5) C rfl ev1 dX4_isRowOf_5 ?_
  refine a_iload_n (pc := 6) C dX4_isRowOf_6 rfl 2 rfl ?_
  refine a_icmp_ne (pc := 7) C 14 dX4_isRowOf_7 rfl (fun c2 => ?_) (fun c2 => ?_)
  · replace h := iteT c2 h
    refine a_iconst (pc := 14) C 0 dX4_isRowOf_14 rfl ?_
    exact a_iret (pc := 15) C E rfl (somI h) rfl dX4_isRowOf_15
  · replace h := iteF c2 h
    refine a_iconst (pc := 10) C 1 dX4_isRowOf_10 rfl ?_
    refine a_goto (pc := 11) C 15 dX4_isRowOf_11 rfl ?_
    exact a_iret (pc := 15) C E rfl (somI h) rfl dX4_isRowOf_15
set_option maxHeartbeats 200000 in
set_option maxRecDepth 100000 in
theorem ok_fShelves_clear (l : Launch) (N : Rig) (M : Mem) (x1 : Int32) {M0 : Mem} (h : fShelves_clear M x1 = some M0) : Ct l N yX4_clear cX4_clear 2 none 0 [.ref (N.2.1 23), .int x1] M (QcV N M0) := by
  refine ct_of (by decide) rfl ?_
  intro X el eN eL C E
  subst el
  subst eN
  unfold fShelves_clear at h
  show WA X M [(0, .ref (X.N.2.1 23)), (1, .int x1)] 0 []
  refine a_aload_n (pc := 0) C dX4_clear_0 rfl 0 rfl ?_
  refine gf_4_0 (pc := 1) C wd_391 dX4_clear_1 ?_
  refine a_iload_n (pc := 4) C dX4_clear_4 rfl 1 rfl ?_
  refine a_iconst (pc := 5) C (-1) dX4_clear_5 rfl ?_
  obtain ⟨M1, eM1, h⟩ := bndS h
  refine a_iast (pc := 6) C rfl eM1 dX4_clear_6 ?_
  refine a_aload_n (pc := 7) C dX4_clear_7 rfl 0 rfl ?_
  refine gf_4_1 (pc := 8) C wd_393 dX4_clear_8 ?_
  refine a_iload_n (pc := 11) C dX4_clear_11 rfl 1 rfl ?_
  refine a_iconst (pc := 12) C 0 dX4_clear_12 rfl ?_
  obtain ⟨M2, eM2, h⟩ := bndS h
  refine a_iast (pc := 13) C rfl eM2 dX4_clear_13 ?_
  exact a_vret (pc := 14) C E (somI h) dX4_clear_14
set_option maxHeartbeats 200000 in
set_option maxRecDepth 100000 in
theorem ok_fShelves_holdShoe (l : Launch) (N : Rig) (M : Mem) (x1 : Int32) (x2 : Int32) {M0 : Mem} (h : fShelves_holdShoe M x1 x2 = some M0) : Ct l N yX4_holdShoe cX4_holdShoe 3 none 0 [.ref (N.2.1 23), .int x1, .int x2] M (QcV N M0) := by
  refine ct_of (by decide) rfl ?_
  intro X el eN eL C E
  subst el
  subst eN
  unfold fShelves_holdShoe at h
  show WA X M [(0, .ref (X.N.2.1 23)), (1, .int x1), (2, .int x2)] 0 []
  refine a_aload_n (pc := 0) C dX4_holdShoe_0 rfl 0 rfl ?_
  refine gf_4_0 (pc := 1) C wd_391 dX4_holdShoe_1 ?_
  refine a_iload_n (pc := 4) C dX4_holdShoe_4 rfl 1 rfl ?_
  refine a_bipush (pc := 5) C (-2) dX4_holdShoe_5 rfl ?_
  obtain ⟨M1, eM1, h⟩ := bndS h
  refine a_iast (pc := 7) C rfl eM1 dX4_holdShoe_7 ?_
  refine a_aload_n (pc := 8) C dX4_holdShoe_8 rfl 0 rfl ?_
  refine gf_4_1 (pc := 9) C wd_393 dX4_holdShoe_9 ?_
  refine a_iload_n (pc := 12) C dX4_holdShoe_12 rfl 1 rfl ?_
  refine a_iload_n (pc := 13) C dX4_holdShoe_13 rfl 2 rfl ?_
  obtain ⟨M2, eM2, h⟩ := bndS h
  refine a_iast (pc := 14) C rfl eM2 dX4_holdShoe_14 ?_
  exact a_vret (pc := 15) C E (somI h) dX4_holdShoe_15
set_option maxHeartbeats 200000 in
set_option maxRecDepth 100000 in
theorem ok_fArrays_fill_d0a16_L6 {X : Amb} (eL : X.nL = 5) (C : Cx X "java/util/Arrays" cJ7_fill_d0a16 0) (a0 : Nat) (ha0 : isRw a0) (y1 : Int64) (x4 : Int32) (o : Mem) (K : WA X o [] 22 []) : ∀ (n : Nat) (M : Mem) (x3 : Int32), fArrays_fill_d0a16_L6 n M a0 y1 x3 x4 = some o → WA X M [(0, .ref (X.N.2.1 a0)), (1, .long y1), (3, .int x3), (4, .int x4)] 6 [] := by
  intro n
  induction n with
  | zero => intro _ _ h; cases h
  | succ n ih =>
    intro M x3 h
    replace h : fArrays_fill_d0a16_L6_F (fArrays_fill_d0a16_L6 n) M a0 y1 x3 x4 = some o := h
    unfold fArrays_fill_d0a16_L6_F at h
    refine a_iload_n (pc := 6) C dJ7_fill_d0a16_6 rfl 2 rfl ?_
    refine a_iload (pc := 7) C dJ7_fill_d0a16_7 3 rfl ?_
    refine a_icmp_ge (pc := 9) C 22 dJ7_fill_d0a16_9 rfl (fun c1 => ?_) (fun c1 => ?_)
    · replace h := iteT c1 h
      refine a_sub (lv2 := []) [] rfl ?_
      cases somI h
      exact K
    · replace h := iteF c1 h
      refine a_aload_n (pc := 12) C dJ7_fill_d0a16_12 rfl 0 rfl ?_
      refine a_iload_n (pc := 13) C dJ7_fill_d0a16_13 rfl 2 rfl ?_
      refine a_lload_n (pc := 14) C dJ7_fill_d0a16_14 rfl 1 rfl ?_
      obtain ⟨M2, eM2, h⟩ := bndS h
      refine a_last (pc := 15) C (rw_shp ha0) eM2 dJ7_fill_d0a16_15 ?_
      refine a_iinc (pc := 16) C 2 (x3 + 1) [(3, .int (x3 + 1)), (0, .ref (X.N.2.1 a0)), (1, .long y1), (4, .int x4)] dJ7_fill_d0a16_16 rfl rfl (nlt eL rfl) rfl ?_
      refine a_goto (pc := 19) C 6 dJ7_fill_d0a16_19 rfl ?_
      refine a_sub [1, 2, 0, 3] rfl ?_
      exact ih M2 (x3 + 1) h
set_option maxHeartbeats 200000 in
set_option maxRecDepth 100000 in
theorem ok_fArrays_fill_d0a16 (l : Launch) (N : Rig) (M : Mem) (a0 : Nat) (ha0 : isRw a0) (y1 : Int64) {M0 : Mem} (h : fArrays_fill_d0a16 M a0 y1 = some M0) : Ct l N yJ7_fill_d0a16 cJ7_fill_d0a16 5 none 0 [.ref (N.2.1 a0), .long y1] M (QcV N M0) := by
  refine ct_of (by decide) rfl ?_
  intro X el eN eL C E
  subst el
  subst eN
  unfold fArrays_fill_d0a16 at h
  show WA X M [(0, .ref (X.N.2.1 a0)), (1, .long y1)] 0 []
  refine a_iconst (pc := 0) C 0 dJ7_fill_d0a16_0 rfl ?_
  refine a_istore_n (pc := 1) C [(3, .int 0), (0, .ref (X.N.2.1 a0)), (1, .long y1)] dJ7_fill_d0a16_1 rfl (nlt eL rfl) rfl ?_
  refine a_aload_n (pc := 2) C dJ7_fill_d0a16_2 rfl 1 rfl ?_
  refine a_alen (pc := 3) C (v := 60) (rw_shp ha0) (by decide) rfl dJ7_fill_d0a16_3 ?_
  refine a_istore (pc := 4) C [(4, .int 60), (3, .int 0), (0, .ref (X.N.2.1 a0)), (1, .long y1)] dJ7_fill_d0a16_4 (nlt eL rfl) rfl ?_
  refine a_sub (lv2 := [(0, .ref (X.N.2.1 a0)), (1, .long y1), (3, .int 0), (4, .int 60)]) [2, 3, 1, 0] rfl ?_
  obtain ⟨o3, eo3, h⟩ := bndS h
  refine ok_fArrays_fill_d0a16_L6 eL C a0 ha0 y1 60 o3 ?_ FU M 0 eo3
  exact a_vret (pc := 22) C E (somI h) dJ7_fill_d0a16_22
set_option maxHeartbeats 200000 in
set_option maxRecDepth 100000 in
theorem ok_fShelves_holdRow (l : Launch) (N : Rig) (M : Mem) (x1 : Int32) (x2 : Int32) (x3 : Int32) {M0 : Mem} (h : fShelves_holdRow M x1 x2 x3 = some M0) : Ct l N yX4_holdRow cX4_holdRow 4 none 1 [.ref (N.2.1 23), .int x1, .int x2, .int x3] M (QcV N M0) := by
  refine ct_of (by decide) rfl ?_
  intro X el eN eL C E
  subst el
  subst eN
  unfold fShelves_holdRow at h
  show WA X M [(0, .ref (X.N.2.1 23)), (1, .int x1), (2, .int x2), (3, .int x3)] 0 []
  refine a_aload_n (pc := 0) C dX4_holdRow_0 rfl 0 rfl ?_
  refine gf_4_0 (pc := 1) C wd_391 dX4_holdRow_1 ?_
  refine a_iload_n (pc := 4) C dX4_holdRow_4 rfl 1 rfl ?_
  refine a_iload_n (pc := 5) C dX4_holdRow_5 rfl 2 rfl ?_
  obtain ⟨M1, eM1, h⟩ := bndS h
  refine a_iast (pc := 6) C rfl eM1 dX4_holdRow_6 ?_
  refine a_aload_n (pc := 7) C dX4_holdRow_7 rfl 0 rfl ?_
  refine gf_4_1 (pc := 8) C wd_393 dX4_holdRow_8 ?_
  refine a_iload_n (pc := 11) C dX4_holdRow_11 rfl 1 rfl ?_
  refine a_iload_n (pc := 12) C dX4_holdRow_12 rfl 3 rfl ?_
  obtain ⟨M2, eM2, h⟩ := bndS h
  refine a_iast (pc := 13) C rfl eM2 dX4_holdRow_13 ?_
  refine a_aload_n (pc := 14) C dX4_holdRow_14 rfl 0 rfl ?_
  refine gf_4_2 (pc := 15) C wd_395 dX4_holdRow_15 ?_
  refine a_iload_n (pc := 18) C dX4_holdRow_18 rfl 1 rfl ?_
  obtain ⟨k3, ek3, h⟩ := bndS h
  have hk3 := rw_of ek3
  refine a_aald (pc := 19) C ek3 dX4_holdRow_19 ?_
  refine a_lconst (pc := 20) C 0 dX4_holdRow_20 rfl ?_
  obtain ⟨q4, eq4, h⟩ := bndS h
  refine a_callSV (pc := 21) C [.ref (X.N.2.1 k3), .long 0] (ok_fArrays_fill_d0a16 X.l X.N M2 k3 hk3 0 eq4) rfl mw_J7_fill_d0a16 wd_1024 rfl rfl rfl dX4_holdRow_21 ?_
  exact a_vret (pc := 24) C E (somI h) dX4_holdRow_24
set_option maxHeartbeats 200000 in
set_option maxRecDepth 100000 in
theorem ok_fShelves_refusal (l : Launch) (N : Rig) (M : Mem) (x1 : Int32) (x2 : Int32) {r : Int32} (h : fShelves_refusal M x1 x2 = some r) : Ct l N yX4_refusal cX4_refusal 3 (some .int) 1 [.ref (N.2.1 23), .int x1, .int x2] M (QcI N (some .int) r M) := by
  refine ct_of (by decide) rfl ?_
  intro X el eN eL C E
  subst el
  subst eN
  unfold fShelves_refusal at h
  show WA X M [(0, .ref (X.N.2.1 23)), (1, .int x1), (2, .int x2)] 0 []
  refine a_aload_n (pc := 0) C dX4_refusal_0 rfl 0 rfl ?_
  refine a_iload_n (pc := 1) C dX4_refusal_1 rfl 1 rfl ?_
  obtain ⟨v1, ev1, h⟩ := bndS h
  refine a_callVI (pc := 2) C [.int x1] (ok_fShelves_isEmpty X.l X.N M x1 ev1) rfl mw_X4_isEmpty wd_805 rfl rfl rfl rfl rfl rfl rfl dX4_refusal_2 (fun z2 => ?_)
  refine a_if_eq (pc := 5) C 11 dX4_refusal_5 rfl (fun c3 => ?_) (fun c3 => ?_)
  · replace h := iteT c3 h
    refine a_aload_n (pc := 11) C dX4_refusal_11 rfl 0 rfl ?_
    refine a_iload_n (pc := 12) C dX4_refusal_12 rfl 1 rfl ?_
    refine a_iload_n (pc := 13) C dX4_refusal_13 rfl 2 rfl ?_
    obtain ⟨v4, ev4, h⟩ := bndS h
    refine a_callVI (pc := 14) C [.int x1, .int x2] (ok_fShelves_isRowOf X.l X.N M x1 x2 ev4) rfl mw_X4_isRowOf wd_806 rfl rfl rfl rfl rfl rfl rfl dX4_refusal_14 (fun z5 => ?_)
    refine a_if_eq (pc := 17) C 24 dX4_refusal_17 rfl (fun c6 => ?_) (fun c6 => ?_)
    · replace h := iteT c6 h
      refine a_bipush (pc := 24) C (-12) dX4_refusal_24 rfl ?_
      exact a_iret (pc := 26) C E rfl (somI h) rfl dX4_refusal_26
    · replace h := iteF c6 h
      refine a_iconst (pc := 20) C 0 dX4_refusal_20 rfl ?_
      refine a_goto (pc := 21) C 26 dX4_refusal_21 rfl ?_
      exact a_iret (pc := 26) C E rfl (somI h) rfl dX4_refusal_26
  · replace h := iteF c3 h
    refine a_bipush (pc := 8) C (-11) dX4_refusal_8 rfl ?_
    exact a_iret (pc := 10) C E rfl (somI h) rfl dX4_refusal_10
set_option maxHeartbeats 200000 in
set_option maxRecDepth 100000 in
theorem ok_fShelves_refusalAt (l : Launch) (N : Rig) (M : Mem) (x1 : Int32) (x2 : Int32) {r : Int32} (h : fShelves_refusalAt M x1 x2 = some r) : Ct l N yX4_refusalAt cX4_refusalAt 3 (some .int) 2 [.ref (N.2.1 23), .int x1, .int x2] M (QcI N (some .int) r M) := by
  refine ct_of (by decide) rfl ?_
  intro X el eN eL C E
  subst el
  subst eN
  unfold fShelves_refusalAt at h
  show WA X M [(0, .ref (X.N.2.1 23)), (1, .int x1), (2, .int x2)] 0 []
  refine a_aload_n (pc := 0) C dX4_refusalAt_0 rfl 0 rfl ?_
  refine a_iload_n (pc := 1) C dX4_refusalAt_1 rfl 1 rfl ?_
  obtain ⟨v1, ev1, h⟩ := bndS h
  refine a_callVI (pc := 2) C [.int x1] (ok_fShelves_isEmpty X.l X.N M x1 ev1) rfl mw_X4_isEmpty wd_805 rfl rfl rfl rfl rfl rfl rfl dX4_refusalAt_2 (fun z2 => ?_)
  refine a_if_eq (pc := 5) C 11 dX4_refusalAt_5 rfl (fun c3 => ?_) (fun c3 => ?_)
  · replace h := iteT c3 h
    refine a_aload_n (pc := 11) C dX4_refusalAt_11 rfl 0 rfl ?_
    refine a_iload_n (pc := 12) C dX4_refusalAt_12 rfl 1 rfl ?_
    obtain ⟨v4, ev4, h⟩ := bndS h
    refine a_callVI (pc := 13) C [.int x1] (ok_fShelves_isRow X.l X.N M x1 ev4) rfl mw_X4_isRow wd_1035 rfl rfl rfl rfl rfl rfl rfl dX4_refusalAt_13 (fun z5 => ?_)
    refine a_if_ne (pc := 16) C 22 dX4_refusalAt_16 rfl (fun c6 => ?_) (fun c6 => ?_)
    · replace h := iteT c6 h
      refine a_iload_n (pc := 22) C dX4_refusalAt_22 rfl 2 rfl ?_
      refine a_if_lt (pc := 23) C 40 dX4_refusalAt_23 rfl (fun c7 => ?_) (fun c7 => ?_)
      · replace h := iteT c7 h
        refine a_bipush (pc := 40) C (-13) dX4_refusalAt_40 rfl ?_
        exact a_iret (pc := 42) C E rfl (somI h) rfl dX4_refusalAt_42
      · replace h := iteF c7 h
        refine a_iload_n (pc := 26) C dX4_refusalAt_26 rfl 2 rfl ?_
        refine a_aload_n (pc := 27) C dX4_refusalAt_27 rfl 0 rfl ?_
        refine gf_4_1 (pc := 28) C wd_393 dX4_refusalAt_28 ?_
        refine a_iload_n (pc := 31) C dX4_refusalAt_31 rfl 1 rfl ?_
        obtain ⟨v8, ev8, h⟩ := bndS h
        refine a_iald (pc := 32) C rfl ev8 dX4_refusalAt_32 ?_
        refine a_icmp_ge (pc := 33) C 40 dX4_refusalAt_33 rfl (fun c9 => ?_) (fun c9 => ?_)
        · replace h := iteT c9 h
          refine a_bipush (pc := 40) C (-13) dX4_refusalAt_40 rfl ?_
          exact a_iret (pc := 42) C E rfl (somI h) rfl dX4_refusalAt_42
        · replace h := iteF c9 h
          refine a_iconst (pc := 36) C 0 dX4_refusalAt_36 rfl ?_
          refine a_goto (pc := 37) C 42 dX4_refusalAt_37 rfl ?_
          exact a_iret (pc := 42) C E rfl (somI h) rfl dX4_refusalAt_42
    · replace h := iteF c6 h
      refine a_bipush (pc := 19) C (-12) dX4_refusalAt_19 rfl ?_
      exact a_iret (pc := 21) C E rfl (somI h) rfl dX4_refusalAt_21
  · replace h := iteF c3 h
    refine a_bipush (pc := 8) C (-11) dX4_refusalAt_8 rfl ?_
    exact a_iret (pc := 10) C E rfl (somI h) rfl dX4_refusalAt_10
set_option maxHeartbeats 200000 in
set_option maxRecDepth 100000 in
theorem ok_fShelves_hasPart (l : Launch) (N : Rig) (M : Mem) (x1 : Int32) (x2 : Int32) (x3 : Int32) {r : Int32} (h : fShelves_hasPart M x1 x2 x3 = some r) : Ct l N yX4_hasPart cX4_hasPart 4 (some .boolean) 0 [.ref (N.2.1 23), .int x1, .int x2, .int x3] M (QcI N (some .boolean) r M) := by
  refine ct_of (by decide) rfl ?_
  intro X el eN eL C E
  subst el
  subst eN
  unfold fShelves_hasPart at h
  show WA X M [(0, .ref (X.N.2.1 23)), (1, .int x1), (2, .int x2), (3, .int x3)] 0 []
  refine a_iload_n (pc := 0) C dX4_hasPart_0 rfl 2 rfl ?_
  refine a_if_lt (pc := 1) C 34 dX4_hasPart_1 rfl (fun c1 => ?_) (fun c1 => ?_)
  · replace h := iteT c1 h
    refine a_iconst (pc := 34) C 0 dX4_hasPart_34 rfl ?_
    exact a_iret (pc := 35) C E rfl (somI h) rfl dX4_hasPart_35
  · replace h := iteF c1 h
    refine a_iload_n (pc := 4) C dX4_hasPart_4 rfl 3 rfl ?_
    refine a_if_lt (pc := 5) C 34 dX4_hasPart_5 rfl (fun c2 => ?_) (fun c2 => ?_)
    · replace h := iteT c2 h
      refine a_iconst (pc := 34) C 0 dX4_hasPart_34 rfl ?_
      exact a_iret (pc := 35) C E rfl (somI h) rfl dX4_hasPart_35
    · replace h := iteF c2 h
      refine a_iload_n (pc := 8) C dX4_hasPart_8 rfl 2 rfl ?_
      refine a_aload_n (pc := 9) C dX4_hasPart_9 rfl 0 rfl ?_
      refine gf_4_1 (pc := 10) C wd_393 dX4_hasPart_10 ?_
      refine a_iload_n (pc := 13) C dX4_hasPart_13 rfl 1 rfl ?_
      obtain ⟨v3, ev3, h⟩ := bndS h
      refine a_iald (pc := 14) C rfl ev3 dX4_hasPart_14 ?_
      refine a_icmp_gt (pc := 15) C 34 dX4_hasPart_15 rfl (fun c4 => ?_) (fun c4 => ?_)
      · replace h := iteT c4 h
        refine a_iconst (pc := 34) C 0 dX4_hasPart_34 rfl ?_
        exact a_iret (pc := 35) C E rfl (somI h) rfl dX4_hasPart_35
      · replace h := iteF c4 h
        refine a_iload_n (pc := 18) C dX4_hasPart_18 rfl 3 rfl ?_
        refine a_aload_n (pc := 19) C dX4_hasPart_19 rfl 0 rfl ?_
        refine gf_4_1 (pc := 20) C wd_393 dX4_hasPart_20 ?_
        refine a_iload_n (pc := 23) C dX4_hasPart_23 rfl 1 rfl ?_
        obtain ⟨v5, ev5, h⟩ := bndS h
        refine a_iald (pc := 24) C rfl ev5 dX4_hasPart_24 ?_
        refine a_iload_n (pc := 25) C dX4_hasPart_25 rfl 2 rfl ?_
        refine a_isub (pc := 26) C dX4_hasPart_26 ?_
        refine a_icmp_gt (pc := 27) C 34 dX4_hasPart_27 rfl (fun c6 => ?_) (fun c6 => ?_)
        · replace h := iteT c6 h
          refine a_iconst (pc := 34) C 0 dX4_hasPart_34 rfl ?_
          exact a_iret (pc := 35) C E rfl (somI h) rfl dX4_hasPart_35
        · replace h := iteF c6 h
          refine a_iconst (pc := 30) C 1 dX4_hasPart_30 rfl ?_
          refine a_goto (pc := 31) C 35 dX4_hasPart_31 rfl ?_
          exact a_iret (pc := 35) C E rfl (somI h) rfl dX4_hasPart_35
set_option maxHeartbeats 200000 in
set_option maxRecDepth 100000 in
theorem ok_fShelves_lowest (l : Launch) (N : Rig) (M : Mem) (x0 : Int32) (y1 : Int64) : Ct l N yX4_lowest cX4_lowest 3 (some .long) 0 [.int x0, .long y1] M (QcL N (fShelves_lowest x0 y1) M) := by
  obtain ⟨r, h⟩ : ∃ r, fShelves_lowest x0 y1 = r := ⟨_, rfl⟩
  rw [h]
  refine ct_of (by decide) rfl ?_
  intro X el eN eL C E
  subst el
  subst eN
  unfold fShelves_lowest at h
  show WA X M [(0, .int x0), (1, .long y1)] 0 []
  refine a_iload_n (pc := 0) C dX4_lowest_0 rfl 0 rfl ?_
  by_cases c1 : x0 = 0
  · replace h := iteT c1 h
    refine a_tsw_in (pc := 1) C 0 32 dX4_lowest_1 c1 (by decide) (by decide) rfl rfl ?_
    refine a_lload_n (pc := 32) C dX4_lowest_32 rfl 1 rfl ?_
    refine a_l2i (pc := 33) C dX4_lowest_33 ?_
    refine a_i2b (pc := 34) C dX4_lowest_34 ?_
    refine a_i2l (pc := 35) C dX4_lowest_35 ?_
    exact a_lret (pc := 36) C E h rfl dX4_lowest_36
  replace h := iteF c1 h
  by_cases c2 : x0 = 1
  · replace h := iteT c2 h
    refine a_tsw_in (pc := 1) C 1 37 dX4_lowest_1 c2 (by decide) (by decide) rfl rfl ?_
    refine a_lload_n (pc := 37) C dX4_lowest_37 rfl 1 rfl ?_
    refine a_l2i (pc := 38) C dX4_lowest_38 ?_
    refine a_i2s (pc := 39) C dX4_lowest_39 ?_
    refine a_i2l (pc := 40) C dX4_lowest_40 ?_
    exact a_lret (pc := 41) C E h rfl dX4_lowest_41
  replace h := iteF c2 h
  by_cases c3 : x0 = 2
  · replace h := iteT c3 h
    refine a_tsw_in (pc := 1) C 2 42 dX4_lowest_1 c3 (by decide) (by decide) rfl rfl ?_
    refine a_lload_n (pc := 42) C dX4_lowest_42 rfl 1 rfl ?_
    refine a_l2i (pc := 43) C dX4_lowest_43 ?_
    refine a_i2l (pc := 44) C dX4_lowest_44 ?_
    exact a_lret (pc := 45) C E h rfl dX4_lowest_45
  replace h := iteF c3 h
  by_cases c4 : x0 = 3
  · replace h := iteT c4 h
    refine a_tsw_in (pc := 1) C 3 46 dX4_lowest_1 c4 (by decide) (by decide) rfl rfl ?_
    refine a_lload_n (pc := 46) C dX4_lowest_46 rfl 1 rfl ?_
    exact a_lret (pc := 47) C E h rfl dX4_lowest_47
  replace h := iteF c4 h
  refine a_tsw_out (pc := 1) C 48 dX4_lowest_1 (by have := neI 0 rfl c1; have := neI 1 rfl c2; have := neI 2 rfl c3; have := neI 3 rfl c4; omega) rfl ?_
  refine a_lload_n (pc := 48) C dX4_lowest_48 rfl 1 rfl ?_
  refine a_lconst (pc := 49) C 0 dX4_lowest_49 rfl ?_
  refine a_lcmp (pc := 50) C dX4_lowest_50 ?_
  refine a_if_eq (pc := 51) C 58 dX4_lowest_51 rfl (fun c5 => ?_) (fun c5 => ?_)
  · replace h := iteT c5 h
    refine a_lconst (pc := 58) C 0 dX4_lowest_58 rfl ?_
    exact a_lret (pc := 59) C E h rfl dX4_lowest_59
  · replace h := iteF c5 h
    refine a_lconst (pc := 54) C 1 dX4_lowest_54 rfl ?_
    refine a_goto (pc := 55) C 59 dX4_lowest_55 rfl ?_
    exact a_lret (pc := 59) C E h rfl dX4_lowest_59
set_option maxHeartbeats 200000 in
set_option maxRecDepth 100000 in
theorem ok_fStreet_become (l : Launch) (N : Rig) (M : Mem) (b0 : Nat) (b1 : Nat) (hb0 : isSt b0) (hb1 : isSt b1) (x2 : Int32) {M0 : Mem} (h : fStreet_become M b0 b1 x2 = some M0) : Ct l N yX5_become cX5_become 3 none 1 [.ref (N.2.1 b0), .ref (N.2.1 b1), .int x2] M (QcV N M0) := by
  refine ct_of (by decide) rfl ?_
  intro X el eN eL C E
  subst el
  subst eN
  unfold fStreet_become at h
  show WA X M [(0, .ref (X.N.2.1 b0)), (1, .ref (X.N.2.1 b1)), (2, .int x2)] 0 []
  refine a_aload_n (pc := 0) C dX5_become_0 rfl 1 rfl ?_
  refine gf_5_0 (pc := 1) C hb1 wd_153 dX5_become_1 ?_
  refine a_iconst (pc := 4) C 0 dX5_become_4 rfl ?_
  refine a_aload_n (pc := 5) C dX5_become_5 rfl 0 rfl ?_
  refine gf_5_0 (pc := 6) C hb0 wd_153 dX5_become_6 ?_
  refine a_iconst (pc := 9) C 0 dX5_become_9 rfl ?_
  refine a_bipush (pc := 10) C 36 dX5_become_10 rfl ?_
  obtain ⟨M1, eM1, h⟩ := bndS h
  refine a_copyI (pc := 12) C (st_a1 hb1) (st_a1 hb0) eM1 rfl wd_673 wd_533 wd_532 wd_93 rfl dX5_become_12 ?_
  refine a_aload_n (pc := 15) C dX5_become_15 rfl 1 rfl ?_
  refine gf_5_1 (pc := 16) C hb1 wd_157 dX5_become_16 ?_
  refine a_iconst (pc := 19) C 0 dX5_become_19 rfl ?_
  refine a_aload_n (pc := 20) C dX5_become_20 rfl 0 rfl ?_
  refine gf_5_1 (pc := 21) C hb0 wd_157 dX5_become_21 ?_
  refine a_iconst (pc := 24) C 0 dX5_become_24 rfl ?_
  refine a_bipush (pc := 25) C 36 dX5_become_25 rfl ?_
  obtain ⟨M2, eM2, h⟩ := bndS h
  refine a_copyI (pc := 27) C (st_a2 hb1) (st_a2 hb0) eM2 rfl wd_673 wd_533 wd_532 wd_93 rfl dX5_become_27 ?_
  refine a_aload_n (pc := 30) C dX5_become_30 rfl 1 rfl ?_
  refine gf_5_2 (pc := 31) C hb1 wd_162 dX5_become_31 ?_
  refine a_iconst (pc := 34) C 0 dX5_become_34 rfl ?_
  refine a_aload_n (pc := 35) C dX5_become_35 rfl 0 rfl ?_
  refine gf_5_2 (pc := 36) C hb0 wd_162 dX5_become_36 ?_
  refine a_iconst (pc := 39) C 0 dX5_become_39 rfl ?_
  refine a_iload_n (pc := 40) C dX5_become_40 rfl 2 rfl ?_
  obtain ⟨M3, eM3, h⟩ := bndS h
  refine a_copyI (pc := 41) C (st_a3 hb1) (st_a3 hb0) eM3 rfl wd_673 wd_533 wd_532 wd_93 rfl dX5_become_41 ?_
  refine a_aload_n (pc := 44) C dX5_become_44 rfl 1 rfl ?_
  refine gf_5_3 (pc := 45) C hb1 wd_167 dX5_become_45 ?_
  refine a_iconst (pc := 48) C 0 dX5_become_48 rfl ?_
  refine a_aload_n (pc := 49) C dX5_become_49 rfl 0 rfl ?_
  refine gf_5_3 (pc := 50) C hb0 wd_167 dX5_become_50 ?_
  refine a_iconst (pc := 53) C 0 dX5_become_53 rfl ?_
  refine a_iload_n (pc := 54) C dX5_become_54 rfl 2 rfl ?_
  obtain ⟨M4, eM4, h⟩ := bndS h
  refine a_copyI (pc := 55) C (st_a4 hb1) (st_a4 hb0) eM4 rfl wd_673 wd_533 wd_532 wd_93 rfl dX5_become_55 ?_
  refine a_aload_n (pc := 58) C dX5_become_58 rfl 0 rfl ?_
  refine a_aload_n (pc := 59) C dX5_become_59 rfl 1 rfl ?_
  refine gf_5_4 (pc := 60) C hb1 wd_172 dX5_become_60 ?_
  refine pf_5_4 (pc := 63) C hb0 wd_172 dX5_become_63 ?_
  exact a_vret (pc := 66) C E (somI h) dX5_become_66
set_option maxHeartbeats 200000 in
set_option maxRecDepth 100000 in
theorem ok_fStreet_poured (l : Launch) (N : Rig) (M : Mem) (b0 : Nat) (hb0 : isSt b0) (x1 : Int32) (x2 : Int32) {r : Int32} {M0 : Mem} (h : fStreet_poured M b0 x1 x2 = some (r, M0)) : Ct l N yX5_poured cX5_poured 3 (some .int) 1 [.ref (N.2.1 b0), .int x1, .int x2] M (QcI N (some .int) r M0) := by
  refine ct_of (by decide) rfl ?_
  intro X el eN eL C E
  subst el
  subst eN
  unfold fStreet_poured at h
  show WA X M [(0, .ref (X.N.2.1 b0)), (1, .int x1), (2, .int x2)] 0 []
  refine a_aload_n (pc := 0) C dX5_poured_0 rfl 0 rfl ?_
  refine gf_5_0 (pc := 1) C hb0 wd_153 dX5_poured_1 ?_
  refine a_iload_n (pc := 4) C dX5_poured_4 rfl 1 rfl ?_
  refine a_aload_n (pc := 5) C dX5_poured_5 rfl 0 rfl ?_
  refine gf_5_0 (pc := 6) C hb0 wd_153 dX5_poured_6 ?_
  refine a_iload_n (pc := 9) C dX5_poured_9 rfl 1 rfl ?_
  obtain ⟨v1, ev1, h⟩ := bndS h
  refine a_iald (pc := 10) C (st_a1 hb0) ev1 dX5_poured_10 ?_
  refine a_iload_n (pc := 11) C dX5_poured_11 rfl 2 rfl ?_
  refine a_iadd (pc := 12) C dX5_poured_12 ?_
  refine a_sipush (pc := 13) C 9999 dX5_poured_13 rfl ?_
  refine a_mmin (pc := 16) C rfl wd_651 wd_652 wd_94 wd_653 rfl dX5_poured_16 ?_
  obtain ⟨M2, eM2, h⟩ := bndS h
  refine a_iast (pc := 19) C (st_a1 hb0) eM2 dX5_poured_19 ?_
  refine a_aload_n (pc := 20) C dX5_poured_20 rfl 0 rfl ?_
  refine gf_5_0 (pc := 21) C hb0 wd_153 dX5_poured_21 ?_
  refine a_iload_n (pc := 24) C dX5_poured_24 rfl 1 rfl ?_
  obtain ⟨v3, ev3, h⟩ := bndS h
  refine a_iald (pc := 25) C (st_a1 hb0) ev3 dX5_poured_25 ?_
  exact a_iret (pc := 26) C E rfl (som1 h) (som2 h) dX5_poured_26
set_option maxHeartbeats 200000 in
set_option maxRecDepth 100000 in
theorem ok_fStreet_drink_L7 {X : Amb} (eL : X.nL = 5) (C : Cx X RX5 cX5_drink 1) (b0 : Nat) (hb0 : isSt b0) (o : Mem) (K : WA X o [(0, .ref (X.N.2.1 b0))] 101 []) : ∀ (n : Nat) (M : Mem) (x2 : Int32), fStreet_drink_L7 n M b0 x2 = some o → WA X M [(0, .ref (X.N.2.1 b0)), (1, .ref (X.N.2.1 2)), (2, .int x2)] 7 [] := by
  intro n
  induction n with
  | zero => intro _ _ h; cases h
  | succ n ih =>
    intro M x2 h
    replace h : fStreet_drink_L7_F (fStreet_drink_L7 n) M b0 x2 = some o := h
    unfold fStreet_drink_L7_F at h
    refine a_iload_n (pc := 7) C dX5_drink_7 rfl 2 rfl ?_
    refine a_aload_n (pc := 8) C dX5_drink_8 rfl 1 rfl ?_
    refine gf_7_4 (pc := 9) C wd_133 dX5_drink_9 ?_
    refine a_icmp_ge (pc := 12) C 101 dX5_drink_12 rfl (fun c1 => ?_) (fun c1 => ?_)
    · replace h := iteT c1 h
      refine a_sub (lv2 := [(0, .ref (X.N.2.1 b0))]) [0] rfl ?_
      cases somI h
      exact K
    · replace h := iteF c1 h
      refine a_aload_n (pc := 15) C dX5_drink_15 rfl 1 rfl ?_
      refine gf_7_3 (pc := 16) C wd_128 dX5_drink_16 ?_
      refine a_iload_n (pc := 19) C dX5_drink_19 rfl 2 rfl ?_
      obtain ⟨v2, ev2, h⟩ := bndS h
      refine a_iald (pc := 20) C rfl ev2 dX5_drink_20 ?_
      refine a_iconst (pc := 21) C 1 dX5_drink_21 rfl ?_
      refine a_icmp_eq (pc := 22) C 95 dX5_drink_22 rfl (fun c3 => ?_) (fun c3 => ?_)
      · replace h := iteT c3 h
        refine a_iinc (pc := 95) C 2 (x2 + 1) [(2, .int (x2 + 1)), (0, .ref (X.N.2.1 b0)), (1, .ref (X.N.2.1 2))] dX5_drink_95 rfl rfl (nlt eL rfl) rfl ?_
        refine a_goto (pc := 98) C 7 dX5_drink_98 rfl ?_
        refine a_sub [1, 2, 0] rfl ?_
        exact ih M (x2 + 1) h
      · replace h := iteF c3 h
        refine a_aload_n (pc := 25) C dX5_drink_25 rfl 0 rfl ?_
        refine gf_5_2 (pc := 26) C hb0 wd_162 dX5_drink_26 ?_
        refine a_iload_n (pc := 29) C dX5_drink_29 rfl 2 rfl ?_
        obtain ⟨v4, ev4, h⟩ := bndS h
        refine a_iald (pc := 30) C (st_a3 hb0) ev4 dX5_drink_30 ?_
        refine a_istore_n (pc := 31) C [(3, .int v4), (0, .ref (X.N.2.1 b0)), (1, .ref (X.N.2.1 2)), (2, .int x2)] dX5_drink_31 rfl (nlt eL rfl) rfl ?_
        refine a_aload_n (pc := 32) C dX5_drink_32 rfl 2 rfl ?_
        refine gf_7_2 (pc := 33) C wd_125 dX5_drink_33 ?_
        refine a_iload_n (pc := 36) C dX5_drink_36 rfl 3 rfl ?_
        obtain ⟨v5, ev5, h⟩ := bndS h
        refine a_iald (pc := 37) C rfl ev5 dX5_drink_37 ?_
        refine a_aload_n (pc := 38) C dX5_drink_38 rfl 1 rfl ?_
        refine gf_5_0 (pc := 39) C hb0 wd_153 dX5_drink_39 ?_
        refine a_iload_n (pc := 42) C dX5_drink_42 rfl 0 rfl ?_
        obtain ⟨v6, ev6, h⟩ := bndS h
        refine a_iald (pc := 43) C (st_a1 hb0) ev6 dX5_drink_43 ?_
        refine a_sipush (pc := 44) C 9999 dX5_drink_44 rfl ?_
        refine a_aload_n (pc := 47) C dX5_drink_47 rfl 1 rfl ?_
        refine gf_5_3 (pc := 48) C hb0 wd_167 dX5_drink_48 ?_
        refine a_iload_n (pc := 51) C dX5_drink_51 rfl 3 rfl ?_
        obtain ⟨v7, ev7, h⟩ := bndS h
        refine a_iald (pc := 52) C (st_a4 hb0) ev7 dX5_drink_52 ?_
        refine a_isub (pc := 53) C dX5_drink_53 ?_
        refine a_mmin (pc := 54) C rfl wd_651 wd_652 wd_94 wd_653 rfl dX5_drink_54 ?_
        refine a_mmin (pc := 57) C rfl wd_651 wd_652 wd_94 wd_653 rfl dX5_drink_57 ?_
        refine a_istore (pc := 60) C [(4, .int (mnI v5 (mnI v6 (9999 - v7)))), (3, .int v4), (0, .ref (X.N.2.1 b0)), (1, .ref (X.N.2.1 2)), (2, .int x2)] dX5_drink_60 (nlt eL rfl) rfl ?_
        refine a_aload_n (pc := 62) C dX5_drink_62 rfl 2 rfl ?_
        refine gf_5_0 (pc := 63) C hb0 wd_153 dX5_drink_63 ?_
        refine a_iload_n (pc := 66) C dX5_drink_66 rfl 1 rfl ?_
        refine a_dup2 (pc := 67) C dX5_drink_67 rfl rfl ?_
        obtain ⟨v8, ev8, h⟩ := bndS h
        refine a_iald (pc := 68) C (st_a1 hb0) ev8 dX5_drink_68 ?_
        refine a_iload (pc := 69) C dX5_drink_69 0 rfl ?_
        refine a_isub (pc := 71) C dX5_drink_71 ?_
        obtain ⟨M9, eM9, h⟩ := bndS h
        refine a_iast (pc := 72) C (st_a1 hb0) eM9 dX5_drink_72 ?_
        refine a_aload_n (pc := 73) C dX5_drink_73 rfl 2 rfl ?_
        refine gf_5_3 (pc := 74) C hb0 wd_167 dX5_drink_74 ?_
        refine a_iload_n (pc := 77) C dX5_drink_77 rfl 4 rfl ?_
        refine a_dup2 (pc := 78) C dX5_drink_78 rfl rfl ?_
        obtain ⟨v10, ev10, h⟩ := bndS h
        refine a_iald (pc := 79) C (st_a4 hb0) ev10 dX5_drink_79 ?_
        refine a_iload (pc := 80) C dX5_drink_80 0 rfl ?_
        refine a_iadd (pc := 82) C dX5_drink_82 ?_
        obtain ⟨M11, eM11, h⟩ := bndS h
        refine a_iast (pc := 83) C (st_a4 hb0) eM11 dX5_drink_83 ?_
        refine a_aload_n (pc := 84) C dX5_drink_84 rfl 2 rfl ?_
        refine a_dup (pc := 85) C dX5_drink_85 rfl ?_
        refine gf_5_5 (pc := 86) C hb0 wd_174 dX5_drink_86 ?_
        refine a_iload (pc := 89) C dX5_drink_89 0 rfl ?_
        refine a_iadd (pc := 91) C dX5_drink_91 ?_
        refine pf_5_5 (pc := 92) C hb0 wd_174 dX5_drink_92 ?_
        refine a_iinc (pc := 95) C 4 (x2 + 1) [(2, .int (x2 + 1)), (4, .int (mnI v5 (mnI v6 (9999 - v7)))), (3, .int v4), (0, .ref (X.N.2.1 b0)), (1, .ref (X.N.2.1 2))] dX5_drink_95 rfl rfl (nlt eL rfl) rfl ?_
        refine a_goto (pc := 98) C 7 dX5_drink_98 rfl ?_
        refine a_sub [3, 4, 0] rfl ?_
        exact ih (wI M11 b0 5 ((M11.1 b0 5) + (mnI v5 (mnI v6 (9999 - v7))))) (x2 + 1) h
set_option maxHeartbeats 200000 in
set_option maxRecDepth 100000 in
theorem ok_fStreet_drink (l : Launch) (N : Rig) (M : Mem) (b0 : Nat) (hb0 : isSt b0) {M0 : Mem} (h : fStreet_drink M b0 = some M0) : Ct l N yX5_drink cX5_drink 5 none 1 [.ref (N.2.1 b0), .ref (N.2.1 2)] M (QcV N M0) := by
  refine ct_of (by decide) rfl ?_
  intro X el eN eL C E
  subst el
  subst eN
  unfold fStreet_drink at h
  show WA X M [(0, .ref (X.N.2.1 b0)), (1, .ref (X.N.2.1 2))] 0 []
  refine a_aload_n (pc := 0) C dX5_drink_0 rfl 0 rfl ?_
  refine a_iconst (pc := 1) C 0 dX5_drink_1 rfl ?_
  refine pf_5_5 (pc := 2) C hb0 wd_174 dX5_drink_2 ?_
  refine a_iconst (pc := 5) C 0 dX5_drink_5 rfl ?_
  refine a_istore_n (pc := 6) C [(2, .int 0), (0, .ref (X.N.2.1 b0)), (1, .ref (X.N.2.1 2))] dX5_drink_6 rfl (nlt eL rfl) rfl ?_
  refine a_sub (lv2 := [(0, .ref (X.N.2.1 b0)), (1, .ref (X.N.2.1 2)), (2, .int 0)]) [1, 2, 0] rfl ?_
  obtain ⟨o12, eo12, h⟩ := bndS h
  refine ok_fStreet_drink_L7 eL C b0 hb0 o12 ?_ FU (wI M b0 5 0) 0 eo12
  refine a_aload_n (pc := 101) C dX5_drink_101 rfl 0 rfl ?_
  refine a_aload_n (pc := 102) C dX5_drink_102 rfl 0 rfl ?_
  refine gf_5_5 (pc := 103) C hb0 wd_174 dX5_drink_103 ?_
  refine a_if_le (pc := 106) C 113 dX5_drink_106 rfl (fun c13 => ?_) (fun c13 => ?_)
  · replace h := iteT c13 h
    refine a_iconst (pc := 113) C 0 dX5_drink_113 rfl ?_
    obtain ⟨M14, eM14, h⟩ := bndS h
    refine pf_5_7 (pc := 114) C hb0 eM14 wd_178 dX5_drink_114 ?_
    exact a_vret (pc := 117) C E (somI h) dX5_drink_117
  · replace h := iteF c13 h
    refine a_iconst (pc := 109) C 1 dX5_drink_109 rfl ?_
    refine a_goto (pc := 110) C 114 dX5_drink_110 rfl ?_
    obtain ⟨M15, eM15, h⟩ := bndS h
    refine pf_5_7 (pc := 114) C hb0 eM15 wd_178 dX5_drink_114 ?_
    exact a_vret (pc := 117) C E (somI h) dX5_drink_117
set_option maxHeartbeats 200000 in
set_option maxRecDepth 100000 in
theorem ok_fTown_isSink (l : Launch) (N : Rig) (M : Mem) (x1 : Int32) {r : Int32} (h : fTown_isSink M x1 = some r) : Ct l N yX7_isSink cX7_isSink 2 (some .boolean) 0 [.ref (N.2.1 2), .int x1] M (QcI N (some .boolean) r M) := by
  refine ct_of (by decide) rfl ?_
  intro X el eN eL C E
  subst el
  subst eN
  unfold fTown_isSink at h
  show WA X M [(0, .ref (X.N.2.1 2)), (1, .int x1)] 0 []
  refine a_aload_n (pc := 0) C dX7_isSink_0 rfl 0 rfl ?_
  refine gf_7_1 (pc := 1) C wd_121 dX7_isSink_1 ?_
  refine a_iload_n (pc := 4) C dX7_isSink_4 rfl 1 rfl ?_
  obtain ⟨v1, ev1, h⟩ := bndS h
  refine a_iald (pc := 5) C rfl ev1 dX7_isSink_5 ?_
  refine a_if_ge (pc := 6) C 13 dX7_isSink_6 rfl (fun c2 => ?_) (fun c2 => ?_)
  · replace h := iteT c2 h
    refine a_iconst (pc := 13) C 0 dX7_isSink_13 rfl ?_
    exact a_iret (pc := 14) C E rfl (somI h) rfl dX7_isSink_14
  · replace h := iteF c2 h
    refine a_iconst (pc := 9) C 1 dX7_isSink_9 rfl ?_
    refine a_goto (pc := 10) C 14 dX7_isSink_10 rfl ?_
    exact a_iret (pc := 14) C E rfl (somI h) rfl dX7_isSink_14
set_option maxHeartbeats 200000 in
set_option maxRecDepth 100000 in
theorem ok_fStreet_withoutText (l : Launch) (N : Rig) (M : Mem) (x0 : Int32) (x1 : Int32) : Ct l N yX5_withoutText cX5_withoutText 2 (some .int) 1 [.int x0, .int x1] M (QcI N (some .int) (fStreet_withoutText x0 x1) M) := by
  obtain ⟨r, h⟩ : ∃ r, fStreet_withoutText x0 x1 = r := ⟨_, rfl⟩
  rw [h]
  refine ct_of (by decide) rfl ?_
  intro X el eN eL C E
  subst el
  subst eN
  unfold fStreet_withoutText at h
  show WA X M [(0, .int x0), (1, .int x1)] 0 []
  refine a_iload_n (pc := 0) C dX5_withoutText_0 rfl 1 rfl ?_
  refine a_iconst (pc := 1) C 1 dX5_withoutText_1 rfl ?_
  refine a_icmp_ne (pc := 2) C 14 dX5_withoutText_2 rfl (fun c1 => ?_) (fun c1 => ?_)
  · replace h := iteT c1 h
    refine a_iload_n (pc := 14) C dX5_withoutText_14 rfl 1 rfl ?_
    refine a_iconst (pc := 15) C 2 dX5_withoutText_15 rfl ?_
    refine a_icmp_ne (pc := 16) C 23 dX5_withoutText_16 rfl (fun c2 => ?_) (fun c2 => ?_)
    · replace h := iteT c2 h
      refine a_iload_n (pc := 23) C dX5_withoutText_23 rfl 0 rfl ?_
      refine a_iconst (pc := 24) C 2 dX5_withoutText_24 rfl ?_
      refine a_idiv (pc := 25) C dX5_withoutText_25 (by decide) ?_
      exact a_iret (pc := 26) C E rfl h rfl dX5_withoutText_26
    · replace h := iteF c2 h
      refine a_iload_n (pc := 19) C dX5_withoutText_19 rfl 0 rfl ?_
      refine a_goto (pc := 20) C 26 dX5_withoutText_20 rfl ?_
      exact a_iret (pc := 26) C E rfl h rfl dX5_withoutText_26
  · replace h := iteF c1 h
    refine a_iconst (pc := 5) C 0 dX5_withoutText_5 rfl ?_
    refine a_iload_n (pc := 6) C dX5_withoutText_6 rfl 0 rfl ?_
    refine a_bipush (pc := 7) C 20 dX5_withoutText_7 rfl ?_
    refine a_isub (pc := 9) C dX5_withoutText_9 ?_
    refine a_mmax (pc := 10) C rfl wd_630 wd_631 wd_94 wd_632 rfl dX5_withoutText_10 ?_
    exact a_iret (pc := 13) C E rfl h rfl dX5_withoutText_13
set_option maxHeartbeats 200000 in
set_option maxRecDepth 100000 in
theorem ok_fStreet_sitting_L5 {X : Amb} (eL : X.nL = 5) (C : Cx X RX5 cX5_sitting 0) (b0 : Nat) (hb0 : isSt b0) (x1 : Int32) (x2 : Int32) (M : Mem) (o : Int32) (K : WA X M [(3, .int o)] 31 []) : ∀ (n : Nat) (x3 : Int32) (x4 : Int32), fStreet_sitting_L5 n M b0 x1 x2 x3 x4 = some o → WA X M [(0, .ref (X.N.2.1 b0)), (1, .int x1), (2, .int x2), (3, .int x3), (4, .int x4)] 5 [] := by
  intro n
  induction n with
  | zero => intro _ _ h; cases h
  | succ n ih =>
    intro x3 x4 h
    replace h : fStreet_sitting_L5_F (fStreet_sitting_L5 n) M b0 x1 x2 x3 x4 = some o := h
    unfold fStreet_sitting_L5_F at h
    refine a_iload (pc := 5) C dX5_sitting_5 4 rfl ?_
    refine a_iload_n (pc := 7) C dX5_sitting_7 rfl 1 rfl ?_
    refine a_icmp_ge (pc := 8) C 31 dX5_sitting_8 rfl (fun c1 => ?_) (fun c1 => ?_)
    · replace h := iteT c1 h
      refine a_sub (lv2 := [(3, .int x3)]) [3] rfl ?_
      cases somI h
      exact K
    · replace h := iteF c1 h
      refine a_aload_n (pc := 11) C dX5_sitting_11 rfl 0 rfl ?_
      refine gf_5_2 (pc := 12) C hb0 wd_162 dX5_sitting_12 ?_
      refine a_iload (pc := 15) C dX5_sitting_15 4 rfl ?_
      obtain ⟨v2, ev2, h⟩ := bndS h
      refine a_iald (pc := 17) C (st_a3 hb0) ev2 dX5_sitting_17 ?_
      refine a_iload_n (pc := 18) C dX5_sitting_18 rfl 2 rfl ?_
      refine a_icmp_ne (pc := 19) C 25 dX5_sitting_19 rfl (fun c3 => ?_) (fun c3 => ?_)
      · replace h := iteT c3 h
        refine a_iinc (pc := 25) C 4 (x4 + 1) [(4, .int (x4 + 1)), (0, .ref (X.N.2.1 b0)), (1, .int x1), (2, .int x2), (3, .int x3)] dX5_sitting_25 rfl rfl (nlt eL rfl) rfl ?_
        refine a_goto (pc := 28) C 5 dX5_sitting_28 rfl ?_
        refine a_sub [1, 2, 3, 4, 0] rfl ?_
        exact ih x3 (x4 + 1) h
      · replace h := iteF c3 h
        refine a_iinc (pc := 22) C 3 (x3 + 1) [(3, .int (x3 + 1)), (0, .ref (X.N.2.1 b0)), (1, .int x1), (2, .int x2), (4, .int x4)] dX5_sitting_22 rfl rfl (nlt eL rfl) rfl ?_
        refine a_iinc (pc := 25) C 4 (x4 + 1) [(4, .int (x4 + 1)), (3, .int (x3 + 1)), (0, .ref (X.N.2.1 b0)), (1, .int x1), (2, .int x2)] dX5_sitting_25 rfl rfl (nlt eL rfl) rfl ?_
        refine a_goto (pc := 28) C 5 dX5_sitting_28 rfl ?_
        refine a_sub [2, 3, 4, 1, 0] rfl ?_
        exact ih (x3 + 1) (x4 + 1) h
set_option maxHeartbeats 200000 in
set_option maxRecDepth 100000 in
theorem ok_fStreet_sitting (l : Launch) (N : Rig) (M : Mem) (b0 : Nat) (hb0 : isSt b0) (x1 : Int32) (x2 : Int32) {r : Int32} (h : fStreet_sitting M b0 x1 x2 = some r) : Ct l N yX5_sitting cX5_sitting 5 (some .int) 0 [.ref (N.2.1 b0), .int x1, .int x2] M (QcI N (some .int) r M) := by
  refine ct_of (by decide) rfl ?_
  intro X el eN eL C E
  subst el
  subst eN
  unfold fStreet_sitting at h
  show WA X M [(0, .ref (X.N.2.1 b0)), (1, .int x1), (2, .int x2)] 0 []
  refine a_iconst (pc := 0) C 0 dX5_sitting_0 rfl ?_
  refine a_istore_n (pc := 1) C [(3, .int 0), (0, .ref (X.N.2.1 b0)), (1, .int x1), (2, .int x2)] dX5_sitting_1 rfl (nlt eL rfl) rfl ?_
  refine a_iconst (pc := 2) C 0 dX5_sitting_2 rfl ?_
  refine a_istore (pc := 3) C [(4, .int 0), (3, .int 0), (0, .ref (X.N.2.1 b0)), (1, .int x1), (2, .int x2)] dX5_sitting_3 (nlt eL rfl) rfl ?_
  refine a_sub (lv2 := [(0, .ref (X.N.2.1 b0)), (1, .int x1), (2, .int x2), (3, .int 0), (4, .int 0)]) [2, 3, 4, 1, 0] rfl ?_
  obtain ⟨o4, eo4, h⟩ := bndS h
  refine ok_fStreet_sitting_L5 eL C b0 hb0 x1 x2 M o4 ?_ FU 0 0 eo4
  refine a_iload_n (pc := 31) C dX5_sitting_31 rfl 0 rfl ?_
  exact a_iret (pc := 32) C E rfl (somI h) rfl dX5_sitting_32
set_option maxHeartbeats 200000 in
set_option maxRecDepth 100000 in
theorem ok_fStreet_outOf (l : Launch) (N : Rig) (M : Mem) (b0 : Nat) (hb0 : isSt b0) (x3 : Int32) {r : Int32} {M0 : Mem} (h : fStreet_outOf M b0 x3 = some (r, M0)) : Ct l N yX5_outOf cX5_outOf 7 (some .int) 2 [.ref (N.2.1 b0), .ref (N.2.1 2), .ref (N.2.1 7), .int x3] M (QcI N (some .int) r M0) := by
  refine ct_of (by decide) rfl ?_
  intro X el eN eL C E
  subst el
  subst eN
  unfold fStreet_outOf at h
  show WA X M [(0, .ref (X.N.2.1 b0)), (1, .ref (X.N.2.1 2)), (2, .ref (X.N.2.1 7)), (3, .int x3)] 0 []
  refine a_aload_n (pc := 0) C dX5_outOf_0 rfl 0 rfl ?_
  refine gf_5_0 (pc := 1) C hb0 wd_153 dX5_outOf_1 ?_
  refine a_iload_n (pc := 4) C dX5_outOf_4 rfl 3 rfl ?_
  obtain ⟨v1, ev1, h⟩ := bndS h
  refine a_iald (pc := 5) C (st_a1 hb0) ev1 dX5_outOf_5 ?_
  refine a_istore (pc := 6) C [(4, .int v1), (0, .ref (X.N.2.1 b0)), (1, .ref (X.N.2.1 2)), (2, .ref (X.N.2.1 7)), (3, .int x3)] dX5_outOf_6 (nlt eL rfl) rfl ?_
  refine a_aload_n (pc := 8) C dX5_outOf_8 rfl 2 rfl ?_
  refine a_iload_n (pc := 9) C dX5_outOf_9 rfl 4 rfl ?_
  obtain ⟨v2, ev2, h⟩ := bndS h
  refine a_callVI (pc := 10) C [.int x3] (ok_fTown_isSink X.l X.N M x3 ev2) rfl mw_X7_isSink wd_622 rfl rfl rfl rfl rfl rfl rfl dX5_outOf_10 (fun z3 => ?_)
  refine a_if_eq (pc := 13) C 18 dX5_outOf_13 rfl (fun c4 => ?_) (fun c4 => ?_)
  · replace h := iteT c4 h
    refine a_aload_n (pc := 18) C dX5_outOf_18 rfl 3 rfl ?_
    refine a_callVI (pc := 19) C [] (ok_fLaw_isTold X.l X.N M) rfl mw_X3_isTold wd_623 rfl rfl rfl rfl rfl rfl rfl dX5_outOf_19 (fun z5 => ?_)
    refine a_if_ne (pc := 22) C 37 dX5_outOf_22 rfl (fun c6 => ?_) (fun c6 => ?_)
    · replace h := iteT c6 h
      refine a_aload_n (pc := 37) C dX5_outOf_37 rfl 2 rfl ?_
      refine gf_7_0 (pc := 38) C wd_119 dX5_outOf_38 ?_
      refine a_iload_n (pc := 41) C dX5_outOf_41 rfl 4 rfl ?_
      obtain ⟨v7, ev7, h⟩ := bndS h
      refine a_iald (pc := 42) C rfl ev7 dX5_outOf_42 ?_
      refine a_aload_n (pc := 43) C dX5_outOf_43 rfl 2 rfl ?_
      refine gf_7_0 (pc := 44) C wd_119 dX5_outOf_44 ?_
      refine a_aload_n (pc := 47) C dX5_outOf_47 rfl 2 rfl ?_
      refine gf_7_1 (pc := 48) C wd_122 dX5_outOf_48 ?_
      refine a_iload_n (pc := 51) C dX5_outOf_51 rfl 4 rfl ?_
      obtain ⟨v8, ev8, h⟩ := bndS h
      refine a_iald (pc := 52) C rfl ev8 dX5_outOf_52 ?_
      obtain ⟨v9, ev9, h⟩ := bndS h
      refine a_iald (pc := 53) C rfl ev9 dX5_outOf_53 ?_
      refine a_isub (pc := 54) C dX5_outOf_54 ?_
      refine a_istore (pc := 55) C [(5, .int (v7 - v9)), (4, .int v1), (0, .ref (X.N.2.1 b0)), (1, .ref (X.N.2.1 2)), (2, .ref (X.N.2.1 7)), (3, .int x3)] dX5_outOf_55 (nlt eL rfl) rfl ?_
      refine a_aload_n (pc := 57) C dX5_outOf_57 rfl 4 rfl ?_
      refine a_iload (pc := 58) C dX5_outOf_58 1 rfl ?_
      refine a_aload_n (pc := 60) C dX5_outOf_60 rfl 2 rfl ?_
      refine gf_5_1 (pc := 61) C hb0 wd_157 dX5_outOf_61 ?_
      refine a_iload_n (pc := 64) C dX5_outOf_64 rfl 5 rfl ?_
      obtain ⟨v10, ev10, h⟩ := bndS h
      refine a_iald (pc := 65) C (st_a2 hb0) ev10 dX5_outOf_65 ?_
      refine a_iload (pc := 66) C dX5_outOf_66 0 rfl ?_
      refine a_aload_n (pc := 68) C dX5_outOf_68 rfl 2 rfl ?_
      refine a_aload_n (pc := 69) C dX5_outOf_69 rfl 3 rfl ?_
      refine gf_7_4 (pc := 70) C wd_133 dX5_outOf_70 ?_
      refine a_iload_n (pc := 73) C dX5_outOf_73 rfl 5 rfl ?_
      obtain ⟨v11, ev11, h⟩ := bndS h
      refine a_callVI (pc := 74) C [.int (M.1 2 4), .int x3] (ok_fStreet_sitting X.l X.N M b0 hb0 (M.1 2 4) x3 ev11) rfl mw_X5_sitting wd_633 (st_shp hb0) (st_blt hb0) rfl rfl rfl rfl rfl dX5_outOf_74 (fun z12 => ?_)
      refine a_aload_n (pc := 77) C dX5_outOf_77 rfl 2 rfl ?_
      refine gf_5_4 (pc := 78) C hb0 wd_172 dX5_outOf_78 ?_
      refine a_iload_n (pc := 81) C dX5_outOf_81 rfl 5 rfl ?_
      obtain ⟨q13, eq13, h⟩ := bndS h
      refine a_callVI (pc := 82) C [.int v1, .int v10, .int (v7 - v9), .int v11, .int (M.1 b0 4), .int x3] (ok_fLaw_gives X.l X.N M v1 v10 (v7 - v9) v11 (M.1 b0 4) x3 eq13) rfl mw_X3_gives wd_637 rfl rfl rfl rfl rfl rfl rfl dX5_outOf_82 (fun z14 => ?_)
      refine a_istore (pc := 85) C [(6, .int q13.1), (5, .int (v7 - v9)), (4, .int v1), (0, .ref (X.N.2.1 b0)), (1, .ref (X.N.2.1 2)), (2, .ref (X.N.2.1 7)), (3, .int x3)] dX5_outOf_85 (nlt eL rfl) rfl ?_
      refine a_iconst (pc := 87) C 0 dX5_outOf_87 rfl ?_
      refine a_iload (pc := 88) C dX5_outOf_88 0 rfl ?_
      refine a_iload (pc := 90) C dX5_outOf_90 2 rfl ?_
      refine a_mmin (pc := 92) C rfl wd_651 wd_652 wd_94 wd_653 rfl dX5_outOf_92 ?_
      refine a_mmax (pc := 95) C rfl wd_630 wd_631 wd_94 wd_632 rfl dX5_outOf_95 ?_
      exact a_iret (pc := 98) C E rfl (som1 h) (som2 h) dX5_outOf_98
    · replace h := iteF c6 h
      refine a_iload (pc := 25) C dX5_outOf_25 0 rfl ?_
      refine a_aload_n (pc := 27) C dX5_outOf_27 rfl 1 rfl ?_
      refine gf_5_1 (pc := 28) C hb0 wd_157 dX5_outOf_28 ?_
      refine a_iload_n (pc := 31) C dX5_outOf_31 rfl 4 rfl ?_
      obtain ⟨v15, ev15, h⟩ := bndS h
      refine a_iald (pc := 32) C (st_a2 hb0) ev15 dX5_outOf_32 ?_
      refine a_callSI (pc := 33) C [.int v1, .int v15] (ok_fStreet_withoutText X.l X.N M v1 v15) rfl mw_X5_withoutText wd_627 rfl rfl rfl dX5_outOf_33 (fun z16 => ?_)
      exact a_iret (pc := 36) C E rfl (som1 h) (som2 h) dX5_outOf_36
  · replace h := iteF c4 h
    refine a_iconst (pc := 16) C 0 dX5_outOf_16 rfl ?_
    exact a_iret (pc := 17) C E rfl (som1 h) (som2 h) dX5_outOf_17
