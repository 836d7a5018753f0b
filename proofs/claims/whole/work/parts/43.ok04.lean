set_option maxHeartbeats 200000 in
set_option maxRecDepth 100000 in
theorem ok_fMd_howMany_L15 {X : Amb} (eL : X.nL = 4) (C : Cx X RX11 cX11_howMany 8) (x1 : Int32) (x2 : Int32) (r : Int32) (M0 : Mem) (E : En X (some .int) (QcI X.N (some .int) r M0)) : ∀ (n : Nat) (M : Mem) (x3 : Int32), fMd_howMany_L15 n M x1 x2 x3 = some (r, M0) → WA X M [(0, .ref (X.N.2.1 66)), (1, .int x1), (2, .int x2), (3, .int x3)] 15 [] := by
  intro n
  induction n with
  | zero => intro _ _ h; cases h
  | succ n ih =>
    intro M x3 h
    replace h : fMd_howMany_L15_F (fMd_howMany_L15 n) M x1 x2 x3 = some (r, M0) := h
    unfold fMd_howMany_L15_F at h
    refine a_iload_n (pc := 15) C dX11_howMany_15 rfl 3 rfl ?_
    refine a_bipush (pc := 16) C 36 dX11_howMany_16 rfl ?_
    refine a_icmp_ge (pc := 18) C 50 dX11_howMany_18 rfl (fun c4 => ?_) (fun c4 => ?_)
    · replace h := iteT c4 h
      refine a_aload_n (pc := 50) C dX11_howMany_50 rfl 0 rfl ?_
      refine a_iload_n (pc := 51) C dX11_howMany_51 rfl 1 rfl ?_
      refine a_iload_n (pc := 52) C dX11_howMany_52 rfl 2 rfl ?_
      obtain ⟨q5, eq5, h⟩ := bndS h
      refine a_callVI (pc := 53) C [.int x1, .int x2] (ok_fMd_shoesFor X.l X.N M x1 x2 eq5) rfl mw_X11_shoesFor wd_1446 rfl rfl rfl rfl rfl rfl rfl dX11_howMany_53 (fun z6 => ?_)
      refine a_bipush (pc := 56) C (-2) dX11_howMany_56 rfl ?_
      refine a_icmp_ne (pc := 58) C 66 dX11_howMany_58 rfl (fun c7 => ?_) (fun c7 => ?_)
      · replace h := iteT c7 h
        refine a_iconst (pc := 66) C 2 dX11_howMany_66 rfl ?_
        exact a_iret (pc := 67) C E rfl (som1 h) (som2 h) dX11_howMany_67
      · replace h := iteF c7 h
        refine a_bipush (pc := 61) C (-2) dX11_howMany_61 rfl ?_
        refine a_goto (pc := 63) C 67 dX11_howMany_63 rfl ?_
        exact a_iret (pc := 67) C E rfl (som1 h) (som2 h) dX11_howMany_67
    · replace h := iteF c4 h
      refine a_aload_n (pc := 21) C dX11_howMany_21 rfl 0 rfl ?_
      refine gf_11_2 (pc := 22) C wd_1079 dX11_howMany_22 ?_
      refine a_iload_n (pc := 25) C dX11_howMany_25 rfl 3 rfl ?_
      obtain ⟨v8, ev8, h⟩ := bndS h
      refine a_iald (pc := 26) C rfl ev8 dX11_howMany_26 ?_
      refine a_iconst (pc := 27) C 1 dX11_howMany_27 rfl ?_
      refine a_icmp_eq (pc := 28) C 44 dX11_howMany_28 rfl (fun c9 => ?_) (fun c9 => ?_)
      · replace h := iteT c9 h
        refine a_iinc (pc := 44) C 3 (x3 + 1) [(3, .int (x3 + 1)), (0, .ref (X.N.2.1 66)), (1, .int x1), (2, .int x2)] dX11_howMany_44 rfl rfl (nlt eL rfl) rfl ?_
        refine a_goto (pc := 47) C 15 dX11_howMany_47 rfl ?_
        refine a_sub [1, 2, 3, 0] rfl ?_
        exact ih M (x3 + 1) h
      · replace h := iteF c9 h
        refine a_aload_n (pc := 31) C dX11_howMany_31 rfl 0 rfl ?_
        refine a_iload_n (pc := 32) C dX11_howMany_32 rfl 1 rfl ?_
        refine a_iload_n (pc := 33) C dX11_howMany_33 rfl 2 rfl ?_
        refine a_iload_n (pc := 34) C dX11_howMany_34 rfl 3 rfl ?_
        refine a_iconst (pc := 35) C (-1) dX11_howMany_35 rfl ?_
        obtain ⟨q10, eq10, h⟩ := bndS h
        refine a_callVI (pc := 36) C [.int x1, .int x2, .int x3, .int (-1)] (ok_fMd_isHung X.l X.N M x1 x2 x3 (-1) eq10) rfl mw_X11_isHung wd_1442 rfl rfl rfl rfl rfl rfl rfl dX11_howMany_36 (fun z11 => ?_)
        refine a_if_eq (pc := 39) C 44 dX11_howMany_39 rfl (fun c12 => ?_) (fun c12 => ?_)
        · replace h := iteT c12 h
          refine a_iinc (pc := 44) C 3 (x3 + 1) [(3, .int (x3 + 1)), (0, .ref (X.N.2.1 66)), (1, .int x1), (2, .int x2)] dX11_howMany_44 rfl rfl (nlt eL rfl) rfl ?_
          refine a_goto (pc := 47) C 15 dX11_howMany_47 rfl ?_
          refine a_sub [1, 2, 3, 0] rfl ?_
          exact ih q10.2 (x3 + 1) h
        · replace h := iteF c12 h
          refine a_iconst (pc := 42) C 1 dX11_howMany_42 rfl ?_
          exact a_iret (pc := 43) C E rfl (som1 h) (som2 h) dX11_howMany_43
set_option maxHeartbeats 200000 in
set_option maxRecDepth 100000 in
theorem ok_fMd_howMany (l : Launch) (N : Rig) (M : Mem) (x1 : Int32) (x2 : Int32) {r : Int32} {M0 : Mem} (h : fMd_howMany M x1 x2 = some (r, M0)) : Ct l N yX11_howMany cX11_howMany 4 (some .int) 8 [.ref (N.2.1 66), .int x1, .int x2] M (QcI N (some .int) r M0) := by
  refine ct_of (by decide) rfl ?_
  intro X el eN eL C E
  subst el
  subst eN
  unfold fMd_howMany at h
  show WA X M [(0, .ref (X.N.2.1 66)), (1, .int x1), (2, .int x2)] 0 []
  refine a_aload_n (pc := 0) C dX11_howMany_0 rfl 0 rfl ?_
  refine a_iload_n (pc := 1) C dX11_howMany_1 rfl 1 rfl ?_
  refine a_iload_n (pc := 2) C dX11_howMany_2 rfl 2 rfl ?_
  refine a_iconst (pc := 3) C (-1) dX11_howMany_3 rfl ?_
  refine a_iconst (pc := 4) C (-1) dX11_howMany_4 rfl ?_
  obtain ⟨q1, eq1, h⟩ := bndS h
  refine a_callVI (pc := 5) C [.int x1, .int x2, .int (-1), .int (-1)] (ok_fMd_isHung X.l X.N M x1 x2 (-1) (-1) eq1) rfl mw_X11_isHung wd_1442 rfl rfl rfl rfl rfl rfl rfl dX11_howMany_5 (fun z2 => ?_)
  refine a_if_eq (pc := 8) C 13 dX11_howMany_8 rfl (fun c3 => ?_) (fun c3 => ?_)
  · replace h := iteT c3 h
    refine a_iconst (pc := 13) C 0 dX11_howMany_13 rfl ?_
    refine a_istore_n (pc := 14) C [(3, .int 0), (0, .ref (X.N.2.1 66)), (1, .int x1), (2, .int x2)] dX11_howMany_14 rfl (nlt eL rfl) rfl ?_
    refine a_sub (lv2 := [(0, .ref (X.N.2.1 66)), (1, .int x1), (2, .int x2), (3, .int 0)]) [1, 2, 3, 0] rfl ?_
    exact ok_fMd_howMany_L15 eL C x1 x2 r M0 E FU q1.2 0 h
  · replace h := iteF c3 h
    refine a_iconst (pc := 11) C 0 dX11_howMany_11 rfl ?_
    exact a_iret (pc := 12) C E rfl (som1 h) (som2 h) dX11_howMany_12
set_option maxHeartbeats 200000 in
set_option maxRecDepth 100000 in
theorem ok_fMd_shoes (l : Launch) (N : Rig) (M : Mem) (x1 : Int32) (x2 : Int32) (x3 : Int32) {r : Int32} {M0 : Mem} (h : fMd_shoes M x1 x2 x3 = some (r, M0)) : Ct l N yX11_shoes cX11_shoes 4 (some .int) 9 [.ref (N.2.1 66), .int x1, .int x2, .int x3] M (QcI N (some .int) r M0) := by
  refine ct_of (by decide) rfl ?_
  intro X el eN eL C E
  subst el
  subst eN
  unfold fMd_shoes at h
  show WA X M [(0, .ref (X.N.2.1 66)), (1, .int x1), (2, .int x2), (3, .int x3)] 0 []
  refine a_aload_n (pc := 0) C dX11_shoes_0 rfl 0 rfl ?_
  refine a_iload_n (pc := 1) C dX11_shoes_1 rfl 1 rfl ?_
  refine a_callVI (pc := 2) C [.int x1] (ok_fMd_isOne X.l X.N M x1) rfl mw_X11_isOne wd_1247 rfl rfl rfl rfl rfl rfl rfl dX11_shoes_2 (fun z1 => ?_)
  refine a_if_eq (pc := 5) C 31 dX11_shoes_5 rfl (fun c2 => ?_) (fun c2 => ?_)
  · replace h := iteT c2 h
    refine a_iconst (pc := 31) C (-1) dX11_shoes_31 rfl ?_
    exact a_iret (pc := 32) C E rfl (som1 h) (som2 h) dX11_shoes_32
  · replace h := iteF c2 h
    refine a_iload_n (pc := 8) C dX11_shoes_8 rfl 2 rfl ?_
    refine a_if_lt (pc := 9) C 31 dX11_shoes_9 rfl (fun c3 => ?_) (fun c3 => ?_)
    · replace h := iteT c3 h
      refine a_iconst (pc := 31) C (-1) dX11_shoes_31 rfl ?_
      exact a_iret (pc := 32) C E rfl (som1 h) (som2 h) dX11_shoes_32
    · replace h := iteF c3 h
      refine a_iload_n (pc := 12) C dX11_shoes_12 rfl 2 rfl ?_
      refine a_sipush (pc := 13) C 10000 dX11_shoes_13 rfl ?_
      refine a_idiv (pc := 16) C dX11_shoes_16 (by decide) ?_
      refine a_bipush (pc := 17) C 12 dX11_shoes_17 rfl ?_
      refine a_icmp_gt (pc := 19) C 31 dX11_shoes_19 rfl (fun c4 => ?_) (fun c4 => ?_)
      · replace h := iteT c4 h
        refine a_iconst (pc := 31) C (-1) dX11_shoes_31 rfl ?_
        exact a_iret (pc := 32) C E rfl (som1 h) (som2 h) dX11_shoes_32
      · replace h := iteF c4 h
        refine a_iload_n (pc := 22) C dX11_shoes_22 rfl 3 rfl ?_
        refine a_iconst (pc := 23) C 0 dX11_shoes_23 rfl ?_
        refine a_iconst (pc := 24) C 1 dX11_shoes_24 rfl ?_
        refine a_callSI (pc := 25) C [.int x3, .int 0, .int 1] (ok_fMd_within X.l X.N M x3 0 1) rfl mw_X11_within wd_1220 rfl rfl rfl dX11_shoes_25 (fun z5 => ?_)
        refine a_if_ne (pc := 28) C 33 dX11_shoes_28 rfl (fun c6 => ?_) (fun c6 => ?_)
        · replace h := iteT c6 h
          refine a_iload_n (pc := 33) C dX11_shoes_33 rfl 3 rfl ?_
          refine a_if_ne (pc := 34) C 46 dX11_shoes_34 rfl (fun c7 => ?_) (fun c7 => ?_)
          · replace h := iteT c7 h
            refine a_aload_n (pc := 46) C dX11_shoes_46 rfl 0 rfl ?_
            refine a_iload_n (pc := 47) C dX11_shoes_47 rfl 1 rfl ?_
            refine a_iload_n (pc := 48) C dX11_shoes_48 rfl 2 rfl ?_
            obtain ⟨q8, eq8, h⟩ := bndS h
            refine a_callVI (pc := 49) C [.int x1, .int x2] (ok_fMd_shoesFor X.l X.N M x1 x2 eq8) rfl mw_X11_shoesFor wd_1446 rfl rfl rfl rfl rfl rfl rfl dX11_shoes_49 (fun z9 => ?_)
            exact a_iret (pc := 52) C E rfl (som1 h) (som2 h) dX11_shoes_52
          · replace h := iteF c7 h
            refine a_aload_n (pc := 37) C dX11_shoes_37 rfl 0 rfl ?_
            refine a_iload_n (pc := 38) C dX11_shoes_38 rfl 1 rfl ?_
            refine a_iload_n (pc := 39) C dX11_shoes_39 rfl 2 rfl ?_
            obtain ⟨q10, eq10, h⟩ := bndS h
            refine a_callVI (pc := 40) C [.int x1, .int x2] (ok_fMd_howMany X.l X.N M x1 x2 eq10) rfl mw_X11_howMany wd_1438 rfl rfl rfl rfl rfl rfl rfl dX11_shoes_40 (fun z11 => ?_)
            refine a_goto (pc := 43) C 52 dX11_shoes_43 rfl ?_
            exact a_iret (pc := 52) C E rfl (som1 h) (som2 h) dX11_shoes_52
        · replace h := iteF c6 h
          refine a_iconst (pc := 31) C (-1) dX11_shoes_31 rfl ?_
          exact a_iret (pc := 32) C E rfl (som1 h) (som2 h) dX11_shoes_32
set_option maxHeartbeats 200000 in
set_option maxRecDepth 100000 in
theorem ok_fMd_seat_L46 {X : Amb} (eL : X.nL = 8) (C : Cx X RX11 cX11_seat 6) (x3 : Int32) (x1 : Int32) (x2 : Int32) (o : Mem × Int32 × Int32) (K : WA X o.1 [(3, .int x3), (4, .int o.2.1), (5, .int o.2.2)] 105 []) : ∀ (n : Nat) (M : Mem) (x4 : Int32) (x5 : Int32) (x6 : Int32), fMd_seat_L46 n M x1 x2 x4 x5 x6 = some o → WA X M [(0, .ref (X.N.2.1 66)), (1, .int x1), (2, .int x2), (3, .int x3), (4, .int x4), (5, .int x5), (6, .int x6)] 46 [] := by
  intro n
  induction n with
  | zero => intro _ _ _ _ h; cases h
  | succ n ih =>
    intro M x4 x5 x6 h
    replace h : fMd_seat_L46_F (fMd_seat_L46 n) M x1 x2 x4 x5 x6 = some o := h
    unfold fMd_seat_L46_F at h
    refine a_iload (pc := 46) C dX11_seat_46 6 rfl ?_
    refine a_bipush (pc := 48) C 36 dX11_seat_48 rfl ?_
    refine a_icmp_ge (pc := 50) C 105 dX11_seat_50 rfl (fun c8 => ?_) (fun c8 => ?_)
    · replace h := iteT c8 h
      refine a_sub (lv2 := [(3, .int x3), (4, .int x4), (5, .int x5)]) [3, 4, 5] rfl ?_
      cases somI h
      exact K
    · replace h := iteF c8 h
      refine a_aload_n (pc := 53) C dX11_seat_53 rfl 0 rfl ?_
      refine gf_11_4 (pc := 54) C wd_1081 dX11_seat_54 ?_
      refine a_iload_n (pc := 57) C dX11_seat_57 rfl 1 rfl ?_
      refine a_iload (pc := 58) C dX11_seat_58 6 rfl ?_
      obtain ⟨M9, eM9, h⟩ := bndS h
      refine a_iast (pc := 60) C rfl eM9 dX11_seat_60 ?_
      refine a_aload_n (pc := 61) C dX11_seat_61 rfl 0 rfl ?_
      refine a_iload_n (pc := 62) C dX11_seat_62 rfl 2 rfl ?_
      obtain ⟨q10, eq10, h⟩ := bndS h
      refine a_callVV (pc := 63) C [.int x2] (ok_fMd_goesOn X.l X.N M9 x2 eq10) rfl mw_X11_goesOn wd_1372 rfl rfl rfl rfl rfl rfl rfl dX11_seat_63 ?_
      refine a_aload_n (pc := 66) C dX11_seat_66 rfl 0 rfl ?_
      refine a_iload_n (pc := 67) C dX11_seat_67 rfl 1 rfl ?_
      obtain ⟨v11, ev11, h⟩ := bndS h
      refine a_callVI (pc := 68) C [.int x1] (ok_fMd_has X.l X.N q10 x1 ev11) rfl mw_X11_has wd_1380 rfl rfl rfl rfl rfl rfl rfl dX11_seat_68 (fun z12 => ?_)
      refine a_istore (pc := 71) C [(7, .int v11), (0, .ref (X.N.2.1 66)), (1, .int x1), (2, .int x2), (3, .int x3), (4, .int x4), (5, .int x5), (6, .int x6)] dX11_seat_71 (nlt eL rfl) rfl ?_
      refine a_aload_n (pc := 73) C dX11_seat_73 rfl 1 rfl ?_
      refine a_aload_n (pc := 74) C dX11_seat_74 rfl 1 rfl ?_
      refine gf_11_42 (pc := 75) C wd_1119 dX11_seat_75 ?_
      obtain ⟨q13, eq13, h⟩ := bndS h
      refine a_callVV (pc := 78) C [.ref (X.N.2.1 92)] (ok_fMd_laysBack X.l X.N q10 92 kp92 eq13) rfl mw_X11_laysBack wd_1384 rfl rfl rfl rfl rfl rfl rfl dX11_seat_78 ?_
      refine a_iload (pc := 81) C dX11_seat_81 0 rfl ?_
      refine a_iload (pc := 83) C dX11_seat_83 6 rfl ?_
      refine a_icmp_gt (pc := 85) C 91 dX11_seat_85 rfl (fun c14 => ?_) (fun c14 => ?_)
      · replace h := iteT c14 h
        refine a_iload (pc := 91) C dX11_seat_91 0 rfl ?_
        refine a_istore (pc := 93) C [(5, .int v11), (7, .int v11), (0, .ref (X.N.2.1 66)), (1, .int x1), (2, .int x2), (3, .int x3), (4, .int x4), (6, .int x6)] dX11_seat_93 (nlt eL rfl) rfl ?_
        refine a_iload (pc := 95) C dX11_seat_95 7 rfl ?_
        refine a_istore (pc := 97) C [(4, .int x6), (5, .int v11), (7, .int v11), (0, .ref (X.N.2.1 66)), (1, .int x1), (2, .int x2), (3, .int x3), (6, .int x6)] dX11_seat_97 (nlt eL rfl) rfl ?_
        refine a_iinc (pc := 99) C 7 (x6 + 1) [(6, .int (x6 + 1)), (4, .int x6), (5, .int v11), (7, .int v11), (0, .ref (X.N.2.1 66)), (1, .int x1), (2, .int x2), (3, .int x3)] dX11_seat_99 rfl rfl (nlt eL rfl) rfl ?_
        refine a_goto (pc := 102) C 46 dX11_seat_102 rfl ?_
        refine a_sub [4, 5, 6, 7, 1, 2, 0] rfl ?_
        exact ih q13 x6 v11 (x6 + 1) h
      · replace h := iteF c14 h
        refine a_goto (pc := 88) C 99 dX11_seat_88 rfl ?_
        refine a_iinc (pc := 99) C 7 (x6 + 1) [(6, .int (x6 + 1)), (7, .int v11), (0, .ref (X.N.2.1 66)), (1, .int x1), (2, .int x2), (3, .int x3), (4, .int x4), (5, .int x5)] dX11_seat_99 rfl rfl (nlt eL rfl) rfl ?_
        refine a_goto (pc := 102) C 46 dX11_seat_102 rfl ?_
        refine a_sub [2, 3, 4, 5, 6, 7, 0] rfl ?_
        exact ih q13 x4 x5 (x6 + 1) h
set_option maxHeartbeats 200000 in
set_option maxRecDepth 100000 in
theorem ok_fMd_seat (l : Launch) (N : Rig) (M : Mem) (x1 : Int32) (x2 : Int32) (x3 : Int32) {r : Int32} {M0 : Mem} (h : fMd_seat M x1 x2 x3 = some (r, M0)) : Ct l N yX11_seat cX11_seat 8 (some .int) 6 [.ref (N.2.1 66), .int x1, .int x2, .int x3] M (QcI N (some .int) r M0) := by
  refine ct_of (by decide) rfl ?_
  intro X el eN eL C E
  subst el
  subst eN
  unfold fMd_seat at h
  show WA X M [(0, .ref (X.N.2.1 66)), (1, .int x1), (2, .int x2), (3, .int x3)] 0 []
  refine a_aload_n (pc := 0) C dX11_seat_0 rfl 0 rfl ?_
  refine a_iload_n (pc := 1) C dX11_seat_1 rfl 1 rfl ?_
  refine a_callVI (pc := 2) C [.int x1] (ok_fMd_isOne X.l X.N M x1) rfl mw_X11_isOne wd_1247 rfl rfl rfl rfl rfl rfl rfl dX11_seat_2 (fun z1 => ?_)
  refine a_if_eq (pc := 5) C 27 dX11_seat_5 rfl (fun c2 => ?_) (fun c2 => ?_)
  · replace h := iteT c2 h
    refine a_iconst (pc := 27) C (-1) dX11_seat_27 rfl ?_
    exact a_iret (pc := 28) C E rfl (som1 h) (som2 h) dX11_seat_28
  · replace h := iteF c2 h
    refine a_iload_n (pc := 8) C dX11_seat_8 rfl 2 rfl ?_
    refine a_iconst (pc := 9) C 0 dX11_seat_9 rfl ?_
    refine a_bipush (pc := 10) C 24 dX11_seat_10 rfl ?_
    refine a_callSI (pc := 12) C [.int x2, .int 0, .int 24] (ok_fMd_within X.l X.N M x2 0 24) rfl mw_X11_within wd_1220 rfl rfl rfl dX11_seat_12 (fun z3 => ?_)
    refine a_if_eq (pc := 15) C 27 dX11_seat_15 rfl (fun c4 => ?_) (fun c4 => ?_)
    · replace h := iteT c4 h
      refine a_iconst (pc := 27) C (-1) dX11_seat_27 rfl ?_
      exact a_iret (pc := 28) C E rfl (som1 h) (som2 h) dX11_seat_28
    · replace h := iteF c4 h
      refine a_iload_n (pc := 18) C dX11_seat_18 rfl 3 rfl ?_
      refine a_iconst (pc := 19) C 0 dX11_seat_19 rfl ?_
      refine a_iconst (pc := 20) C 1 dX11_seat_20 rfl ?_
      refine a_callSI (pc := 21) C [.int x3, .int 0, .int 1] (ok_fMd_within X.l X.N M x3 0 1) rfl mw_X11_within wd_1220 rfl rfl rfl dX11_seat_21 (fun z5 => ?_)
      refine a_if_ne (pc := 24) C 29 dX11_seat_24 rfl (fun c6 => ?_) (fun c6 => ?_)
      · replace h := iteT c6 h
        refine a_aload_n (pc := 29) C dX11_seat_29 rfl 0 rfl ?_
        refine a_aload_n (pc := 30) C dX11_seat_30 rfl 0 rfl ?_
        refine gf_11_42 (pc := 31) C wd_1119 dX11_seat_31 ?_
        obtain ⟨q7, eq7, h⟩ := bndS h
        refine a_callVV (pc := 34) C [.ref (X.N.2.1 92)] (ok_fMd_keeps X.l X.N M 92 kp92 eq7) rfl mw_X11_keeps wd_1368 rfl rfl rfl rfl rfl rfl rfl dX11_seat_34 ?_
        refine a_iconst (pc := 37) C 0 dX11_seat_37 rfl ?_
        refine a_istore (pc := 38) C [(4, .int 0), (0, .ref (X.N.2.1 66)), (1, .int x1), (2, .int x2), (3, .int x3)] dX11_seat_38 (nlt eL rfl) rfl ?_
        refine a_iconst (pc := 40) C (-1) dX11_seat_40 rfl ?_
        refine a_istore (pc := 41) C [(5, .int (-1)), (4, .int 0), (0, .ref (X.N.2.1 66)), (1, .int x1), (2, .int x2), (3, .int x3)] dX11_seat_41 (nlt eL rfl) rfl ?_
        refine a_iconst (pc := 43) C 0 dX11_seat_43 rfl ?_
        refine a_istore (pc := 44) C [(6, .int 0), (5, .int (-1)), (4, .int 0), (0, .ref (X.N.2.1 66)), (1, .int x1), (2, .int x2), (3, .int x3)] dX11_seat_44 (nlt eL rfl) rfl ?_
        refine a_sub (lv2 := [(0, .ref (X.N.2.1 66)), (1, .int x1), (2, .int x2), (3, .int x3), (4, .int 0), (5, .int (-1)), (6, .int 0)]) [3, 4, 5, 6, 2, 1, 0] rfl ?_
        obtain ⟨o15, eo15, h⟩ := bndS h
        refine ok_fMd_seat_L46 eL C x3 x1 x2 o15 ?_ FU q7 0 (-1) 0 eo15
        refine a_iload_n (pc := 105) C dX11_seat_105 rfl 0 rfl ?_
        refine a_if_ne (pc := 106) C 114 dX11_seat_106 rfl (fun c16 => ?_) (fun c16 => ?_)
        · replace h := iteT c16 h
          refine a_iload (pc := 114) C dX11_seat_114 2 rfl ?_
          exact a_iret (pc := 116) C E rfl (som1 h) (som2 h) dX11_seat_116
        · replace h := iteF c16 h
          refine a_iload (pc := 109) C dX11_seat_109 1 rfl ?_
          refine a_goto (pc := 111) C 116 dX11_seat_111 rfl ?_
          exact a_iret (pc := 116) C E rfl (som1 h) (som2 h) dX11_seat_116
      · replace h := iteF c6 h
        refine a_iconst (pc := 27) C (-1) dX11_seat_27 rfl ?_
        exact a_iret (pc := 28) C E rfl (som1 h) (som2 h) dX11_seat_28
set_option maxHeartbeats 200000 in
set_option maxRecDepth 100000 in
theorem ok_fMd_noShorts (l : Launch) (N : Rig) (M : Mem) (x1 : Int32) {r : Int32} (h : fMd_noShorts M x1 = some r) : Ct l N yX11_noShorts cX11_noShorts 2 (some .int) 0 [.ref (N.2.1 66), .int x1] M (QcI N (some .int) r M) := by
  refine ct_of (by decide) rfl ?_
  intro X el eN eL C E
  subst el
  subst eN
  unfold fMd_noShorts at h
  show WA X M [(0, .ref (X.N.2.1 66)), (1, .int x1)] 0 []
  refine a_aload_n (pc := 0) C dX11_noShorts_0 rfl 0 rfl ?_
  refine gf_11_36 (pc := 1) C wd_1113 dX11_noShorts_1 ?_
  refine a_iload_n (pc := 4) C dX11_noShorts_4 rfl 1 rfl ?_
  obtain ⟨v1, ev1, h⟩ := bndS h
  refine a_iald (pc := 5) C rfl ev1 dX11_noShorts_5 ?_
  refine a_iconst (pc := 6) C (-1) dX11_noShorts_6 rfl ?_
  refine a_icmp_ne (pc := 7) C 15 dX11_noShorts_7 rfl (fun c2 => ?_) (fun c2 => ?_)
  · replace h := iteT c2 h
    refine a_aload_n (pc := 15) C dX11_noShorts_15 rfl 0 rfl ?_
    refine gf_11_36 (pc := 16) C wd_1113 dX11_noShorts_16 ?_
    refine a_iload_n (pc := 19) C dX11_noShorts_19 rfl 1 rfl ?_
    obtain ⟨v3, ev3, h⟩ := bndS h
    refine a_iald (pc := 20) C rfl ev3 dX11_noShorts_20 ?_
    refine a_iconst (pc := 21) C 1 dX11_noShorts_21 rfl ?_
    refine a_icmp_eq (pc := 22) C 30 dX11_noShorts_22 rfl (fun c4 => ?_) (fun c4 => ?_)
    · replace h := iteT c4 h
      refine a_iconst (pc := 30) C 0 dX11_noShorts_30 rfl ?_
      exact a_iret (pc := 31) C E rfl (somI h) rfl dX11_noShorts_31
    · replace h := iteF c4 h
      refine a_bipush (pc := 25) C (-12) dX11_noShorts_25 rfl ?_
      refine a_goto (pc := 27) C 31 dX11_noShorts_27 rfl ?_
      exact a_iret (pc := 31) C E rfl (somI h) rfl dX11_noShorts_31
  · replace h := iteF c2 h
    refine a_bipush (pc := 10) C (-11) dX11_noShorts_10 rfl ?_
    refine a_goto (pc := 12) C 31 dX11_noShorts_12 rfl ?_
    exact a_iret (pc := 31) C E rfl (somI h) rfl dX11_noShorts_31
set_option maxHeartbeats 200000 in
set_option maxRecDepth 100000 in
theorem ok_fMd_unlike_J47_14 {X : Amb} (eL : X.nL = 5) (C : Cx X RX11 cX11_unlike 5) (x1 : Int32) (x2 : Int32) (o : Mem × Int32) (K : WA X o.1 [(0, .ref (X.N.2.1 66)), (3, .int o.2)] 72 []) (ihf : Mem → Int32 → Int32 → Int32 → Int32 → Option (Mem × Int32)) (ih : ∀ (M : Mem) (x3 : Int32) (x4 : Int32), ihf M x1 x2 x3 x4 = some o → WA X M [(0, .ref (X.N.2.1 66)), (1, .int x1), (2, .int x2), (3, .int x3), (4, .int x4)] 14 []) (M : Mem) (x3 : Int32) (x4 : Int32) (h : fMd_unlike_J47_14 ihf M x1 x2 x3 x4 = some o) : WA X M [(0, .ref (X.N.2.1 66)), (1, .int x1), (2, .int x2), (3, .int x3), (4, .int x4)] 47 [] := by
  unfold fMd_unlike_J47_14 at h
  refine a_aload_n (pc := 47) C dX11_unlike_47 rfl 0 rfl ?_
  refine gf_11_1 (pc := 48) C wd_1078 dX11_unlike_48 ?_
  refine a_iload_n (pc := 51) C dX11_unlike_51 rfl 2 rfl ?_
  obtain ⟨v7, ev7, h⟩ := bndS h
  refine a_iald (pc := 52) C rfl ev7 dX11_unlike_52 ?_
  refine a_aload_n (pc := 53) C dX11_unlike_53 rfl 0 rfl ?_
  refine a_iload_n (pc := 54) C dX11_unlike_54 rfl 1 rfl ?_
  refine a_iload (pc := 55) C dX11_unlike_55 4 rfl ?_
  obtain ⟨v8, ev8, h⟩ := bndS h
  refine a_callVI (pc := 57) C [.int x1, .int x4] (ok_fMd_toldAt X.l X.N M x1 x4 ev8) rfl mw_X11_toldAt wd_1235 rfl rfl rfl rfl rfl rfl rfl dX11_unlike_57 (fun z9 => ?_)
  refine a_icmp_eq (pc := 60) C 66 dX11_unlike_60 rfl (fun c10 => ?_) (fun c10 => ?_)
  · replace h := iteT c10 h
    refine a_iinc (pc := 66) C 4 (x4 + 1) [(4, .int (x4 + 1)), (0, .ref (X.N.2.1 66)), (1, .int x1), (2, .int x2), (3, .int x3)] dX11_unlike_66 rfl rfl (nlt eL rfl) rfl ?_
    refine a_goto (pc := 69) C 14 dX11_unlike_69 rfl ?_
    refine a_sub [1, 2, 3, 4, 0] rfl ?_
    exact ih M x3 (x4 + 1) h
  · replace h := iteF c10 h
    refine a_iload (pc := 63) C dX11_unlike_63 4 rfl ?_
    refine a_istore_n (pc := 65) C [(3, .int x4), (0, .ref (X.N.2.1 66)), (1, .int x1), (2, .int x2), (4, .int x4)] dX11_unlike_65 rfl (nlt eL rfl) rfl ?_
    refine a_iinc (pc := 66) C 4 (x4 + 1) [(4, .int (x4 + 1)), (3, .int x4), (0, .ref (X.N.2.1 66)), (1, .int x1), (2, .int x2)] dX11_unlike_66 rfl rfl (nlt eL rfl) rfl ?_
    refine a_goto (pc := 69) C 14 dX11_unlike_69 rfl ?_
    refine a_sub [2, 3, 4, 1, 0] rfl ?_
    exact ih M x4 (x4 + 1) h
set_option maxHeartbeats 200000 in
set_option maxRecDepth 100000 in
theorem ok_fMd_unlike_L14 {X : Amb} (eL : X.nL = 5) (C : Cx X RX11 cX11_unlike 5) (x1 : Int32) (x2 : Int32) (o : Mem × Int32) (K : WA X o.1 [(0, .ref (X.N.2.1 66)), (3, .int o.2)] 72 []) : ∀ (n : Nat) (M : Mem) (x3 : Int32) (x4 : Int32), fMd_unlike_L14 n M x1 x2 x3 x4 = some o → WA X M [(0, .ref (X.N.2.1 66)), (1, .int x1), (2, .int x2), (3, .int x3), (4, .int x4)] 14 [] := by
  intro n
  induction n with
  | zero => intro _ _ _ h; cases h
  | succ n ih =>
    intro M x3 x4 h
    replace h : fMd_unlike_L14_F (fMd_unlike_L14 n) M x1 x2 x3 x4 = some o := h
    unfold fMd_unlike_L14_F at h
    refine a_iload (pc := 14) C dX11_unlike_14 4 rfl ?_
    refine a_aload_n (pc := 16) C dX11_unlike_16 rfl 0 rfl ?_
    refine gf_11_37 (pc := 17) C wd_1114 dX11_unlike_17 ?_
    refine a_iload_n (pc := 20) C dX11_unlike_20 rfl 1 rfl ?_
    obtain ⟨v2, ev2, h⟩ := bndS h
    refine a_iald (pc := 21) C rfl ev2 dX11_unlike_21 ?_
    refine a_icmp_ge (pc := 22) C 72 dX11_unlike_22 rfl (fun c3 => ?_) (fun c3 => ?_)
    · replace h := iteT c3 h
      refine a_sub (lv2 := [(0, .ref (X.N.2.1 66)), (3, .int x3)]) [0, 3] rfl ?_
      cases somI h
      exact K
    · replace h := iteF c3 h
      refine a_iload (pc := 25) C dX11_unlike_25 4 rfl ?_
      refine a_bipush (pc := 27) C 49 dX11_unlike_27 rfl ?_
      refine a_icmp_ge (pc := 29) C 72 dX11_unlike_29 rfl (fun c4 => ?_) (fun c4 => ?_)
      · replace h := iteT c4 h
        refine a_sub (lv2 := [(0, .ref (X.N.2.1 66)), (3, .int x3)]) [0, 3] rfl ?_
        cases somI h
        exact K
      · replace h := iteF c4 h
        refine a_iload_n (pc := 32) C dX11_unlike_32 rfl 3 rfl ?_
        refine a_bipush (pc := 33) C (-2) dX11_unlike_33 rfl ?_
        refine a_icmp_ne (pc := 35) C 72 dX11_unlike_35 rfl (fun c5 => ?_) (fun c5 => ?_)
        · replace h := iteT c5 h
          refine a_sub (lv2 := [(0, .ref (X.N.2.1 66)), (3, .int x3)]) [0, 3] rfl ?_
          cases somI h
          exact K
        · replace h := iteF c5 h
          refine a_iload (pc := 38) C dX11_unlike_38 4 rfl ?_
          refine a_if_le (pc := 40) C 47 dX11_unlike_40 rfl (fun c6 => ?_) (fun c6 => ?_)
          · replace h := iteT c6 h
            refine a_sub (lv2 := [(0, .ref (X.N.2.1 66)), (1, .int x1), (2, .int x2), (3, .int x3), (4, .int x4)]) [0, 1, 2, 3, 4] rfl ?_
            exact ok_fMd_unlike_J47_14 eL C x1 x2 o K _ ih M x3 x4 h
          · replace h := iteF c6 h
            refine a_aload_n (pc := 43) C dX11_unlike_43 rfl 0 rfl ?_
            obtain ⟨q11, eq11, h⟩ := bndS h
            refine a_callVV (pc := 44) C [] (ok_fMd_passes X.l X.N M eq11) rfl mw_X11_passes wd_1376 rfl rfl rfl rfl rfl rfl rfl dX11_unlike_44 ?_
            refine a_sub (lv2 := [(0, .ref (X.N.2.1 66)), (1, .int x1), (2, .int x2), (3, .int x3), (4, .int x4)]) [0, 1, 2, 3, 4] rfl ?_
            exact ok_fMd_unlike_J47_14 eL C x1 x2 o K _ ih q11 x3 x4 h
set_option maxHeartbeats 200000 in
set_option maxRecDepth 100000 in
theorem ok_fMd_unlike (l : Launch) (N : Rig) (M : Mem) (x1 : Int32) (x2 : Int32) {r : Int32} {M0 : Mem} (h : fMd_unlike M x1 x2 = some (r, M0)) : Ct l N yX11_unlike cX11_unlike 5 (some .int) 5 [.ref (N.2.1 66), .int x1, .int x2] M (QcI N (some .int) r M0) := by
  refine ct_of (by decide) rfl ?_
  intro X el eN eL C E
  subst el
  subst eN
  unfold fMd_unlike at h
  show WA X M [(0, .ref (X.N.2.1 66)), (1, .int x1), (2, .int x2)] 0 []
  refine a_aload_n (pc := 0) C dX11_unlike_0 rfl 0 rfl ?_
  refine a_aload_n (pc := 1) C dX11_unlike_1 rfl 0 rfl ?_
  refine gf_11_42 (pc := 2) C wd_1119 dX11_unlike_2 ?_
  obtain ⟨q1, eq1, h⟩ := bndS h
  refine a_callVV (pc := 5) C [.ref (X.N.2.1 92)] (ok_fMd_keeps X.l X.N M 92 kp92 eq1) rfl mw_X11_keeps wd_1368 rfl rfl rfl rfl rfl rfl rfl dX11_unlike_5 ?_
  refine a_bipush (pc := 8) C (-2) dX11_unlike_8 rfl ?_
  refine a_istore_n (pc := 10) C [(3, .int (-2)), (0, .ref (X.N.2.1 66)), (1, .int x1), (2, .int x2)] dX11_unlike_10 rfl (nlt eL rfl) rfl ?_
  refine a_iconst (pc := 11) C 0 dX11_unlike_11 rfl ?_
  refine a_istore (pc := 12) C [(4, .int 0), (3, .int (-2)), (0, .ref (X.N.2.1 66)), (1, .int x1), (2, .int x2)] dX11_unlike_12 (nlt eL rfl) rfl ?_
  refine a_sub (lv2 := [(0, .ref (X.N.2.1 66)), (1, .int x1), (2, .int x2), (3, .int (-2)), (4, .int 0)]) [2, 3, 4, 1, 0] rfl ?_
  obtain ⟨o12, eo12, h⟩ := bndS h
  refine ok_fMd_unlike_L14 eL C x1 x2 o12 ?_ FU q1 (-2) 0 eo12
  refine a_aload_n (pc := 72) C dX11_unlike_72 rfl 0 rfl ?_
  refine a_aload_n (pc := 73) C dX11_unlike_73 rfl 0 rfl ?_
  refine gf_11_42 (pc := 74) C wd_1119 dX11_unlike_74 ?_
  obtain ⟨q13, eq13, h⟩ := bndS h
  refine a_callVV (pc := 77) C [.ref (X.N.2.1 92)] (ok_fMd_laysBack X.l X.N o12.1 92 kp92 eq13) rfl mw_X11_laysBack wd_1384 rfl rfl rfl rfl rfl rfl rfl dX11_unlike_77 ?_
  refine a_iload_n (pc := 80) C dX11_unlike_80 rfl 1 rfl ?_
  exact a_iret (pc := 81) C E rfl (som1 h) (som2 h) dX11_unlike_81
set_option maxHeartbeats 200000 in
set_option maxRecDepth 100000 in
theorem ok_fMd_judge (l : Launch) (N : Rig) (M : Mem) (x1 : Int32) (x2 : Int32) {r : Int32} {M0 : Mem} (h : fMd_judge M x1 x2 = some (r, M0)) : Ct l N yX11_judge cX11_judge 4 (some .int) 6 [.ref (N.2.1 66), .int x1, .int x2] M (QcI N (some .int) r M0) := by
  refine ct_of (by decide) rfl ?_
  intro X el eN eL C E
  subst el
  subst eN
  unfold fMd_judge at h
  show WA X M [(0, .ref (X.N.2.1 66)), (1, .int x1), (2, .int x2)] 0 []
  refine a_iload_n (pc := 0) C dX11_judge_0 rfl 1 rfl ?_
  refine a_callSI (pc := 1) C [.int x1] (ok_fMd_isShelf X.l X.N M x1) rfl mw_X11_isShelf wd_1231 rfl rfl rfl dX11_judge_1 (fun z1 => ?_)
  refine a_if_eq (pc := 4) C 14 dX11_judge_4 rfl (fun c2 => ?_) (fun c2 => ?_)
  · replace h := iteT c2 h
    refine a_iconst (pc := 14) C (-1) dX11_judge_14 rfl ?_
    exact a_iret (pc := 15) C E rfl (som1 h) (som2 h) dX11_judge_15
  · replace h := iteF c2 h
    refine a_iload_n (pc := 7) C dX11_judge_7 rfl 2 rfl ?_
    refine a_callSI (pc := 8) C [.int x2] (ok_fMd_isCell X.l X.N M x2) rfl mw_X11_isCell wd_1217 rfl rfl rfl dX11_judge_8 (fun z3 => ?_)
    refine a_if_ne (pc := 11) C 16 dX11_judge_11 rfl (fun c4 => ?_) (fun c4 => ?_)
    · replace h := iteT c4 h
      refine a_aload_n (pc := 16) C dX11_judge_16 rfl 0 rfl ?_
      refine a_iload_n (pc := 17) C dX11_judge_17 rfl 1 rfl ?_
      obtain ⟨v5, ev5, h⟩ := bndS h
      refine a_callVI (pc := 18) C [.int x1] (ok_fMd_noShorts X.l X.N M x1 ev5) rfl mw_X11_noShorts wd_1458 rfl rfl rfl rfl rfl rfl rfl dX11_judge_18 (fun z6 => ?_)
      refine a_istore_n (pc := 21) C [(3, .int v5), (0, .ref (X.N.2.1 66)), (1, .int x1), (2, .int x2)] dX11_judge_21 rfl (nlt eL rfl) rfl ?_
      refine a_iload_n (pc := 22) C dX11_judge_22 rfl 0 rfl ?_
      refine a_if_ge (pc := 23) C 30 dX11_judge_23 rfl (fun c7 => ?_) (fun c7 => ?_)
      · replace h := iteT c7 h
        refine a_aload_n (pc := 30) C dX11_judge_30 rfl 1 rfl ?_
        refine a_iload_n (pc := 31) C dX11_judge_31 rfl 2 rfl ?_
        refine a_iload_n (pc := 32) C dX11_judge_32 rfl 3 rfl ?_
        obtain ⟨q8, eq8, h⟩ := bndS h
        refine a_callVI (pc := 33) C [.int x1, .int x2] (ok_fMd_unlike X.l X.N M x1 x2 eq8) rfl mw_X11_unlike wd_1462 rfl rfl rfl rfl rfl rfl rfl dX11_judge_33 (fun z9 => ?_)
        exact a_iret (pc := 36) C E rfl (som1 h) (som2 h) dX11_judge_36
      · replace h := iteF c7 h
        refine a_iload_n (pc := 26) C dX11_judge_26 rfl 0 rfl ?_
        refine a_goto (pc := 27) C 36 dX11_judge_27 rfl ?_
        exact a_iret (pc := 36) C E rfl (som1 h) (som2 h) dX11_judge_36
    · replace h := iteF c4 h
      refine a_iconst (pc := 14) C (-1) dX11_judge_14 rfl ?_
      exact a_iret (pc := 15) C E rfl (som1 h) (som2 h) dX11_judge_15
set_option maxHeartbeats 200000 in
set_option maxRecDepth 100000 in
theorem ok_fMd_under_L14 {X : Amb} (eL : X.nL = 7) (C : Cx X RX11 cX11_under 6) (x4 : Int32) (x1 : Int32) (x2 : Int32) (x3 : Int32) (o : Mem × Int32) (K : WA X o.1 [(0, .ref (X.N.2.1 66)), (3, .int x3), (4, .int x4), (5, .int o.2)] 54 []) : ∀ (n : Nat) (M : Mem) (x5 : Int32) (x6 : Int32), fMd_under_L14 n M x1 x2 x3 x5 x6 = some o → WA X M [(0, .ref (X.N.2.1 66)), (1, .int x1), (2, .int x2), (3, .int x3), (4, .int x4), (5, .int x5), (6, .int x6)] 14 [] := by
  intro n
  induction n with
  | zero => intro _ _ _ h; cases h
  | succ n ih =>
    intro M x5 x6 h
    replace h : fMd_under_L14_F (fMd_under_L14 n) M x1 x2 x3 x5 x6 = some o := h
    unfold fMd_under_L14_F at h
    refine a_iload (pc := 14) C dX11_under_14 6 rfl ?_
    refine a_iconst (pc := 16) C 3 dX11_under_16 rfl ?_
    refine a_icmp_ge (pc := 17) C 54 dX11_under_17 rfl (fun c2 => ?_) (fun c2 => ?_)
    · replace h := iteT c2 h
      refine a_sub (lv2 := [(0, .ref (X.N.2.1 66)), (3, .int x3), (4, .int x4), (5, .int x5)]) [0, 3, 4, 5] rfl ?_
      cases somI h
      exact K
    · replace h := iteF c2 h
      refine a_aload_n (pc := 20) C dX11_under_20 rfl 0 rfl ?_
      refine gf_11_2 (pc := 21) C wd_1079 dX11_under_21 ?_
      refine a_iload_n (pc := 24) C dX11_under_24 rfl 3 rfl ?_
      refine a_iload (pc := 25) C dX11_under_25 6 rfl ?_
      obtain ⟨M3, eM3, h⟩ := bndS h
      refine a_iast (pc := 27) C rfl eM3 dX11_under_27 ?_
      refine a_aload_n (pc := 28) C dX11_under_28 rfl 0 rfl ?_
      refine a_iload_n (pc := 29) C dX11_under_29 rfl 1 rfl ?_
      refine a_iload_n (pc := 30) C dX11_under_30 rfl 2 rfl ?_
      obtain ⟨q4, eq4, h⟩ := bndS h
      refine a_callVI (pc := 31) C [.int x1, .int x2] (ok_fMd_unlike X.l X.N M3 x1 x2 eq4) rfl mw_X11_unlike wd_1462 rfl rfl rfl rfl rfl rfl rfl dX11_under_31 (fun z5 => ?_)
      refine a_bipush (pc := 34) C (-2) dX11_under_34 rfl ?_
      refine a_icmp_ne (pc := 36) C 48 dX11_under_36 rfl (fun c6 => ?_) (fun c6 => ?_)
      · replace h := iteT c6 h
        refine a_iinc (pc := 48) C 6 (x6 + 1) [(6, .int (x6 + 1)), (0, .ref (X.N.2.1 66)), (1, .int x1), (2, .int x2), (3, .int x3), (4, .int x4), (5, .int x5)] dX11_under_48 rfl rfl (nlt eL rfl) rfl ?_
        refine a_goto (pc := 51) C 14 dX11_under_51 rfl ?_
        refine a_sub [1, 2, 3, 4, 5, 6, 0] rfl ?_
        exact ih q4.2 x5 (x6 + 1) h
      · replace h := iteF c6 h
        refine a_iload (pc := 39) C dX11_under_39 5 rfl ?_
        refine a_iconst (pc := 41) C 1 dX11_under_41 rfl ?_
        refine a_iload (pc := 42) C dX11_under_42 6 rfl ?_
        refine a_ishl (pc := 44) C dX11_under_44 ?_
        refine a_ior (pc := 45) C dX11_under_45 ?_
        refine a_istore (pc := 46) C [(5, .int (x5 ||| (slI 1 x6))), (0, .ref (X.N.2.1 66)), (1, .int x1), (2, .int x2), (3, .int x3), (4, .int x4), (6, .int x6)] dX11_under_46 (nlt eL rfl) rfl ?_
        refine a_iinc (pc := 48) C 6 (x6 + 1) [(6, .int (x6 + 1)), (5, .int (x5 ||| (slI 1 x6))), (0, .ref (X.N.2.1 66)), (1, .int x1), (2, .int x2), (3, .int x3), (4, .int x4)] dX11_under_48 rfl rfl (nlt eL rfl) rfl ?_
        refine a_goto (pc := 51) C 14 dX11_under_51 rfl ?_
        refine a_sub [2, 3, 4, 5, 6, 1, 0] rfl ?_
        exact ih q4.2 (x5 ||| (slI 1 x6)) (x6 + 1) h
set_option maxHeartbeats 200000 in
set_option maxRecDepth 100000 in
theorem ok_fMd_under (l : Launch) (N : Rig) (M : Mem) (x1 : Int32) (x2 : Int32) (x3 : Int32) {r : Int32} {M0 : Mem} (h : fMd_under M x1 x2 x3 = some (r, M0)) : Ct l N yX11_under cX11_under 7 (some .int) 6 [.ref (N.2.1 66), .int x1, .int x2, .int x3] M (QcI N (some .int) r M0) := by
  refine ct_of (by decide) rfl ?_
  intro X el eN eL C E
  subst el
  subst eN
  unfold fMd_under at h
  show WA X M [(0, .ref (X.N.2.1 66)), (1, .int x1), (2, .int x2), (3, .int x3)] 0 []
  refine a_aload_n (pc := 0) C dX11_under_0 rfl 0 rfl ?_
  refine gf_11_2 (pc := 1) C wd_1079 dX11_under_1 ?_
  refine a_iload_n (pc := 4) C dX11_under_4 rfl 3 rfl ?_
  obtain ⟨v1, ev1, h⟩ := bndS h
  refine a_iald (pc := 5) C rfl ev1 dX11_under_5 ?_
  refine a_istore (pc := 6) C [(4, .int v1), (0, .ref (X.N.2.1 66)), (1, .int x1), (2, .int x2), (3, .int x3)] dX11_under_6 (nlt eL rfl) rfl ?_
  refine a_iconst (pc := 8) C 0 dX11_under_8 rfl ?_
  refine a_istore (pc := 9) C [(5, .int 0), (4, .int v1), (0, .ref (X.N.2.1 66)), (1, .int x1), (2, .int x2), (3, .int x3)] dX11_under_9 (nlt eL rfl) rfl ?_
  refine a_iconst (pc := 11) C 0 dX11_under_11 rfl ?_
  refine a_istore (pc := 12) C [(6, .int 0), (5, .int 0), (4, .int v1), (0, .ref (X.N.2.1 66)), (1, .int x1), (2, .int x2), (3, .int x3)] dX11_under_12 (nlt eL rfl) rfl ?_
  refine a_sub (lv2 := [(0, .ref (X.N.2.1 66)), (1, .int x1), (2, .int x2), (3, .int x3), (4, .int v1), (5, .int 0), (6, .int 0)]) [3, 4, 5, 6, 2, 1, 0] rfl ?_
  obtain ⟨o7, eo7, h⟩ := bndS h
  refine ok_fMd_under_L14 eL C v1 x1 x2 x3 o7 ?_ FU M 0 0 eo7
  refine a_aload_n (pc := 54) C dX11_under_54 rfl 0 rfl ?_
  refine gf_11_2 (pc := 55) C wd_1079 dX11_under_55 ?_
  refine a_iload_n (pc := 58) C dX11_under_58 rfl 1 rfl ?_
  refine a_iload (pc := 59) C dX11_under_59 2 rfl ?_
  obtain ⟨M8, eM8, h⟩ := bndS h
  refine a_iast (pc := 61) C rfl eM8 dX11_under_61 ?_
  refine a_iload (pc := 62) C dX11_under_62 3 rfl ?_
  exact a_iret (pc := 64) C E rfl (som1 h) (som2 h) dX11_under_64
set_option maxHeartbeats 200000 in
set_option maxRecDepth 100000 in
theorem ok_fMd_atFirst_L19 {X : Amb} (eL : X.nL = 9) (C : Cx X RX11 cX11_atFirst 6) (x4 : Int32) (x5 : Int32) (x1 : Int32) (x2 : Int32) (x3 : Int32) (o : Mem × Int32 × Int32) (K : WA X o.1 [(0, .ref (X.N.2.1 66)), (3, .int x3), (4, .int x4), (5, .int x5), (6, .int o.2.1), (7, .int o.2.2)] 59 []) : ∀ (n : Nat) (M : Mem) (x6 : Int32) (x7 : Int32) (x8 : Int32), fMd_atFirst_L19 n M x1 x2 x3 x6 x7 x8 = some o → WA X M [(0, .ref (X.N.2.1 66)), (1, .int x1), (2, .int x2), (3, .int x3), (4, .int x4), (5, .int x5), (6, .int x6), (7, .int x7), (8, .int x8)] 19 [] := by
  intro n
  induction n with
  | zero => intro _ _ _ _ h; cases h
  | succ n ih =>
    intro M x6 x7 x8 h
    replace h : fMd_atFirst_L19_F (fMd_atFirst_L19 n) M x1 x2 x3 x6 x7 x8 = some o := h
    unfold fMd_atFirst_L19_F at h
    refine a_iload (pc := 19) C dX11_atFirst_19 8 rfl ?_
    refine a_if_lt (pc := 21) C 59 dX11_atFirst_21 rfl (fun c2 => ?_) (fun c2 => ?_)
    · replace h := iteT c2 h
      refine a_sub (lv2 := [(0, .ref (X.N.2.1 66)), (3, .int x3), (4, .int x4), (5, .int x5), (6, .int x6), (7, .int x7)]) [0, 3, 4, 5, 6, 7] rfl ?_
      cases somI h
      exact K
    · replace h := iteF c2 h
      refine a_aload_n (pc := 24) C dX11_atFirst_24 rfl 0 rfl ?_
      refine gf_11_1 (pc := 25) C wd_1078 dX11_atFirst_25 ?_
      refine a_iload_n (pc := 28) C dX11_atFirst_28 rfl 3 rfl ?_
      refine a_iload (pc := 29) C dX11_atFirst_29 8 rfl ?_
      obtain ⟨M3, eM3, h⟩ := bndS h
      refine a_iast (pc := 31) C rfl eM3 dX11_atFirst_31 ?_
      refine a_aload_n (pc := 32) C dX11_atFirst_32 rfl 0 rfl ?_
      refine a_iload_n (pc := 33) C dX11_atFirst_33 rfl 1 rfl ?_
      refine a_iload_n (pc := 34) C dX11_atFirst_34 rfl 2 rfl ?_
      obtain ⟨q4, eq4, h⟩ := bndS h
      refine a_callVI (pc := 35) C [.int x1, .int x2] (ok_fMd_unlike X.l X.N M3 x1 x2 eq4) rfl mw_X11_unlike wd_1462 rfl rfl rfl rfl rfl rfl rfl dX11_atFirst_35 (fun z5 => ?_)
      refine a_bipush (pc := 38) C (-2) dX11_atFirst_38 rfl ?_
      refine a_icmp_eq (pc := 40) C 46 dX11_atFirst_40 rfl (fun c6 => ?_) (fun c6 => ?_)
      · replace h := iteT c6 h
        refine a_iinc (pc := 46) C 6 (x6 + 1) [(6, .int (x6 + 1)), (0, .ref (X.N.2.1 66)), (1, .int x1), (2, .int x2), (3, .int x3), (4, .int x4), (5, .int x5), (7, .int x7), (8, .int x8)] dX11_atFirst_46 rfl rfl (nlt eL rfl) rfl ?_
        refine a_iload (pc := 49) C dX11_atFirst_49 8 rfl ?_
        refine a_istore (pc := 51) C [(7, .int x8), (6, .int (x6 + 1)), (0, .ref (X.N.2.1 66)), (1, .int x1), (2, .int x2), (3, .int x3), (4, .int x4), (5, .int x5), (8, .int x8)] dX11_atFirst_51 (nlt eL rfl) rfl ?_
        refine a_iinc (pc := 53) C 8 (x8 + (-1)) [(8, .int (x8 + (-1))), (7, .int x8), (6, .int (x6 + 1)), (0, .ref (X.N.2.1 66)), (1, .int x1), (2, .int x2), (3, .int x3), (4, .int x4), (5, .int x5)] dX11_atFirst_53 rfl rfl (nlt eL rfl) rfl ?_
        refine a_goto (pc := 56) C 19 dX11_atFirst_56 rfl ?_
        refine a_sub [3, 4, 5, 6, 7, 8, 2, 1, 0] rfl ?_
        exact ih q4.2 (x6 + 1) x8 (x8 + (-1)) h
      · replace h := iteF c6 h
        refine a_goto (pc := 43) C 53 dX11_atFirst_43 rfl ?_
        refine a_iinc (pc := 53) C 8 (x8 + (-1)) [(8, .int (x8 + (-1))), (0, .ref (X.N.2.1 66)), (1, .int x1), (2, .int x2), (3, .int x3), (4, .int x4), (5, .int x5), (6, .int x6), (7, .int x7)] dX11_atFirst_53 rfl rfl (nlt eL rfl) rfl ?_
        refine a_goto (pc := 56) C 19 dX11_atFirst_56 rfl ?_
        refine a_sub [1, 2, 3, 4, 5, 6, 7, 8, 0] rfl ?_
        exact ih q4.2 x6 x7 (x8 + (-1)) h
set_option maxHeartbeats 200000 in
set_option maxRecDepth 100000 in
theorem ok_fMd_atFirst (l : Launch) (N : Rig) (M : Mem) (x1 : Int32) (x2 : Int32) (x3 : Int32) (x4 : Int32) {r : Int32} {M0 : Mem} (h : fMd_atFirst M x1 x2 x3 x4 = some (r, M0)) : Ct l N yX11_atFirst cX11_atFirst 9 (some .int) 6 [.ref (N.2.1 66), .int x1, .int x2, .int x3, .int x4] M (QcI N (some .int) r M0) := by
  refine ct_of (by decide) rfl ?_
  intro X el eN eL C E
  subst el
  subst eN
  unfold fMd_atFirst at h
  show WA X M [(0, .ref (X.N.2.1 66)), (1, .int x1), (2, .int x2), (3, .int x3), (4, .int x4)] 0 []
  refine a_aload_n (pc := 0) C dX11_atFirst_0 rfl 0 rfl ?_
  refine gf_11_1 (pc := 1) C wd_1078 dX11_atFirst_1 ?_
  refine a_iload_n (pc := 4) C dX11_atFirst_4 rfl 3 rfl ?_
  obtain ⟨v1, ev1, h⟩ := bndS h
  refine a_iald (pc := 5) C rfl ev1 dX11_atFirst_5 ?_
  refine a_istore (pc := 6) C [(5, .int v1), (0, .ref (X.N.2.1 66)), (1, .int x1), (2, .int x2), (3, .int x3), (4, .int x4)] dX11_atFirst_6 (nlt eL rfl) rfl ?_
  refine a_iconst (pc := 8) C 0 dX11_atFirst_8 rfl ?_
  refine a_istore (pc := 9) C [(6, .int 0), (5, .int v1), (0, .ref (X.N.2.1 66)), (1, .int x1), (2, .int x2), (3, .int x3), (4, .int x4)] dX11_atFirst_9 (nlt eL rfl) rfl ?_
  refine a_bipush (pc := 11) C (-2) dX11_atFirst_11 rfl ?_
  refine a_istore (pc := 13) C [(7, .int (-2)), (6, .int 0), (5, .int v1), (0, .ref (X.N.2.1 66)), (1, .int x1), (2, .int x2), (3, .int x3), (4, .int x4)] dX11_atFirst_13 (nlt eL rfl) rfl ?_
  refine a_bipush (pc := 15) C 99 dX11_atFirst_15 rfl ?_
  refine a_istore (pc := 17) C [(8, .int 99), (7, .int (-2)), (6, .int 0), (5, .int v1), (0, .ref (X.N.2.1 66)), (1, .int x1), (2, .int x2), (3, .int x3), (4, .int x4)] dX11_atFirst_17 (nlt eL rfl) rfl ?_
  refine a_sub (lv2 := [(0, .ref (X.N.2.1 66)), (1, .int x1), (2, .int x2), (3, .int x3), (4, .int x4), (5, .int v1), (6, .int 0), (7, .int (-2)), (8, .int 99)]) [4, 5, 6, 7, 8, 3, 2, 1, 0] rfl ?_
  obtain ⟨o7, eo7, h⟩ := bndS h
  refine ok_fMd_atFirst_L19 eL C x4 v1 x1 x2 x3 o7 ?_ FU M 0 (-2) 99 eo7
  refine a_aload_n (pc := 59) C dX11_atFirst_59 rfl 0 rfl ?_
  refine gf_11_1 (pc := 60) C wd_1078 dX11_atFirst_60 ?_
  refine a_iload_n (pc := 63) C dX11_atFirst_63 rfl 1 rfl ?_
  refine a_iload (pc := 64) C dX11_atFirst_64 3 rfl ?_
  obtain ⟨M8, eM8, h⟩ := bndS h
  refine a_iast (pc := 66) C rfl eM8 dX11_atFirst_66 ?_
  refine a_iload (pc := 67) C dX11_atFirst_67 2 rfl ?_
  refine a_iconst (pc := 69) C 1 dX11_atFirst_69 rfl ?_
  refine a_icmp_ne (pc := 70) C 78 dX11_atFirst_70 rfl (fun c9 => ?_) (fun c9 => ?_)
  · replace h := iteT c9 h
    refine a_iload (pc := 78) C dX11_atFirst_78 5 rfl ?_
    exact a_iret (pc := 80) C E rfl (som1 h) (som2 h) dX11_atFirst_80
  · replace h := iteF c9 h
    refine a_iload (pc := 73) C dX11_atFirst_73 4 rfl ?_
    refine a_goto (pc := 75) C 80 dX11_atFirst_75 rfl ?_
    exact a_iret (pc := 80) C E rfl (som1 h) (som2 h) dX11_atFirst_80
set_option maxHeartbeats 200000 in
set_option maxRecDepth 100000 in
theorem ok_fMd_seen (l : Launch) (N : Rig) (M : Mem) (x1 : Int32) (x2 : Int32) (x3 : Int32) {r : Int32} {M0 : Mem} (h : fMd_seen M x1 x2 x3 = some (r, M0)) : Ct l N yX11_seen cX11_seen 5 (some .int) 7 [.ref (N.2.1 66), .int x1, .int x2, .int x3] M (QcI N (some .int) r M0) := by
  refine ct_of (by decide) rfl ?_
  intro X el eN eL C E
  subst el
  subst eN
  unfold fMd_seen at h
  show WA X M [(0, .ref (X.N.2.1 66)), (1, .int x1), (2, .int x2), (3, .int x3)] 0 []
  refine a_iload_n (pc := 0) C dX11_seen_0 rfl 1 rfl ?_
  refine a_callSI (pc := 1) C [.int x1] (ok_fMd_isShelf X.l X.N M x1) rfl mw_X11_isShelf wd_1231 rfl rfl rfl dX11_seen_1 (fun z1 => ?_)
  refine a_if_eq (pc := 4) C 40 dX11_seen_4 rfl (fun c2 => ?_) (fun c2 => ?_)
  · replace h := iteT c2 h
    refine a_iconst (pc := 40) C (-1) dX11_seen_40 rfl ?_
    exact a_iret (pc := 41) C E rfl (som1 h) (som2 h) dX11_seen_41
  · replace h := iteF c2 h
    refine a_iload_n (pc := 7) C dX11_seen_7 rfl 2 rfl ?_
    refine a_if_lt (pc := 8) C 40 dX11_seen_8 rfl (fun c3 => ?_) (fun c3 => ?_)
    · replace h := iteT c3 h
      refine a_iconst (pc := 40) C (-1) dX11_seen_40 rfl ?_
      exact a_iret (pc := 41) C E rfl (som1 h) (som2 h) dX11_seen_41
    · replace h := iteF c3 h
      refine a_iload_n (pc := 11) C dX11_seen_11 rfl 2 rfl ?_
      refine a_bipush (pc := 12) C 100 dX11_seen_12 rfl ?_
      refine a_idiv (pc := 14) C dX11_seen_14 (by decide) ?_
      refine a_callSI (pc := 15) C [.int (x2 / 100)] (ok_fMd_isCell X.l X.N M (x2 / 100)) rfl mw_X11_isCell wd_1217 rfl rfl rfl dX11_seen_15 (fun z4 => ?_)
      refine a_if_eq (pc := 18) C 40 dX11_seen_18 rfl (fun c5 => ?_) (fun c5 => ?_)
      · replace h := iteT c5 h
        refine a_iconst (pc := 40) C (-1) dX11_seen_40 rfl ?_
        exact a_iret (pc := 41) C E rfl (som1 h) (som2 h) dX11_seen_41
      · replace h := iteF c5 h
        refine a_iload_n (pc := 21) C dX11_seen_21 rfl 2 rfl ?_
        refine a_bipush (pc := 22) C 100 dX11_seen_22 rfl ?_
        refine a_irem (pc := 24) C dX11_seen_24 (by decide) ?_
        refine a_callSI (pc := 25) C [.int (rmI x2 100)] (ok_fMd_isCell X.l X.N M (rmI x2 100)) rfl mw_X11_isCell wd_1217 rfl rfl rfl dX11_seen_25 (fun z6 => ?_)
        refine a_if_eq (pc := 28) C 40 dX11_seen_28 rfl (fun c7 => ?_) (fun c7 => ?_)
        · replace h := iteT c7 h
          refine a_iconst (pc := 40) C (-1) dX11_seen_40 rfl ?_
          exact a_iret (pc := 41) C E rfl (som1 h) (som2 h) dX11_seen_41
        · replace h := iteF c7 h
          refine a_iload_n (pc := 31) C dX11_seen_31 rfl 3 rfl ?_
          refine a_iconst (pc := 32) C 0 dX11_seen_32 rfl ?_
          refine a_iconst (pc := 33) C 2 dX11_seen_33 rfl ?_
          refine a_callSI (pc := 34) C [.int x3, .int 0, .int 2] (ok_fMd_within X.l X.N M x3 0 2) rfl mw_X11_within wd_1220 rfl rfl rfl dX11_seen_34 (fun z8 => ?_)
          refine a_if_ne (pc := 37) C 42 dX11_seen_37 rfl (fun c9 => ?_) (fun c9 => ?_)
          · replace h := iteT c9 h
            refine a_aload_n (pc := 42) C dX11_seen_42 rfl 0 rfl ?_
            refine a_iload_n (pc := 43) C dX11_seen_43 rfl 1 rfl ?_
            obtain ⟨v10, ev10, h⟩ := bndS h
            refine a_callVI (pc := 44) C [.int x1] (ok_fMd_noShorts X.l X.N M x1 ev10) rfl mw_X11_noShorts wd_1458 rfl rfl rfl rfl rfl rfl rfl dX11_seen_44 (fun z11 => ?_)
            refine a_istore (pc := 47) C [(4, .int v10), (0, .ref (X.N.2.1 66)), (1, .int x1), (2, .int x2), (3, .int x3)] dX11_seen_47 (nlt eL rfl) rfl ?_
            refine a_iload (pc := 49) C dX11_seen_49 0 rfl ?_
            refine a_if_ge (pc := 51) C 57 dX11_seen_51 rfl (fun c12 => ?_) (fun c12 => ?_)
            · replace h := iteT c12 h
              refine a_iload_n (pc := 57) C dX11_seen_57 rfl 4 rfl ?_
              refine a_if_ne (pc := 58) C 77 dX11_seen_58 rfl (fun c13 => ?_) (fun c13 => ?_)
              · replace h := iteT c13 h
                refine a_aload_n (pc := 77) C dX11_seen_77 rfl 1 rfl ?_
                refine a_iload_n (pc := 78) C dX11_seen_78 rfl 2 rfl ?_
                refine a_iload_n (pc := 79) C dX11_seen_79 rfl 3 rfl ?_
                refine a_bipush (pc := 80) C 100 dX11_seen_80 rfl ?_
                refine a_idiv (pc := 82) C dX11_seen_82 (by decide) ?_
                refine a_iload_n (pc := 83) C dX11_seen_83 rfl 3 rfl ?_
                refine a_bipush (pc := 84) C 100 dX11_seen_84 rfl ?_
                refine a_irem (pc := 86) C dX11_seen_86 (by decide) ?_
                refine a_iload_n (pc := 87) C dX11_seen_87 rfl 4 rfl ?_
                obtain ⟨q14, eq14, h⟩ := bndS h
                refine a_callVI (pc := 88) C [.int x1, .int (x2 / 100), .int (rmI x2 100), .int x3] (ok_fMd_atFirst X.l X.N M x1 (x2 / 100) (rmI x2 100) x3 eq14) rfl mw_X11_atFirst wd_1474 rfl rfl rfl rfl rfl rfl rfl dX11_seen_88 (fun z15 => ?_)
                exact a_iret (pc := 91) C E rfl (som1 h) (som2 h) dX11_seen_91
              · replace h := iteF c13 h
                refine a_aload_n (pc := 61) C dX11_seen_61 rfl 1 rfl ?_
                refine a_iload_n (pc := 62) C dX11_seen_62 rfl 2 rfl ?_
                refine a_iload_n (pc := 63) C dX11_seen_63 rfl 3 rfl ?_
                refine a_bipush (pc := 64) C 100 dX11_seen_64 rfl ?_
                refine a_idiv (pc := 66) C dX11_seen_66 (by decide) ?_
                refine a_iload_n (pc := 67) C dX11_seen_67 rfl 3 rfl ?_
                refine a_bipush (pc := 68) C 100 dX11_seen_68 rfl ?_
                refine a_irem (pc := 70) C dX11_seen_70 (by decide) ?_
                obtain ⟨q16, eq16, h⟩ := bndS h
                refine a_callVI (pc := 71) C [.int x1, .int (x2 / 100), .int (rmI x2 100)] (ok_fMd_under X.l X.N M x1 (x2 / 100) (rmI x2 100) eq16) rfl mw_X11_under wd_1470 rfl rfl rfl rfl rfl rfl rfl dX11_seen_71 (fun z17 => ?_)
                refine a_goto (pc := 74) C 91 dX11_seen_74 rfl ?_
                exact a_iret (pc := 91) C E rfl (som1 h) (som2 h) dX11_seen_91
            · replace h := iteF c12 h
              refine a_iload (pc := 54) C dX11_seen_54 0 rfl ?_
              exact a_iret (pc := 56) C E rfl (som1 h) (som2 h) dX11_seen_56
          · replace h := iteF c9 h
            refine a_iconst (pc := 40) C (-1) dX11_seen_40 rfl ?_
            exact a_iret (pc := 41) C E rfl (som1 h) (som2 h) dX11_seen_41
set_option maxHeartbeats 200000 in
set_option maxRecDepth 100000 in
theorem ok_fMd_waysOf_L2 {X : Amb} (eL : X.nL = 3) (C : Cx X RX11 cX11_waysOf 1) (x1 : Int32) (M : Mem) (o : Int32) (K : WA X M [(2, .int o)] 40 []) : ∀ (n : Nat) (x2 : Int32), fMd_waysOf_L2 n M x1 x2 = some o → WA X M [(0, .ref (X.N.2.1 66)), (1, .int x1), (2, .int x2)] 2 [] := by
  intro n
  induction n with
  | zero => intro _ h; cases h
  | succ n ih =>
    intro x2 h
    replace h : fMd_waysOf_L2_F (fMd_waysOf_L2 n) M x1 x2 = some o := h
    unfold fMd_waysOf_L2_F at h
    refine a_iload_n (pc := 2) C dX11_waysOf_2 rfl 2 rfl ?_
    refine a_aload_n (pc := 3) C dX11_waysOf_3 rfl 0 rfl ?_
    refine gf_11_37 (pc := 4) C wd_1114 dX11_waysOf_4 ?_
    refine a_iload_n (pc := 7) C dX11_waysOf_7 rfl 1 rfl ?_
    obtain ⟨v1, ev1, h⟩ := bndS h
    refine a_iald (pc := 8) C rfl ev1 dX11_waysOf_8 ?_
    refine a_icmp_ge (pc := 9) C 40 dX11_waysOf_9 rfl (fun c2 => ?_) (fun c2 => ?_)
    · replace h := iteT c2 h
      refine a_sub (lv2 := [(2, .int x2)]) [2] rfl ?_
      cases somI h
      exact K
    · replace h := iteF c2 h
      refine a_iload_n (pc := 12) C dX11_waysOf_12 rfl 2 rfl ?_
      refine a_bipush (pc := 13) C 6 dX11_waysOf_13 rfl ?_
      refine a_icmp_ge (pc := 15) C 40 dX11_waysOf_15 rfl (fun c3 => ?_) (fun c3 => ?_)
      · replace h := iteT c3 h
        refine a_sub (lv2 := [(2, .int x2)]) [2] rfl ?_
        cases somI h
        exact K
      · replace h := iteF c3 h
        refine a_aload_n (pc := 18) C dX11_waysOf_18 rfl 0 rfl ?_
        refine a_iload_n (pc := 19) C dX11_waysOf_19 rfl 1 rfl ?_
        refine a_iload_n (pc := 20) C dX11_waysOf_20 rfl 2 rfl ?_
        obtain ⟨v4, ev4, h⟩ := bndS h
        refine a_callVI (pc := 21) C [.int x1, .int x2] (ok_fMd_toldAt X.l X.N M x1 x2 ev4) rfl mw_X11_toldAt wd_1235 rfl rfl rfl rfl rfl rfl rfl dX11_waysOf_21 (fun z5 => ?_)
        refine a_iconst (pc := 24) C 1 dX11_waysOf_24 rfl ?_
        refine a_sipush (pc := 25) C 999 dX11_waysOf_25 rfl ?_
        refine a_callSI (pc := 28) C [.int v4, .int 1, .int 999] (ok_fMd_within X.l X.N M v4 1 999) rfl mw_X11_within wd_1220 rfl rfl rfl dX11_waysOf_28 (fun z6 => ?_)
        refine a_if_eq (pc := 31) C 40 dX11_waysOf_31 rfl (fun c7 => ?_) (fun c7 => ?_)
        · replace h := iteT c7 h
          refine a_sub (lv2 := [(2, .int x2)]) [2] rfl ?_
          cases somI h
          exact K
        · replace h := iteF c7 h
          refine a_iinc (pc := 34) C 2 (x2 + 1) [(2, .int (x2 + 1)), (0, .ref (X.N.2.1 66)), (1, .int x1)] dX11_waysOf_34 rfl rfl (nlt eL rfl) rfl ?_
          refine a_goto (pc := 37) C 2 dX11_waysOf_37 rfl ?_
          refine a_sub [1, 2, 0] rfl ?_
          exact ih (x2 + 1) h
set_option maxHeartbeats 200000 in
set_option maxRecDepth 100000 in
theorem ok_fMd_waysOf (l : Launch) (N : Rig) (M : Mem) (x1 : Int32) {r : Int32} (h : fMd_waysOf M x1 = some r) : Ct l N yX11_waysOf cX11_waysOf 3 (some .int) 1 [.ref (N.2.1 66), .int x1] M (QcI N (some .int) r M) := by
  refine ct_of (by decide) rfl ?_
  intro X el eN eL C E
  subst el
  subst eN
  unfold fMd_waysOf at h
  show WA X M [(0, .ref (X.N.2.1 66)), (1, .int x1)] 0 []
  refine a_iconst (pc := 0) C 0 dX11_waysOf_0 rfl ?_
  refine a_istore_n (pc := 1) C [(2, .int 0), (0, .ref (X.N.2.1 66)), (1, .int x1)] dX11_waysOf_1 rfl (nlt eL rfl) rfl ?_
  refine a_sub (lv2 := [(0, .ref (X.N.2.1 66)), (1, .int x1), (2, .int 0)]) [1, 2, 0] rfl ?_
  obtain ⟨o8, eo8, h⟩ := bndS h
  refine ok_fMd_waysOf_L2 eL C x1 M o8 ?_ FU 0 eo8
  refine a_iload_n (pc := 40) C dX11_waysOf_40 rfl 0 rfl ?_
  exact a_iret (pc := 41) C E rfl (somI h) rfl dX11_waysOf_41
set_option maxHeartbeats 200000 in
set_option maxRecDepth 100000 in
theorem ok_fMd_gcd_L6 {X : Amb} (eL : X.nL = 10) (C : Cx X RX11 cX11_gcd 0) (M : Mem) (o : Int64) (K : WA X M [(4, .long o)] 31 []) : ∀ (n : Nat) (y4 : Int64) (y6 : Int64), fMd_gcd_L6 n y4 y6 = some o → WA X M [(4, .long y4), (6, .long y6)] 6 [] := by
  intro n
  induction n with
  | zero => intro _ _ h; cases h
  | succ n ih =>
    intro y4 y6 h
    replace h : fMd_gcd_L6_F (fMd_gcd_L6 n) y4 y6 = some o := h
    unfold fMd_gcd_L6_F at h
    refine a_lload (pc := 6) C dX11_gcd_6 1 rfl ?_
    refine a_lconst (pc := 8) C 0 dX11_gcd_8 rfl ?_
    refine a_lcmp (pc := 9) C dX11_gcd_9 ?_
    refine a_if_eq (pc := 10) C 31 dX11_gcd_10 rfl (fun c1 => ?_) (fun c1 => ?_)
    · replace h := iteT c1 h
      refine a_sub (lv2 := [(4, .long y4)]) [0] rfl ?_
      cases somI h
      exact K
    · replace h := iteF c1 h
      refine a_lload (pc := 13) C dX11_gcd_13 0 rfl ?_
      refine a_lload (pc := 15) C dX11_gcd_15 1 rfl ?_
      obtain ⟨v2, ev2, h⟩ := bndS h
      obtain ⟨nv2, rfl⟩ := rmLo_s ev2
      refine a_lrem (pc := 17) C dX11_gcd_17 nv2 ?_
      refine a_lstore (pc := 18) C [(8, .long (rmL y4 y6)), (4, .long y4), (6, .long y6)] dX11_gcd_18 (nltL eL rfl) rfl ?_
      refine a_lload (pc := 20) C dX11_gcd_20 2 rfl ?_
      refine a_lstore (pc := 22) C [(4, .long y6), (8, .long (rmL y4 y6)), (6, .long y6)] dX11_gcd_22 (nltL eL rfl) rfl ?_
      refine a_lload (pc := 24) C dX11_gcd_24 1 rfl ?_
      refine a_lstore (pc := 26) C [(6, .long (rmL y4 y6)), (4, .long y6), (8, .long (rmL y4 y6))] dX11_gcd_26 (nltL eL rfl) rfl ?_
      refine a_goto (pc := 28) C 6 dX11_gcd_28 rfl ?_
      refine a_sub [1, 0] rfl ?_
      exact ih y6 (rmL y4 y6) h
set_option maxHeartbeats 200000 in
set_option maxRecDepth 100000 in
theorem ok_fMd_gcd (l : Launch) (N : Rig) (M : Mem) (y0 : Int64) (y2 : Int64) {r : Int64} (h : fMd_gcd y0 y2 = some r) : Ct l N yX11_gcd cX11_gcd 10 (some .long) 0 [.long y0, .long y2] M (QcL N r M) := by
  refine ct_of (by decide) rfl ?_
  intro X el eN eL C E
  subst el
  subst eN
  unfold fMd_gcd at h
  show WA X M [(0, .long y0), (2, .long y2)] 0 []
  refine a_lload_n (pc := 0) C dX11_gcd_0 rfl 0 rfl ?_
  refine a_lstore (pc := 1) C [(4, .long y0), (0, .long y0), (2, .long y2)] dX11_gcd_1 (nltL eL rfl) rfl ?_
  refine a_lload_n (pc := 3) C dX11_gcd_3 rfl 2 rfl ?_
  refine a_lstore (pc := 4) C [(6, .long y2), (4, .long y0), (0, .long y0), (2, .long y2)] dX11_gcd_4 (nltL eL rfl) rfl ?_
  refine a_sub (lv2 := [(4, .long y0), (6, .long y2)]) [1, 0] rfl ?_
  obtain ⟨o3, eo3, h⟩ := bndS h
  refine ok_fMd_gcd_L6 eL C M o3 ?_ FU y0 y2 eo3
  refine a_lload (pc := 31) C dX11_gcd_31 0 rfl ?_
  exact a_lret (pc := 33) C E (somI h) rfl dX11_gcd_33
set_option maxHeartbeats 200000 in
set_option maxRecDepth 100000 in
theorem ok_fMd_below__L5 {X : Amb} (eL : X.nL = 6) (C : Cx X RX11 cX11_below_ 1) (x1 : Int32) (x2 : Int32) (M : Mem) (o : Int64) (K : WA X M [(3, .long o)] 41 []) : ∀ (n : Nat) (y3 : Int64) (x5 : Int32), fMd_below__L5 n M x1 x2 y3 x5 = some o → WA X M [(0, .ref (X.N.2.1 66)), (1, .int x1), (2, .int x2), (3, .long y3), (5, .int x5)] 5 [] := by
  intro n
  induction n with
  | zero => intro _ _ h; cases h
  | succ n ih =>
    intro y3 x5 h
    replace h : fMd_below__L5_F (fMd_below__L5 n) M x1 x2 y3 x5 = some o := h
    unfold fMd_below__L5_F at h
    refine a_iload (pc := 5) C dX11_below__5 4 rfl ?_
    refine a_iload_n (pc := 7) C dX11_below__7 rfl 2 rfl ?_
    refine a_icmp_ge (pc := 8) C 41 dX11_below__8 rfl (fun c1 => ?_) (fun c1 => ?_)
    · replace h := iteT c1 h
      refine a_sub (lv2 := [(3, .long y3)]) [3] rfl ?_
      cases somI h
      exact K
    · replace h := iteF c1 h
      refine a_lload_n (pc := 11) C dX11_below__11 rfl 3 rfl ?_
      refine a_lload_n (pc := 12) C dX11_below__12 rfl 3 rfl ?_
      refine a_aload_n (pc := 13) C dX11_below__13 rfl 0 rfl ?_
      refine a_iload_n (pc := 14) C dX11_below__14 rfl 1 rfl ?_
      refine a_iload (pc := 15) C dX11_below__15 4 rfl ?_
      obtain ⟨v2, ev2, h⟩ := bndS h
      refine a_callVI (pc := 17) C [.int x1, .int x5] (ok_fMd_toldAt X.l X.N M x1 x5 ev2) rfl mw_X11_toldAt wd_1235 rfl rfl rfl rfl rfl rfl rfl dX11_below__17 (fun z3 => ?_)
      refine a_i2l (pc := 20) C dX11_below__20 ?_
      obtain ⟨v4, ev4, h⟩ := bndS h
      refine a_callSL (pc := 21) C [.long y3, .long v2.toInt64] (ok_fMd_gcd X.l X.N M y3 v2.toInt64 ev4) rfl mw_X11_gcd wd_1494 rfl rfl rfl dX11_below__21 ?_
      obtain ⟨v5, ev5, h⟩ := bndS h
      obtain ⟨nv5, rfl⟩ := dvL_s ev5
      refine a_ldiv (pc := 24) C dX11_below__24 nv5 ?_
      refine a_aload_n (pc := 25) C dX11_below__25 rfl 0 rfl ?_
      refine a_iload_n (pc := 26) C dX11_below__26 rfl 1 rfl ?_
      refine a_iload (pc := 27) C dX11_below__27 4 rfl ?_
      obtain ⟨v6, ev6, h⟩ := bndS h
      refine a_callVI (pc := 29) C [.int x1, .int x5] (ok_fMd_toldAt X.l X.N M x1 x5 ev6) rfl mw_X11_toldAt wd_1235 rfl rfl rfl rfl rfl rfl rfl dX11_below__29 (fun z7 => ?_)
      refine a_i2l (pc := 32) C dX11_below__32 ?_
      refine a_lmul (pc := 33) C dX11_below__33 ?_
      refine a_lstore_n (pc := 34) C [(3, .long ((y3 / v4) * v6.toInt64)), (0, .ref (X.N.2.1 66)), (1, .int x1), (2, .int x2), (5, .int x5)] dX11_below__34 rfl (nltL eL rfl) rfl ?_
      refine a_iinc (pc := 35) C 4 (x5 + 1) [(5, .int (x5 + 1)), (3, .long ((y3 / v4) * v6.toInt64)), (0, .ref (X.N.2.1 66)), (1, .int x1), (2, .int x2)] dX11_below__35 rfl rfl (nlt eL rfl) rfl ?_
      refine a_goto (pc := 38) C 5 dX11_below__38 rfl ?_
      refine a_sub [2, 3, 4, 1, 0] rfl ?_
      exact ih ((y3 / v4) * v6.toInt64) (x5 + 1) h
set_option maxHeartbeats 200000 in
set_option maxRecDepth 100000 in
theorem ok_fMd_below_ (l : Launch) (N : Rig) (M : Mem) (x1 : Int32) (x2 : Int32) {r : Int64} (h : fMd_below_ M x1 x2 = some r) : Ct l N yX11_below_ cX11_below_ 6 (some .long) 1 [.ref (N.2.1 66), .int x1, .int x2] M (QcL N r M) := by
  refine ct_of (by decide) rfl ?_
  intro X el eN eL C E
  subst el
  subst eN
  unfold fMd_below_ at h
  show WA X M [(0, .ref (X.N.2.1 66)), (1, .int x1), (2, .int x2)] 0 []
  refine a_lconst (pc := 0) C 1 dX11_below__0 rfl ?_
  refine a_lstore_n (pc := 1) C [(3, .long 1), (0, .ref (X.N.2.1 66)), (1, .int x1), (2, .int x2)] dX11_below__1 rfl (nltL eL rfl) rfl ?_
  refine a_iconst (pc := 2) C 0 dX11_below__2 rfl ?_
  refine a_istore (pc := 3) C [(5, .int 0), (3, .long 1), (0, .ref (X.N.2.1 66)), (1, .int x1), (2, .int x2)] dX11_below__3 (nlt eL rfl) rfl ?_
  refine a_sub (lv2 := [(0, .ref (X.N.2.1 66)), (1, .int x1), (2, .int x2), (3, .long 1), (5, .int 0)]) [2, 3, 4, 1, 0] rfl ?_
  obtain ⟨o8, eo8, h⟩ := bndS h
  refine ok_fMd_below__L5 eL C x1 x2 M o8 ?_ FU 1 0 eo8
  refine a_lload_n (pc := 41) C dX11_below__41 rfl 0 rfl ?_
  exact a_lret (pc := 42) C E (somI h) rfl dX11_below__42
set_option maxHeartbeats 200000 in
set_option maxRecDepth 100000 in
theorem ok_fMd_above_L13 {X : Amb} (eL : X.nL = 8) (C : Cx X RX11 cX11_above 2) (x1 : Int32) (x2 : Int32) (y3 : Int64) (M : Mem) (o : Int64) (K : WA X M [(5, .long o)] 44 []) : ∀ (n : Nat) (y5 : Int64) (x7 : Int32), fMd_above_L13 n M x1 x2 y3 y5 x7 = some o → WA X M [(0, .ref (X.N.2.1 66)), (1, .int x1), (2, .int x2), (3, .long y3), (5, .long y5), (7, .int x7)] 13 [] := by
  intro n
  induction n with
  | zero => intro _ _ h; cases h
  | succ n ih =>
    intro y5 x7 h
    replace h : fMd_above_L13_F (fMd_above_L13 n) M x1 x2 y3 y5 x7 = some o := h
    unfold fMd_above_L13_F at h
    refine a_iload (pc := 13) C dX11_above_13 5 rfl ?_
    refine a_iload_n (pc := 15) C dX11_above_15 rfl 2 rfl ?_
    refine a_icmp_ge (pc := 16) C 44 dX11_above_16 rfl (fun c2 => ?_) (fun c2 => ?_)
    · replace h := iteT c2 h
      refine a_sub (lv2 := [(5, .long y5)]) [4] rfl ?_
      cases somI h
      exact K
    · replace h := iteF c2 h
      refine a_lload (pc := 19) C dX11_above_19 4 rfl ?_
      refine a_ldc2_w (pc := 21) C (v := 100) dX11_above_21 wd_1497 ?_
      refine a_lload_n (pc := 24) C dX11_above_24 rfl 3 rfl ?_
      refine a_aload_n (pc := 25) C dX11_above_25 rfl 0 rfl ?_
      refine a_iload_n (pc := 26) C dX11_above_26 rfl 1 rfl ?_
      refine a_iload (pc := 27) C dX11_above_27 5 rfl ?_
      obtain ⟨v3, ev3, h⟩ := bndS h
      refine a_callVI (pc := 29) C [.int x1, .int x7] (ok_fMd_toldAt X.l X.N M x1 x7 ev3) rfl mw_X11_toldAt wd_1235 rfl rfl rfl rfl rfl rfl rfl dX11_above_29 (fun z4 => ?_)
      refine a_i2l (pc := 32) C dX11_above_32 ?_
      obtain ⟨v5, ev5, h⟩ := bndS h
      obtain ⟨nv5, rfl⟩ := dvL_s ev5
      refine a_ldiv (pc := 33) C dX11_above_33 nv5 ?_
      refine a_lmul (pc := 34) C dX11_above_34 ?_
      refine a_ladd (pc := 35) C dX11_above_35 ?_
      refine a_lstore (pc := 36) C [(5, .long (y5 + (100 * (y3 / v3.toInt64)))), (0, .ref (X.N.2.1 66)), (1, .int x1), (2, .int x2), (3, .long y3), (7, .int x7)] dX11_above_36 (nltL eL rfl) rfl ?_
      refine a_iinc (pc := 38) C 5 (x7 + 1) [(7, .int (x7 + 1)), (5, .long (y5 + (100 * (y3 / v3.toInt64)))), (0, .ref (X.N.2.1 66)), (1, .int x1), (2, .int x2), (3, .long y3)] dX11_above_38 rfl rfl (nlt eL rfl) rfl ?_
      refine a_goto (pc := 41) C 13 dX11_above_41 rfl ?_
      refine a_sub [2, 3, 4, 5, 1, 0] rfl ?_
      exact ih (y5 + (100 * (y3 / v3.toInt64))) (x7 + 1) h
set_option maxHeartbeats 200000 in
set_option maxRecDepth 100000 in
theorem ok_fMd_above (l : Launch) (N : Rig) (M : Mem) (x1 : Int32) (x2 : Int32) {r : Int64} (h : fMd_above M x1 x2 = some r) : Ct l N yX11_above cX11_above 8 (some .long) 2 [.ref (N.2.1 66), .int x1, .int x2] M (QcL N r M) := by
  refine ct_of (by decide) rfl ?_
  intro X el eN eL C E
  subst el
  subst eN
  unfold fMd_above at h
  show WA X M [(0, .ref (X.N.2.1 66)), (1, .int x1), (2, .int x2)] 0 []
  refine a_aload_n (pc := 0) C dX11_above_0 rfl 0 rfl ?_
  refine a_iload_n (pc := 1) C dX11_above_1 rfl 1 rfl ?_
  refine a_iload_n (pc := 2) C dX11_above_2 rfl 2 rfl ?_
  obtain ⟨v1, ev1, h⟩ := bndS h
  refine a_callVL (pc := 3) C [.int x1, .int x2] (ok_fMd_below_ X.l X.N M x1 x2 ev1) rfl mw_X11_below_ wd_1490 rfl rfl rfl rfl rfl rfl rfl dX11_above_3 ?_
  refine a_lstore_n (pc := 6) C [(3, .long v1), (0, .ref (X.N.2.1 66)), (1, .int x1), (2, .int x2)] dX11_above_6 rfl (nltL eL rfl) rfl ?_
  refine a_lconst (pc := 7) C 0 dX11_above_7 rfl ?_
  refine a_lstore (pc := 8) C [(5, .long 0), (3, .long v1), (0, .ref (X.N.2.1 66)), (1, .int x1), (2, .int x2)] dX11_above_8 (nltL eL rfl) rfl ?_
  refine a_iconst (pc := 10) C 0 dX11_above_10 rfl ?_
  refine a_istore (pc := 11) C [(7, .int 0), (5, .long 0), (3, .long v1), (0, .ref (X.N.2.1 66)), (1, .int x1), (2, .int x2)] dX11_above_11 (nlt eL rfl) rfl ?_
  refine a_sub (lv2 := [(0, .ref (X.N.2.1 66)), (1, .int x1), (2, .int x2), (3, .long v1), (5, .long 0), (7, .int 0)]) [3, 4, 5, 2, 1, 0] rfl ?_
  obtain ⟨o6, eo6, h⟩ := bndS h
  refine ok_fMd_above_L13 eL C x1 x2 v1 M o6 ?_ FU 0 0 eo6
  refine a_lload (pc := 44) C dX11_above_44 0 rfl ?_
  exact a_lret (pc := 46) C E (somI h) rfl dX11_above_46
set_option maxHeartbeats 200000 in
set_option maxRecDepth 100000 in
theorem ok_fMd_bets_L77 {X : Amb} (eL : X.nL = 7) (C : Cx X RX11 cX11_bets 3) (x1 : Int32) (x4 : Int32) (M : Mem) (o : Int32) (K : WA X M [(5, .int o)] 118 []) : ∀ (n : Nat) (x5 : Int32) (x6 : Int32), fMd_bets_L77 n M x1 x4 x5 x6 = some o → WA X M [(0, .ref (X.N.2.1 66)), (1, .int x1), (4, .int x4), (5, .int x5), (6, .int x6)] 77 [] := by
  intro n
  induction n with
  | zero => intro _ _ h; cases h
  | succ n ih =>
    intro x5 x6 h
    replace h : fMd_bets_L77_F (fMd_bets_L77 n) M x1 x4 x5 x6 = some o := h
    unfold fMd_bets_L77_F at h
    refine a_iload (pc := 77) C dX11_bets_77 4 rfl ?_
    refine a_iload (pc := 79) C dX11_bets_79 2 rfl ?_
    refine a_icmp_ge (pc := 81) C 118 dX11_bets_81 rfl (fun c11 => ?_) (fun c11 => ?_)
    · replace h := iteT c11 h
      refine a_sub (lv2 := [(5, .int x5)]) [3] rfl ?_
      cases somI h
      exact K
    · replace h := iteF c11 h
      refine a_iload (pc := 84) C dX11_bets_84 3 rfl ?_
      refine a_bipush (pc := 86) C (-2) dX11_bets_86 rfl ?_
      refine a_icmp_eq (pc := 88) C 108 dX11_bets_88 rfl (fun c12 => ?_) (fun c12 => ?_)
      · replace h := iteT c12 h
        refine a_iload (pc := 108) C dX11_bets_108 4 rfl ?_
        refine a_istore (pc := 110) C [(5, .int x6), (0, .ref (X.N.2.1 66)), (1, .int x1), (4, .int x4), (6, .int x6)] dX11_bets_110 (nlt eL rfl) rfl ?_
        refine a_iinc (pc := 112) C 4 (x6 + 1) [(6, .int (x6 + 1)), (5, .int x6), (0, .ref (X.N.2.1 66)), (1, .int x1), (4, .int x4)] dX11_bets_112 rfl rfl (nlt eL rfl) rfl ?_
        refine a_goto (pc := 115) C 77 dX11_bets_115 rfl ?_
        refine a_sub [2, 3, 4, 1, 0] rfl ?_
        exact ih x6 (x6 + 1) h
      · replace h := iteF c12 h
        refine a_aload_n (pc := 91) C dX11_bets_91 rfl 0 rfl ?_
        refine a_iload_n (pc := 92) C dX11_bets_92 rfl 1 rfl ?_
        refine a_iload (pc := 93) C dX11_bets_93 4 rfl ?_
        obtain ⟨v13, ev13, h⟩ := bndS h
        refine a_callVI (pc := 95) C [.int x1, .int x6] (ok_fMd_toldAt X.l X.N M x1 x6 ev13) rfl mw_X11_toldAt wd_1235 rfl rfl rfl rfl rfl rfl rfl dX11_bets_95 (fun z14 => ?_)
        refine a_aload_n (pc := 98) C dX11_bets_98 rfl 0 rfl ?_
        refine a_iload_n (pc := 99) C dX11_bets_99 rfl 1 rfl ?_
        refine a_iload (pc := 100) C dX11_bets_100 3 rfl ?_
        obtain ⟨v15, ev15, h⟩ := bndS h
        refine a_callVI (pc := 102) C [.int x1, .int x5] (ok_fMd_toldAt X.l X.N M x1 x5 ev15) rfl mw_X11_toldAt wd_1235 rfl rfl rfl rfl rfl rfl rfl dX11_bets_102 (fun z16 => ?_)
        refine a_icmp_le (pc := 105) C 112 dX11_bets_105 rfl (fun c17 => ?_) (fun c17 => ?_)
        · replace h := iteT c17 h
          refine a_iinc (pc := 112) C 4 (x6 + 1) [(6, .int (x6 + 1)), (0, .ref (X.N.2.1 66)), (1, .int x1), (4, .int x4), (5, .int x5)] dX11_bets_112 rfl rfl (nlt eL rfl) rfl ?_
          refine a_goto (pc := 115) C 77 dX11_bets_115 rfl ?_
          refine a_sub [1, 2, 3, 4, 0] rfl ?_
          exact ih x5 (x6 + 1) h
        · replace h := iteF c17 h
          refine a_iload (pc := 108) C dX11_bets_108 4 rfl ?_
          refine a_istore (pc := 110) C [(5, .int x6), (0, .ref (X.N.2.1 66)), (1, .int x1), (4, .int x4), (6, .int x6)] dX11_bets_110 (nlt eL rfl) rfl ?_
          refine a_iinc (pc := 112) C 4 (x6 + 1) [(6, .int (x6 + 1)), (5, .int x6), (0, .ref (X.N.2.1 66)), (1, .int x1), (4, .int x4)] dX11_bets_112 rfl rfl (nlt eL rfl) rfl ?_
          refine a_goto (pc := 115) C 77 dX11_bets_115 rfl ?_
          refine a_sub [2, 3, 4, 1, 0] rfl ?_
          exact ih x6 (x6 + 1) h
set_option maxHeartbeats 200000 in
set_option maxRecDepth 100000 in
theorem ok_fMd_bets (l : Launch) (N : Rig) (M : Mem) (x1 : Int32) (x2 : Int32) {r : Int32} (h : fMd_bets M x1 x2 = some r) : Ct l N yX11_bets cX11_bets 7 (some .int) 3 [.ref (N.2.1 66), .int x1, .int x2] M (QcI N (some .int) r M) := by
  refine ct_of (by decide) rfl ?_
  intro X el eN eL C E
  subst el
  subst eN
  unfold fMd_bets at h
  show WA X M [(0, .ref (X.N.2.1 66)), (1, .int x1), (2, .int x2)] 0 []
  refine a_iload_n (pc := 0) C dX11_bets_0 rfl 1 rfl ?_
  refine a_callSI (pc := 1) C [.int x1] (ok_fMd_isShelf X.l X.N M x1) rfl mw_X11_isShelf wd_1231 rfl rfl rfl dX11_bets_1 (fun z1 => ?_)
  refine a_if_eq (pc := 4) C 16 dX11_bets_4 rfl (fun c2 => ?_) (fun c2 => ?_)
  · replace h := iteT c2 h
    refine a_iconst (pc := 16) C (-1) dX11_bets_16 rfl ?_
    exact a_iret (pc := 17) C E rfl (somI h) rfl dX11_bets_17
  · replace h := iteF c2 h
    refine a_iload_n (pc := 7) C dX11_bets_7 rfl 2 rfl ?_
    refine a_iconst (pc := 8) C 0 dX11_bets_8 rfl ?_
    refine a_iconst (pc := 9) C 1 dX11_bets_9 rfl ?_
    refine a_callSI (pc := 10) C [.int x2, .int 0, .int 1] (ok_fMd_within X.l X.N M x2 0 1) rfl mw_X11_within wd_1220 rfl rfl rfl dX11_bets_10 (fun z3 => ?_)
    refine a_if_ne (pc := 13) C 18 dX11_bets_13 rfl (fun c4 => ?_) (fun c4 => ?_)
    · replace h := iteT c4 h
      refine a_aload_n (pc := 18) C dX11_bets_18 rfl 0 rfl ?_
      refine a_iload_n (pc := 19) C dX11_bets_19 rfl 1 rfl ?_
      obtain ⟨v5, ev5, h⟩ := bndS h
      refine a_callVI (pc := 20) C [.int x1] (ok_fMd_noShorts X.l X.N M x1 ev5) rfl mw_X11_noShorts wd_1458 rfl rfl rfl rfl rfl rfl rfl dX11_bets_20 (fun z6 => ?_)
      refine a_istore_n (pc := 23) C [(3, .int v5), (0, .ref (X.N.2.1 66)), (1, .int x1), (2, .int x2)] dX11_bets_23 rfl (nlt eL rfl) rfl ?_
      refine a_iload_n (pc := 24) C dX11_bets_24 rfl 0 rfl ?_
      refine a_if_ge (pc := 25) C 30 dX11_bets_25 rfl (fun c7 => ?_) (fun c7 => ?_)
      · replace h := iteT c7 h
        refine a_aload_n (pc := 30) C dX11_bets_30 rfl 1 rfl ?_
        refine a_iload_n (pc := 31) C dX11_bets_31 rfl 2 rfl ?_
        obtain ⟨v8, ev8, h⟩ := bndS h
        refine a_callVI (pc := 32) C [.int x1] (ok_fMd_waysOf X.l X.N M x1 ev8) rfl mw_X11_waysOf wd_1482 rfl rfl rfl rfl rfl rfl rfl dX11_bets_32 (fun z9 => ?_)
        refine a_istore (pc := 35) C [(4, .int v8), (3, .int v5), (0, .ref (X.N.2.1 66)), (1, .int x1), (2, .int x2)] dX11_bets_35 (nlt eL rfl) rfl ?_
        refine a_iload_n (pc := 37) C dX11_bets_37 rfl 4 rfl ?_
        refine a_if_ne (pc := 38) C 70 dX11_bets_38 rfl (fun c10 => ?_) (fun c10 => ?_)
        · replace h := iteT c10 h
          refine a_bipush (pc := 70) C (-2) dX11_bets_70 rfl ?_
          refine a_istore (pc := 72) C [(5, .int (-2)), (4, .int v8), (3, .int v5), (0, .ref (X.N.2.1 66)), (1, .int x1), (2, .int x2)] dX11_bets_72 (nlt eL rfl) rfl ?_
          refine a_iconst (pc := 74) C 0 dX11_bets_74 rfl ?_
          refine a_istore (pc := 75) C [(6, .int 0), (5, .int (-2)), (4, .int v8), (3, .int v5), (0, .ref (X.N.2.1 66)), (1, .int x1), (2, .int x2)] dX11_bets_75 (nlt eL rfl) rfl ?_
          refine a_sub (lv2 := [(0, .ref (X.N.2.1 66)), (1, .int x1), (4, .int v8), (5, .int (-2)), (6, .int 0)]) [4, 5, 2, 1, 0] rfl ?_
          obtain ⟨o18, eo18, h⟩ := bndS h
          refine ok_fMd_bets_L77 eL C x1 v8 M o18 ?_ FU (-2) 0 eo18
          refine a_iload (pc := 118) C dX11_bets_118 0 rfl ?_
          exact a_iret (pc := 120) C E rfl (somI h) rfl dX11_bets_120
        · replace h := iteF c10 h
          refine a_iload (pc := 41) C dX11_bets_41 0 rfl ?_
          refine a_if_le (pc := 43) C 68 dX11_bets_43 rfl (fun c19 => ?_) (fun c19 => ?_)
          · replace h := iteT c19 h
            refine a_iconst (pc := 68) C 0 dX11_bets_68 rfl ?_
            exact a_iret (pc := 69) C E rfl (somI h) rfl dX11_bets_69
          · replace h := iteF c19 h
            refine a_aload_n (pc := 46) C dX11_bets_46 rfl 2 rfl ?_
            refine a_iload_n (pc := 47) C dX11_bets_47 rfl 3 rfl ?_
            refine a_iload (pc := 48) C dX11_bets_48 0 rfl ?_
            obtain ⟨v20, ev20, h⟩ := bndS h
            refine a_callVL (pc := 50) C [.int x1, .int v8] (ok_fMd_above X.l X.N M x1 v8 ev20) rfl mw_X11_above wd_1486 rfl rfl rfl rfl rfl rfl rfl dX11_bets_50 ?_
            refine a_aload_n (pc := 53) C dX11_bets_53 rfl 2 rfl ?_
            refine a_iload_n (pc := 54) C dX11_bets_54 rfl 3 rfl ?_
            refine a_iload (pc := 55) C dX11_bets_55 0 rfl ?_
            obtain ⟨v21, ev21, h⟩ := bndS h
            refine a_callVL (pc := 57) C [.int x1, .int v8] (ok_fMd_below_ X.l X.N M x1 v8 ev21) rfl mw_X11_below_ wd_1490 rfl rfl rfl rfl rfl rfl rfl dX11_bets_57 ?_
            refine a_lcmp (pc := 60) C dX11_bets_60 ?_
            refine a_if_ge (pc := 61) C 68 dX11_bets_61 rfl (fun c22 => ?_) (fun c22 => ?_)
            · replace h := iteT c22 h
              refine a_iconst (pc := 68) C 0 dX11_bets_68 rfl ?_
              exact a_iret (pc := 69) C E rfl (somI h) rfl dX11_bets_69
            · replace h := iteF c22 h
              refine a_iconst (pc := 64) C 1 dX11_bets_64 rfl ?_
              refine a_goto (pc := 65) C 69 dX11_bets_65 rfl ?_
              exact a_iret (pc := 69) C E rfl (somI h) rfl dX11_bets_69
      · replace h := iteF c7 h
        refine a_iload_n (pc := 28) C dX11_bets_28 rfl 0 rfl ?_
        exact a_iret (pc := 29) C E rfl (somI h) rfl dX11_bets_29
    · replace h := iteF c4 h
      refine a_iconst (pc := 16) C (-1) dX11_bets_16 rfl ?_
      exact a_iret (pc := 17) C E rfl (somI h) rfl dX11_bets_17
set_option maxHeartbeats 200000 in
set_option maxRecDepth 100000 in
theorem ok_fMd_margin (l : Launch) (N : Rig) (M : Mem) (x1 : Int32) (x2 : Int32) {r : Int64} (h : fMd_margin M x1 x2 = some r) : Ct l N yX11_margin cX11_margin 8 (some .long) 3 [.ref (N.2.1 66), .int x1, .int x2] M (QcL N r M) := by
  refine ct_of (by decide) rfl ?_
  intro X el eN eL C E
  subst el
  subst eN
  unfold fMd_margin at h
  show WA X M [(0, .ref (X.N.2.1 66)), (1, .int x1), (2, .int x2)] 0 []
  refine a_iload_n (pc := 0) C dX11_margin_0 rfl 1 rfl ?_
  refine a_callSI (pc := 1) C [.int x1] (ok_fMd_isShelf X.l X.N M x1) rfl mw_X11_isShelf wd_1231 rfl rfl rfl dX11_margin_1 (fun z1 => ?_)
  refine a_if_eq (pc := 4) C 24 dX11_margin_4 rfl (fun c2 => ?_) (fun c2 => ?_)
  · replace h := iteT c2 h
    refine a_ldc2_w (pc := 24) C (v := (-9223372036854775808)) dX11_margin_24 wd_1420 ?_
    exact a_lret (pc := 27) C E (somI h) rfl dX11_margin_27
  · replace h := iteF c2 h
    refine a_iload_n (pc := 7) C dX11_margin_7 rfl 2 rfl ?_
    refine a_iconst (pc := 8) C 0 dX11_margin_8 rfl ?_
    refine a_iconst (pc := 9) C 1 dX11_margin_9 rfl ?_
    refine a_callSI (pc := 10) C [.int x2, .int 0, .int 1] (ok_fMd_within X.l X.N M x2 0 1) rfl mw_X11_within wd_1220 rfl rfl rfl dX11_margin_10 (fun z3 => ?_)
    refine a_if_eq (pc := 13) C 24 dX11_margin_13 rfl (fun c4 => ?_) (fun c4 => ?_)
    · replace h := iteT c4 h
      refine a_ldc2_w (pc := 24) C (v := (-9223372036854775808)) dX11_margin_24 wd_1420 ?_
      exact a_lret (pc := 27) C E (somI h) rfl dX11_margin_27
    · replace h := iteF c4 h
      refine a_aload_n (pc := 16) C dX11_margin_16 rfl 0 rfl ?_
      refine a_iload_n (pc := 17) C dX11_margin_17 rfl 1 rfl ?_
      obtain ⟨v5, ev5, h⟩ := bndS h
      refine a_callVI (pc := 18) C [.int x1] (ok_fMd_noShorts X.l X.N M x1 ev5) rfl mw_X11_noShorts wd_1458 rfl rfl rfl rfl rfl rfl rfl dX11_margin_18 (fun z6 => ?_)
      refine a_if_ge (pc := 21) C 28 dX11_margin_21 rfl (fun c7 => ?_) (fun c7 => ?_)
      · replace h := iteT c7 h
        refine a_aload_n (pc := 28) C dX11_margin_28 rfl 0 rfl ?_
        refine a_iload_n (pc := 29) C dX11_margin_29 rfl 1 rfl ?_
        obtain ⟨v8, ev8, h⟩ := bndS h
        refine a_callVI (pc := 30) C [.int x1] (ok_fMd_waysOf X.l X.N M x1 ev8) rfl mw_X11_waysOf wd_1482 rfl rfl rfl rfl rfl rfl rfl dX11_margin_30 (fun z9 => ?_)
        refine a_istore_n (pc := 33) C [(3, .int v8), (0, .ref (X.N.2.1 66)), (1, .int x1), (2, .int x2)] dX11_margin_33 rfl (nlt eL rfl) rfl ?_
        refine a_aload_n (pc := 34) C dX11_margin_34 rfl 1 rfl ?_
        refine a_iload_n (pc := 35) C dX11_margin_35 rfl 2 rfl ?_
        refine a_iload_n (pc := 36) C dX11_margin_36 rfl 0 rfl ?_
        obtain ⟨v10, ev10, h⟩ := bndS h
        refine a_callVL (pc := 37) C [.int x1, .int v8] (ok_fMd_above X.l X.N M x1 v8 ev10) rfl mw_X11_above wd_1486 rfl rfl rfl rfl rfl rfl rfl dX11_margin_37 ?_
        refine a_lstore (pc := 40) C [(4, .long v10), (3, .int v8), (0, .ref (X.N.2.1 66)), (1, .int x1), (2, .int x2)] dX11_margin_40 (nltL eL rfl) rfl ?_
        refine a_aload_n (pc := 42) C dX11_margin_42 rfl 2 rfl ?_
        refine a_iload_n (pc := 43) C dX11_margin_43 rfl 3 rfl ?_
        refine a_iload_n (pc := 44) C dX11_margin_44 rfl 1 rfl ?_
        obtain ⟨v11, ev11, h⟩ := bndS h
        refine a_callVL (pc := 45) C [.int x1, .int v8] (ok_fMd_below_ X.l X.N M x1 v8 ev11) rfl mw_X11_below_ wd_1490 rfl rfl rfl rfl rfl rfl rfl dX11_margin_45 ?_
        refine a_lstore (pc := 48) C [(6, .long v11), (4, .long v10), (3, .int v8), (0, .ref (X.N.2.1 66)), (1, .int x1), (2, .int x2)] dX11_margin_48 (nltL eL rfl) rfl ?_
        refine a_iload_n (pc := 50) C dX11_margin_50 rfl 5 rfl ?_
        refine a_if_ne (pc := 51) C 67 dX11_margin_51 rfl (fun c12 => ?_) (fun c12 => ?_)
        · replace h := iteT c12 h
          refine a_lload (pc := 67) C dX11_margin_67 0 rfl ?_
          refine a_lload (pc := 69) C dX11_margin_69 1 rfl ?_
          refine a_lload (pc := 71) C dX11_margin_71 0 rfl ?_
          obtain ⟨v13, ev13, h⟩ := bndS h
          refine a_callSL (pc := 73) C [.long v10, .long v11] (ok_fMd_gcd X.l X.N M v10 v11 ev13) rfl mw_X11_gcd wd_1494 rfl rfl rfl dX11_margin_73 ?_
          obtain ⟨v14, ev14, h⟩ := bndS h
          obtain ⟨nv14, rfl⟩ := dvL_s ev14
          refine a_ldiv (pc := 76) C dX11_margin_76 nv14 ?_
          exact a_lret (pc := 77) C E (somI h) rfl dX11_margin_77
        · replace h := iteF c12 h
          refine a_lload (pc := 54) C dX11_margin_54 1 rfl ?_
          refine a_lload (pc := 56) C dX11_margin_56 1 rfl ?_
          refine a_lload (pc := 58) C dX11_margin_58 0 rfl ?_
          obtain ⟨v15, ev15, h⟩ := bndS h
          refine a_callSL (pc := 60) C [.long v10, .long v11] (ok_fMd_gcd X.l X.N M v10 v11 ev15) rfl mw_X11_gcd wd_1494 rfl rfl rfl dX11_margin_60 ?_
          obtain ⟨v16, ev16, h⟩ := bndS h
          obtain ⟨nv16, rfl⟩ := dvL_s ev16
          refine a_ldiv (pc := 63) C dX11_margin_63 nv16 ?_
          refine a_goto (pc := 64) C 77 dX11_margin_64 rfl ?_
          exact a_lret (pc := 77) C E (somI h) rfl dX11_margin_77
      · replace h := iteF c7 h
        refine a_ldc2_w (pc := 24) C (v := (-9223372036854775808)) dX11_margin_24 wd_1420 ?_
        exact a_lret (pc := 27) C E (somI h) rfl dX11_margin_27
set_option maxHeartbeats 200000 in
set_option maxRecDepth 100000 in
theorem ok_fMd_turns (l : Launch) (N : Rig) (M : Mem) (x1 : Int32) (x2 : Int32) {M0 : Mem} (h : fMd_turns M x1 x2 = some M0) : Ct l N yX11_turns cX11_turns 3 none 0 [.ref (N.2.1 66), .int x1, .int x2] M (QcV N M0) := by
  refine ct_of (by decide) rfl ?_
  intro X el eN eL C E
  subst el
  subst eN
  unfold fMd_turns at h
  show WA X M [(0, .ref (X.N.2.1 66)), (1, .int x1), (2, .int x2)] 0 []
  refine a_aload_n (pc := 0) C dX11_turns_0 rfl 0 rfl ?_
  refine gf_11_2 (pc := 1) C wd_1079 dX11_turns_1 ?_
  refine a_iload_n (pc := 4) C dX11_turns_4 rfl 1 rfl ?_
  refine a_aload_n (pc := 5) C dX11_turns_5 rfl 0 rfl ?_
  refine gf_11_2 (pc := 6) C wd_1079 dX11_turns_6 ?_
  refine a_iload_n (pc := 9) C dX11_turns_9 rfl 1 rfl ?_
  obtain ⟨v1, ev1, h⟩ := bndS h
  refine a_iald (pc := 10) C rfl ev1 dX11_turns_10 ?_
  refine a_iload_n (pc := 11) C dX11_turns_11 rfl 2 rfl ?_
  refine a_iadd (pc := 12) C dX11_turns_12 ?_
  refine a_iconst (pc := 13) C 3 dX11_turns_13 rfl ?_
  refine a_irem (pc := 14) C dX11_turns_14 (by decide) ?_
  obtain ⟨M2, eM2, h⟩ := bndS h
  refine a_iast (pc := 15) C rfl eM2 dX11_turns_15 ?_
  exact a_vret (pc := 16) C E (somI h) dX11_turns_16
set_option maxHeartbeats 200000 in
set_option maxRecDepth 100000 in
theorem ok_fMd_more (l : Launch) (N : Rig) (M : Mem) (x1 : Int32) (x2 : Int32) {r : Int32} {M0 : Mem} (h : fMd_more M x1 x2 = some (r, M0)) : Ct l N yX11_more cX11_more 4 (some .int) 6 [.ref (N.2.1 66), .int x1, .int x2] M (QcI N (some .int) r M0) := by
  refine ct_of (by decide) rfl ?_
  intro X el eN eL C E
  subst el
  subst eN
  unfold fMd_more at h
  show WA X M [(0, .ref (X.N.2.1 66)), (1, .int x1), (2, .int x2)] 0 []
  refine a_aload_n (pc := 0) C dX11_more_0 rfl 0 rfl ?_
  refine a_aload_n (pc := 1) C dX11_more_1 rfl 0 rfl ?_
  refine gf_11_42 (pc := 2) C wd_1119 dX11_more_2 ?_
  obtain ⟨q1, eq1, h⟩ := bndS h
  refine a_callVV (pc := 5) C [.ref (X.N.2.1 92)] (ok_fMd_keeps X.l X.N M 92 kp92 eq1) rfl mw_X11_keeps wd_1368 rfl rfl rfl rfl rfl rfl rfl dX11_more_5 ?_
  refine a_aload_n (pc := 8) C dX11_more_8 rfl 0 rfl ?_
  refine a_iload_n (pc := 9) C dX11_more_9 rfl 2 rfl ?_
  refine a_bipush (pc := 10) C 10 dX11_more_10 rfl ?_
  refine a_irem (pc := 12) C dX11_more_12 (by decide) ?_
  obtain ⟨q2, eq2, h⟩ := bndS h
  refine a_callVV (pc := 13) C [.int (rmI x2 10)] (ok_fMd_goesOn X.l X.N q1 (rmI x2 10) eq2) rfl mw_X11_goesOn wd_1372 rfl rfl rfl rfl rfl rfl rfl dX11_more_13 ?_
  refine a_aload_n (pc := 16) C dX11_more_16 rfl 0 rfl ?_
  refine a_iload_n (pc := 17) C dX11_more_17 rfl 1 rfl ?_
  refine a_bipush (pc := 18) C 10 dX11_more_18 rfl ?_
  refine a_idiv (pc := 20) C dX11_more_20 (by decide) ?_
  obtain ⟨v3, ev3, h⟩ := bndS h
  refine a_callVI (pc := 21) C [.int (x1 / 10)] (ok_fMd_has X.l X.N q2 (x1 / 10) ev3) rfl mw_X11_has wd_1380 rfl rfl rfl rfl rfl rfl rfl dX11_more_21 (fun z4 => ?_)
  refine a_aload_n (pc := 24) C dX11_more_24 rfl 0 rfl ?_
  refine a_iload_n (pc := 25) C dX11_more_25 rfl 1 rfl ?_
  refine a_bipush (pc := 26) C 10 dX11_more_26 rfl ?_
  refine a_irem (pc := 28) C dX11_more_28 (by decide) ?_
  obtain ⟨v5, ev5, h⟩ := bndS h
  refine a_callVI (pc := 29) C [.int (rmI x1 10)] (ok_fMd_has X.l X.N q2 (rmI x1 10) ev5) rfl mw_X11_has wd_1380 rfl rfl rfl rfl rfl rfl rfl dX11_more_29 (fun z6 => ?_)
  refine a_isub (pc := 32) C dX11_more_32 ?_
  refine a_istore_n (pc := 33) C [(3, .int (v3 - v5)), (0, .ref (X.N.2.1 66)), (1, .int x1), (2, .int x2)] dX11_more_33 rfl (nlt eL rfl) rfl ?_
  refine a_aload_n (pc := 34) C dX11_more_34 rfl 1 rfl ?_
  refine a_aload_n (pc := 35) C dX11_more_35 rfl 1 rfl ?_
  refine gf_11_42 (pc := 36) C wd_1119 dX11_more_36 ?_
  obtain ⟨q7, eq7, h⟩ := bndS h
  refine a_callVV (pc := 39) C [.ref (X.N.2.1 92)] (ok_fMd_laysBack X.l X.N q2 92 kp92 eq7) rfl mw_X11_laysBack wd_1384 rfl rfl rfl rfl rfl rfl rfl dX11_more_39 ?_
  refine a_iload_n (pc := 42) C dX11_more_42 rfl 0 rfl ?_
  exact a_iret (pc := 43) C E rfl (som1 h) (som2 h) dX11_more_43
set_option maxHeartbeats 200000 in
set_option maxRecDepth 100000 in
theorem ok_fMd_turnFrom_L32 {X : Amb} (eL : X.nL = 8) {kr kc : Nat} (hkr : Nat.ble (kr + 1) kc = true) (hkb : Nat.ble 7 kc = true) (C : Cx X RX11 cX11_turnFrom kc) (g_fMd_turnFrom : Mem → Int32 → Int32 → Int32 → Option (Int32 × Mem)) (G_fMd_turnFrom : ∀ (M : Mem) (x1 : Int32) (x2 : Int32) (x3 : Int32) {r : Int32} {M0 : Mem}, g_fMd_turnFrom M x1 x2 x3 = some (r, M0) → Ct X.l X.N yX11_turnFrom cX11_turnFrom 8 (some .int) kr [.ref (X.N.2.1 66), .int x1, .int x2, .int x3] M (QcI X.N (some .int) r M0)) (x1 : Int32) (x2 : Int32) (x3 : Int32) (o : Mem × Int32) (K : WA X o.1 [(4, .int o.2)] 107 []) : ∀ (n : Nat) (M : Mem) (x4 : Int32) (x5 : Int32), fMd_turnFrom_L32 g_fMd_turnFrom n M x1 x2 x3 x4 x5 = some o → WA X M [(0, .ref (X.N.2.1 66)), (1, .int x1), (2, .int x2), (3, .int x3), (4, .int x4), (5, .int x5)] 32 [] := by
  intro n
  induction n with
  | zero => intro _ _ _ h; cases h
  | succ n ih =>
    intro M x4 x5 h
    replace h : fMd_turnFrom_L32_F g_fMd_turnFrom (fMd_turnFrom_L32 g_fMd_turnFrom n) M x1 x2 x3 x4 x5 = some o := h
    unfold fMd_turnFrom_L32_F at h
    refine a_iload (pc := 32) C dX11_turnFrom_32 5 rfl ?_
    refine a_bipush (pc := 34) C 6 dX11_turnFrom_34 rfl ?_
    refine a_icmp_ge (pc := 36) C 107 dX11_turnFrom_36 rfl (fun c4 => ?_) (fun c4 => ?_)
    · replace h := iteT c4 h
      refine a_sub (lv2 := [(4, .int x4)]) [4] rfl ?_
      cases somI h
      exact K
    · replace h := iteF c4 h
      refine a_bipush (pc := 39) C 6 dX11_turnFrom_39 rfl ?_
      refine a_iload_n (pc := 41) C dX11_turnFrom_41 rfl 3 rfl ?_
      refine a_bipush (pc := 42) C 100 dX11_turnFrom_42 rfl ?_
      refine a_idiv (pc := 44) C dX11_turnFrom_44 (by decide) ?_
      refine a_imul (pc := 45) C dX11_turnFrom_45 ?_
      refine a_iload (pc := 46) C dX11_turnFrom_46 5 rfl ?_
      refine a_iadd (pc := 48) C dX11_turnFrom_48 ?_
      refine a_istore (pc := 49) C [(6, .int ((6 * (x3 / 100)) + x5)), (0, .ref (X.N.2.1 66)), (1, .int x1), (2, .int x2), (3, .int x3), (4, .int x4), (5, .int x5)] dX11_turnFrom_49 (nlt eL rfl) rfl ?_
      refine a_aload_n (pc := 51) C dX11_turnFrom_51 rfl 1 rfl ?_
      refine a_iload (pc := 52) C dX11_turnFrom_52 0 rfl ?_
      refine a_iconst (pc := 54) C 1 dX11_turnFrom_54 rfl ?_
      obtain ⟨q5, eq5, h⟩ := bndS h
      refine a_callVV (pc := 55) C [.int ((6 * (x3 / 100)) + x5), .int 1] (ok_fMd_turns X.l X.N M ((6 * (x3 / 100)) + x5) 1 eq5) (ble_tr (b := 7) rfl hkb) mw_X11_turns wd_1514 rfl rfl rfl rfl rfl rfl rfl dX11_turnFrom_55 ?_
      refine a_aload_n (pc := 58) C dX11_turnFrom_58 rfl 1 rfl ?_
      refine a_iload_n (pc := 59) C dX11_turnFrom_59 rfl 2 rfl ?_
      refine a_iconst (pc := 60) C 1 dX11_turnFrom_60 rfl ?_
      refine a_iadd (pc := 61) C dX11_turnFrom_61 ?_
      refine a_iload_n (pc := 62) C dX11_turnFrom_62 rfl 3 rfl ?_
      refine a_iload_n (pc := 63) C dX11_turnFrom_63 rfl 4 rfl ?_
      obtain ⟨q6, eq6, h⟩ := bndS h
      refine a_callVI (pc := 64) C [.int (x1 + 1), .int x2, .int x3] (G_fMd_turnFrom q5 (x1 + 1) x2 x3 eq6) hkr mw_X11_turnFrom wd_1506 rfl rfl rfl rfl rfl rfl rfl dX11_turnFrom_64 (fun z7 => ?_)
      refine a_istore (pc := 67) C [(7, .int q6.1), (6, .int ((6 * (x3 / 100)) + x5)), (0, .ref (X.N.2.1 66)), (1, .int x1), (2, .int x2), (3, .int x3), (4, .int x4), (5, .int x5)] dX11_turnFrom_67 (nlt eL rfl) rfl ?_
      refine a_aload_n (pc := 69) C dX11_turnFrom_69 rfl 2 rfl ?_
      refine a_iload (pc := 70) C dX11_turnFrom_70 1 rfl ?_
      refine a_iconst (pc := 72) C 2 dX11_turnFrom_72 rfl ?_
      obtain ⟨q8, eq8, h⟩ := bndS h
      refine a_callVV (pc := 73) C [.int ((6 * (x3 / 100)) + x5), .int 2] (ok_fMd_turns X.l X.N q6.2 ((6 * (x3 / 100)) + x5) 2 eq8) (ble_tr (b := 7) rfl hkb) mw_X11_turns wd_1514 rfl rfl rfl rfl rfl rfl rfl dX11_turnFrom_73 ?_
      refine a_iload_n (pc := 76) C dX11_turnFrom_76 rfl 3 rfl ?_
      refine a_iconst (pc := 77) C 2 dX11_turnFrom_77 rfl ?_
      refine a_irem (pc := 78) C dX11_turnFrom_78 (by decide) ?_
      refine a_if_ne (pc := 79) C 92 dX11_turnFrom_79 rfl (fun c9 => ?_) (fun c9 => ?_)
      · replace h := iteT c9 h
        refine a_iload (pc := 92) C dX11_turnFrom_92 6 rfl ?_
        refine a_iload (pc := 94) C dX11_turnFrom_94 0 rfl ?_
        refine a_mmin (pc := 96) C (ble_tr (b := 7) rfl hkb) wd_1359 wd_652 wd_94 wd_653 rfl dX11_turnFrom_96 ?_
        refine a_istore (pc := 99) C [(4, .int (mnI x4 q6.1)), (7, .int q6.1), (6, .int ((6 * (x3 / 100)) + x5)), (0, .ref (X.N.2.1 66)), (1, .int x1), (2, .int x2), (3, .int x3), (5, .int x5)] dX11_turnFrom_99 (nlt eL rfl) rfl ?_
        refine a_iinc (pc := 101) C 7 (x5 + 1) [(5, .int (x5 + 1)), (4, .int (mnI x4 q6.1)), (7, .int q6.1), (6, .int ((6 * (x3 / 100)) + x5)), (0, .ref (X.N.2.1 66)), (1, .int x1), (2, .int x2), (3, .int x3)] dX11_turnFrom_101 rfl rfl (nlt eL rfl) rfl ?_
        refine a_goto (pc := 104) C 32 dX11_turnFrom_104 rfl ?_
        refine a_sub [4, 5, 6, 7, 1, 0] rfl ?_
        exact ih q8 (mnI x4 q6.1) (x5 + 1) h
      · replace h := iteF c9 h
        refine a_iload (pc := 82) C dX11_turnFrom_82 6 rfl ?_
        refine a_iload (pc := 84) C dX11_turnFrom_84 0 rfl ?_
        refine a_mmax (pc := 86) C (ble_tr (b := 7) rfl hkb) wd_1360 wd_631 wd_94 wd_632 rfl dX11_turnFrom_86 ?_
        refine a_goto (pc := 89) C 99 dX11_turnFrom_89 rfl ?_
        refine a_istore (pc := 99) C [(4, .int (mxI x4 q6.1)), (7, .int q6.1), (6, .int ((6 * (x3 / 100)) + x5)), (0, .ref (X.N.2.1 66)), (1, .int x1), (2, .int x2), (3, .int x3), (5, .int x5)] dX11_turnFrom_99 (nlt eL rfl) rfl ?_
        refine a_iinc (pc := 101) C 7 (x5 + 1) [(5, .int (x5 + 1)), (4, .int (mxI x4 q6.1)), (7, .int q6.1), (6, .int ((6 * (x3 / 100)) + x5)), (0, .ref (X.N.2.1 66)), (1, .int x1), (2, .int x2), (3, .int x3)] dX11_turnFrom_101 rfl rfl (nlt eL rfl) rfl ?_
        refine a_goto (pc := 104) C 32 dX11_turnFrom_104 rfl ?_
        refine a_sub [4, 5, 6, 7, 1, 0] rfl ?_
        exact ih q8 (mxI x4 q6.1) (x5 + 1) h
set_option maxHeartbeats 200000 in
set_option maxRecDepth 100000 in
theorem ok_fMd_turnFrom_F (l : Launch) (N : Rig) {kr kc : Nat} (hkr : Nat.ble (kr + 1) kc = true) (hkb : Nat.ble 7 kc = true) (g_fMd_turnFrom : Mem → Int32 → Int32 → Int32 → Option (Int32 × Mem)) (G_fMd_turnFrom : ∀ (M : Mem) (x1 : Int32) (x2 : Int32) (x3 : Int32) {r : Int32} {M0 : Mem}, g_fMd_turnFrom M x1 x2 x3 = some (r, M0) → Ct l N yX11_turnFrom cX11_turnFrom 8 (some .int) kr [.ref (N.2.1 66), .int x1, .int x2, .int x3] M (QcI N (some .int) r M0)) (M : Mem) (x1 : Int32) (x2 : Int32) (x3 : Int32) (r : Int32) (M0 : Mem) (h : fMd_turnFrom_F g_fMd_turnFrom M x1 x2 x3 = some (r, M0)) : Ct l N yX11_turnFrom cX11_turnFrom 8 (some .int) kc [.ref (N.2.1 66), .int x1, .int x2, .int x3] M (QcI N (some .int) r M0) := by
  refine ct_of (by decide) rfl ?_
  intro X el eN eL C E
  subst el
  subst eN
  unfold fMd_turnFrom_F at h
  show WA X M [(0, .ref (X.N.2.1 66)), (1, .int x1), (2, .int x2), (3, .int x3)] 0 []
  refine a_iload_n (pc := 0) C dX11_turnFrom_0 rfl 1 rfl ?_
  refine a_iload_n (pc := 1) C dX11_turnFrom_1 rfl 3 rfl ?_
  refine a_bipush (pc := 2) C 10 dX11_turnFrom_2 rfl ?_
  refine a_idiv (pc := 4) C dX11_turnFrom_4 (by decide) ?_
  refine a_bipush (pc := 5) C 10 dX11_turnFrom_5 rfl ?_
  refine a_irem (pc := 7) C dX11_turnFrom_7 (by decide) ?_
  refine a_icmp_ne (pc := 8) C 18 dX11_turnFrom_8 rfl (fun c1 => ?_) (fun c1 => ?_)
  · replace h := iteT c1 h
    refine a_aload_n (pc := 18) C dX11_turnFrom_18 rfl 0 rfl ?_
    refine a_iload_n (pc := 19) C dX11_turnFrom_19 rfl 1 rfl ?_
    refine a_iconst (pc := 20) C 1 dX11_turnFrom_20 rfl ?_
    refine a_iadd (pc := 21) C dX11_turnFrom_21 ?_
    refine a_iload_n (pc := 22) C dX11_turnFrom_22 rfl 2 rfl ?_
    refine a_iload_n (pc := 23) C dX11_turnFrom_23 rfl 3 rfl ?_
    obtain ⟨q2, eq2, h⟩ := bndS h
    refine a_callVI (pc := 24) C [.int (x1 + 1), .int x2, .int x3] (G_fMd_turnFrom M (x1 + 1) x2 x3 eq2) hkr mw_X11_turnFrom wd_1506 rfl rfl rfl rfl rfl rfl rfl dX11_turnFrom_24 (fun z3 => ?_)
    refine a_istore (pc := 27) C [(4, .int q2.1), (0, .ref (X.N.2.1 66)), (1, .int x1), (2, .int x2), (3, .int x3)] dX11_turnFrom_27 (nlt eL rfl) rfl ?_
    refine a_iconst (pc := 29) C 0 dX11_turnFrom_29 rfl ?_
    refine a_istore (pc := 30) C [(5, .int 0), (4, .int q2.1), (0, .ref (X.N.2.1 66)), (1, .int x1), (2, .int x2), (3, .int x3)] dX11_turnFrom_30 (nlt eL rfl) rfl ?_
    refine a_sub (lv2 := [(0, .ref (X.N.2.1 66)), (1, .int x1), (2, .int x2), (3, .int x3), (4, .int q2.1), (5, .int 0)]) [2, 3, 4, 5, 1, 0] rfl ?_
    obtain ⟨o10, eo10, h⟩ := bndS h
    refine ok_fMd_turnFrom_L32 eL hkr hkb C g_fMd_turnFrom G_fMd_turnFrom x1 x2 x3 o10 ?_ FU q2.2 q2.1 0 eo10
    refine a_iload (pc := 107) C dX11_turnFrom_107 0 rfl ?_
    exact a_iret (pc := 109) C E rfl (som1 h) (som2 h) dX11_turnFrom_109
  · replace h := iteF c1 h
    refine a_aload_n (pc := 11) C dX11_turnFrom_11 rfl 0 rfl ?_
    refine a_iload_n (pc := 12) C dX11_turnFrom_12 rfl 2 rfl ?_
    refine a_iload_n (pc := 13) C dX11_turnFrom_13 rfl 3 rfl ?_
    obtain ⟨q11, eq11, h⟩ := bndS h
    refine a_callVI (pc := 14) C [.int x2, .int x3] (ok_fMd_more X.l X.N M x2 x3 eq11) (ble_tr (b := 7) rfl hkb) mw_X11_more wd_1510 rfl rfl rfl rfl rfl rfl rfl dX11_turnFrom_14 (fun z12 => ?_)
    exact a_iret (pc := 17) C E rfl (som1 h) (som2 h) dX11_turnFrom_17
theorem ok_rec_fMd_turnFrom (l : Launch) (N : Rig) : ∀ n : Nat, (∀ (M : Mem) (x1 : Int32) (x2 : Int32) (x3 : Int32) {r : Int32} {M0 : Mem}, (rec_fMd_turnFrom n) M x1 x2 x3 = some (r, M0) → Ct l N yX11_turnFrom cX11_turnFrom 8 (some .int) (7 + n) [.ref (N.2.1 66), .int x1, .int x2, .int x3] M (QcI N (some .int) r M0)) := by
  intro n
  induction n with
  | zero => intro _ _ _ _ _ _ h; cases h
  | succ n ih => exact fun M x1 x2 x3 r M0 h => ok_fMd_turnFrom_F l N (kr := 7 + n) (kc := 7 + (n + 1)) (Nat.ble_eq.mpr (by omega)) (Nat.ble_eq.mpr (by omega)) (rec_fMd_turnFrom n) ih M x1 x2 x3 r M0 h
theorem ok_fMd_turnFrom (l : Launch) (N : Rig) (M : Mem) (x1 : Int32) (x2 : Int32) (x3 : Int32) {r : Int32} {M0 : Mem} (h : fMd_turnFrom M x1 x2 x3 = some (r, M0)) : Ct l N yX11_turnFrom cX11_turnFrom 8 (some .int) 107 [.ref (N.2.1 66), .int x1, .int x2, .int x3] M (QcI N (some .int) r M0) := (ok_rec_fMd_turnFrom l N 100) M x1 x2 x3 h
set_option maxHeartbeats 200000 in
set_option maxRecDepth 100000 in
theorem ok_fMd_byTurns_L107 {X : Amb} (eL : X.nL = 9) (C : Cx X RX11 cX11_byTurns 108) (x3 : Int32) (x1 : Int32) (x2 : Int32) (o : Mem × Int32 × Int32) (K : WA X o.1 [(3, .int x3), (4, .int o.2.1), (5, .int o.2.2)] 173 []) : ∀ (n : Nat) (M : Mem) (x4 : Int32) (x5 : Int32) (x6 : Int32), fMd_byTurns_L107 n M x1 x2 x4 x5 x6 = some o → WA X M [(0, .ref (X.N.2.1 66)), (1, .int x1), (2, .int x2), (3, .int x3), (4, .int x4), (5, .int x5), (6, .int x6)] 107 [] := by
  intro n
  induction n with
  | zero => intro _ _ _ _ h; cases h
  | succ n ih =>
    intro M x4 x5 x6 h
    replace h : fMd_byTurns_L107_F (fMd_byTurns_L107 n) M x1 x2 x4 x5 x6 = some o := h
    unfold fMd_byTurns_L107_F at h
    refine a_iload (pc := 107) C dX11_byTurns_107 6 rfl ?_
    refine a_bipush (pc := 109) C 6 dX11_byTurns_109 rfl ?_
    refine a_icmp_ge (pc := 111) C 173 dX11_byTurns_111 rfl (fun c16 => ?_) (fun c16 => ?_)
    · replace h := iteT c16 h
      refine a_sub (lv2 := [(3, .int x3), (4, .int x4), (5, .int x5)]) [3, 4, 5] rfl ?_
      cases somI h
      exact K
    · replace h := iteF c16 h
      refine a_bipush (pc := 114) C 6 dX11_byTurns_114 rfl ?_
      refine a_iload_n (pc := 116) C dX11_byTurns_116 rfl 2 rfl ?_
      refine a_bipush (pc := 117) C 100 dX11_byTurns_117 rfl ?_
      refine a_idiv (pc := 119) C dX11_byTurns_119 (by decide) ?_
      refine a_imul (pc := 120) C dX11_byTurns_120 ?_
      refine a_iload (pc := 121) C dX11_byTurns_121 6 rfl ?_
      refine a_iadd (pc := 123) C dX11_byTurns_123 ?_
      refine a_istore (pc := 124) C [(7, .int ((6 * (x2 / 100)) + x6)), (0, .ref (X.N.2.1 66)), (1, .int x1), (2, .int x2), (3, .int x3), (4, .int x4), (5, .int x5), (6, .int x6)] dX11_byTurns_124 (nlt eL rfl) rfl ?_
      refine a_aload_n (pc := 126) C dX11_byTurns_126 rfl 1 rfl ?_
      refine a_iload (pc := 127) C dX11_byTurns_127 0 rfl ?_
      refine a_iconst (pc := 129) C 1 dX11_byTurns_129 rfl ?_
      obtain ⟨q17, eq17, h⟩ := bndS h
      refine a_callVV (pc := 130) C [.int ((6 * (x2 / 100)) + x6), .int 1] (ok_fMd_turns X.l X.N M ((6 * (x2 / 100)) + x6) 1 eq17) rfl mw_X11_turns wd_1514 rfl rfl rfl rfl rfl rfl rfl dX11_byTurns_130 ?_
      refine a_aload_n (pc := 133) C dX11_byTurns_133 rfl 1 rfl ?_
      refine a_iconst (pc := 134) C 1 dX11_byTurns_134 rfl ?_
      refine a_iload_n (pc := 135) C dX11_byTurns_135 rfl 2 rfl ?_
      refine a_iload_n (pc := 136) C dX11_byTurns_136 rfl 3 rfl ?_
      obtain ⟨q18, eq18, h⟩ := bndS h
      refine a_callVI (pc := 137) C [.int 1, .int x1, .int x2] (ok_fMd_turnFrom X.l X.N q17 1 x1 x2 eq18) rfl mw_X11_turnFrom wd_1506 rfl rfl rfl rfl rfl rfl rfl dX11_byTurns_137 (fun z19 => ?_)
      refine a_istore (pc := 140) C [(8, .int q18.1), (7, .int ((6 * (x2 / 100)) + x6)), (0, .ref (X.N.2.1 66)), (1, .int x1), (2, .int x2), (3, .int x3), (4, .int x4), (5, .int x5), (6, .int x6)] dX11_byTurns_140 (nlt eL rfl) rfl ?_
      refine a_aload_n (pc := 142) C dX11_byTurns_142 rfl 2 rfl ?_
      refine a_iload (pc := 143) C dX11_byTurns_143 1 rfl ?_
      refine a_iconst (pc := 145) C 2 dX11_byTurns_145 rfl ?_
      obtain ⟨q20, eq20, h⟩ := bndS h
      refine a_callVV (pc := 146) C [.int ((6 * (x2 / 100)) + x6), .int 2] (ok_fMd_turns X.l X.N q18.2 ((6 * (x2 / 100)) + x6) 2 eq20) rfl mw_X11_turns wd_1514 rfl rfl rfl rfl rfl rfl rfl dX11_byTurns_146 ?_
      refine a_iload (pc := 149) C dX11_byTurns_149 0 rfl ?_
      refine a_iload (pc := 151) C dX11_byTurns_151 6 rfl ?_
      refine a_icmp_gt (pc := 153) C 159 dX11_byTurns_153 rfl (fun c21 => ?_) (fun c21 => ?_)
      · replace h := iteT c21 h
        refine a_iload (pc := 159) C dX11_byTurns_159 0 rfl ?_
        refine a_istore (pc := 161) C [(4, .int q18.1), (8, .int q18.1), (7, .int ((6 * (x2 / 100)) + x6)), (0, .ref (X.N.2.1 66)), (1, .int x1), (2, .int x2), (3, .int x3), (5, .int x5), (6, .int x6)] dX11_byTurns_161 (nlt eL rfl) rfl ?_
        refine a_iload (pc := 163) C dX11_byTurns_163 8 rfl ?_
        refine a_istore (pc := 165) C [(5, .int x6), (4, .int q18.1), (8, .int q18.1), (7, .int ((6 * (x2 / 100)) + x6)), (0, .ref (X.N.2.1 66)), (1, .int x1), (2, .int x2), (3, .int x3), (6, .int x6)] dX11_byTurns_165 (nlt eL rfl) rfl ?_
        refine a_iinc (pc := 167) C 8 (x6 + 1) [(6, .int (x6 + 1)), (5, .int x6), (4, .int q18.1), (8, .int q18.1), (7, .int ((6 * (x2 / 100)) + x6)), (0, .ref (X.N.2.1 66)), (1, .int x1), (2, .int x2), (3, .int x3)] dX11_byTurns_167 rfl rfl (nlt eL rfl) rfl ?_
        refine a_goto (pc := 170) C 107 dX11_byTurns_170 rfl ?_
        refine a_sub [5, 6, 7, 8, 2, 1, 0] rfl ?_
        exact ih q20 q18.1 x6 (x6 + 1) h
      · replace h := iteF c21 h
        refine a_goto (pc := 156) C 167 dX11_byTurns_156 rfl ?_
        refine a_iinc (pc := 167) C 8 (x6 + 1) [(6, .int (x6 + 1)), (8, .int q18.1), (7, .int ((6 * (x2 / 100)) + x6)), (0, .ref (X.N.2.1 66)), (1, .int x1), (2, .int x2), (3, .int x3), (4, .int x4), (5, .int x5)] dX11_byTurns_167 rfl rfl (nlt eL rfl) rfl ?_
        refine a_goto (pc := 170) C 107 dX11_byTurns_170 rfl ?_
        refine a_sub [3, 4, 5, 6, 7, 8, 0] rfl ?_
        exact ih q20 x4 x5 (x6 + 1) h
set_option maxHeartbeats 200000 in
set_option maxRecDepth 100000 in
theorem ok_fMd_byTurns (l : Launch) (N : Rig) (M : Mem) (x1 : Int32) (x2 : Int32) (x3 : Int32) {r : Int32} {M0 : Mem} (h : fMd_byTurns M x1 x2 x3 = some (r, M0)) : Ct l N yX11_byTurns cX11_byTurns 9 (some .int) 108 [.ref (N.2.1 66), .int x1, .int x2, .int x3] M (QcI N (some .int) r M0) := by
  refine ct_of (by decide) rfl ?_
  intro X el eN eL C E
  subst el
  subst eN
  unfold fMd_byTurns at h
  show WA X M [(0, .ref (X.N.2.1 66)), (1, .int x1), (2, .int x2), (3, .int x3)] 0 []
  refine a_iload_n (pc := 0) C dX11_byTurns_0 rfl 1 rfl ?_
  refine a_if_lt (pc := 1) C 37 dX11_byTurns_1 rfl (fun c1 => ?_) (fun c1 => ?_)
  · replace h := iteT c1 h
    refine a_ldc_w (pc := 37) C (v := (-2000000000)) dX11_byTurns_37 wd_1429 ?_
    exact a_iret (pc := 40) C E rfl (som1 h) (som2 h) dX11_byTurns_40
  · replace h := iteF c1 h
    refine a_aload_n (pc := 4) C dX11_byTurns_4 rfl 0 rfl ?_
    refine a_iload_n (pc := 5) C dX11_byTurns_5 rfl 1 rfl ?_
    refine a_bipush (pc := 6) C 10 dX11_byTurns_6 rfl ?_
    refine a_idiv (pc := 8) C dX11_byTurns_8 (by decide) ?_
    refine a_callVI (pc := 9) C [.int (x1 / 10)] (ok_fMd_isOne X.l X.N M (x1 / 10)) rfl mw_X11_isOne wd_1247 rfl rfl rfl rfl rfl rfl rfl dX11_byTurns_9 (fun z2 => ?_)
    refine a_if_eq (pc := 12) C 37 dX11_byTurns_12 rfl (fun c3 => ?_) (fun c3 => ?_)
    · replace h := iteT c3 h
      refine a_ldc_w (pc := 37) C (v := (-2000000000)) dX11_byTurns_37 wd_1429 ?_
      exact a_iret (pc := 40) C E rfl (som1 h) (som2 h) dX11_byTurns_40
    · replace h := iteF c3 h
      refine a_aload_n (pc := 15) C dX11_byTurns_15 rfl 0 rfl ?_
      refine a_iload_n (pc := 16) C dX11_byTurns_16 rfl 1 rfl ?_
      refine a_bipush (pc := 17) C 10 dX11_byTurns_17 rfl ?_
      refine a_irem (pc := 19) C dX11_byTurns_19 (by decide) ?_
      refine a_callVI (pc := 20) C [.int (rmI x1 10)] (ok_fMd_isOne X.l X.N M (rmI x1 10)) rfl mw_X11_isOne wd_1247 rfl rfl rfl rfl rfl rfl rfl dX11_byTurns_20 (fun z4 => ?_)
      refine a_if_eq (pc := 23) C 37 dX11_byTurns_23 rfl (fun c5 => ?_) (fun c5 => ?_)
      · replace h := iteT c5 h
        refine a_ldc_w (pc := 37) C (v := (-2000000000)) dX11_byTurns_37 wd_1429 ?_
        exact a_iret (pc := 40) C E rfl (som1 h) (som2 h) dX11_byTurns_40
      · replace h := iteF c5 h
        refine a_iload_n (pc := 26) C dX11_byTurns_26 rfl 1 rfl ?_
        refine a_bipush (pc := 27) C 10 dX11_byTurns_27 rfl ?_
        refine a_idiv (pc := 29) C dX11_byTurns_29 (by decide) ?_
        refine a_iload_n (pc := 30) C dX11_byTurns_30 rfl 1 rfl ?_
        refine a_bipush (pc := 31) C 10 dX11_byTurns_31 rfl ?_
        refine a_irem (pc := 33) C dX11_byTurns_33 (by decide) ?_
        refine a_icmp_ne (pc := 34) C 41 dX11_byTurns_34 rfl (fun c6 => ?_) (fun c6 => ?_)
        · replace h := iteT c6 h
          refine a_iload_n (pc := 41) C dX11_byTurns_41 rfl 2 rfl ?_
          refine a_if_lt (pc := 42) C 87 dX11_byTurns_42 rfl (fun c7 => ?_) (fun c7 => ?_)
          · replace h := iteT c7 h
            refine a_ldc_w (pc := 87) C (v := (-2000000000)) dX11_byTurns_87 wd_1429 ?_
            exact a_iret (pc := 90) C E rfl (som1 h) (som2 h) dX11_byTurns_90
          · replace h := iteF c7 h
            refine a_iload_n (pc := 45) C dX11_byTurns_45 rfl 2 rfl ?_
            refine a_bipush (pc := 46) C 100 dX11_byTurns_46 rfl ?_
            refine a_idiv (pc := 48) C dX11_byTurns_48 (by decide) ?_
            refine a_bipush (pc := 49) C 6 dX11_byTurns_49 rfl ?_
            refine a_icmp_ge (pc := 51) C 87 dX11_byTurns_51 rfl (fun c8 => ?_) (fun c8 => ?_)
            · replace h := iteT c8 h
              refine a_ldc_w (pc := 87) C (v := (-2000000000)) dX11_byTurns_87 wd_1429 ?_
              exact a_iret (pc := 90) C E rfl (som1 h) (som2 h) dX11_byTurns_90
            · replace h := iteF c8 h
              refine a_iload_n (pc := 54) C dX11_byTurns_54 rfl 2 rfl ?_
              refine a_bipush (pc := 55) C 10 dX11_byTurns_55 rfl ?_
              refine a_idiv (pc := 57) C dX11_byTurns_57 (by decide) ?_
              refine a_bipush (pc := 58) C 10 dX11_byTurns_58 rfl ?_
              refine a_irem (pc := 60) C dX11_byTurns_60 (by decide) ?_
              refine a_iconst (pc := 61) C 1 dX11_byTurns_61 rfl ?_
              refine a_iconst (pc := 62) C 3 dX11_byTurns_62 rfl ?_
              refine a_callSI (pc := 63) C [.int (rmI (x2 / 10) 10), .int 1, .int 3] (ok_fMd_within X.l X.N M (rmI (x2 / 10) 10) 1 3) rfl mw_X11_within wd_1220 rfl rfl rfl dX11_byTurns_63 (fun z9 => ?_)
              refine a_if_eq (pc := 66) C 87 dX11_byTurns_66 rfl (fun c10 => ?_) (fun c10 => ?_)
              · replace h := iteT c10 h
                refine a_ldc_w (pc := 87) C (v := (-2000000000)) dX11_byTurns_87 wd_1429 ?_
                exact a_iret (pc := 90) C E rfl (som1 h) (som2 h) dX11_byTurns_90
              · replace h := iteF c10 h
                refine a_iload_n (pc := 69) C dX11_byTurns_69 rfl 2 rfl ?_
                refine a_bipush (pc := 70) C 10 dX11_byTurns_70 rfl ?_
                refine a_irem (pc := 72) C dX11_byTurns_72 (by decide) ?_
                refine a_bipush (pc := 73) C 6 dX11_byTurns_73 rfl ?_
                refine a_icmp_gt (pc := 75) C 87 dX11_byTurns_75 rfl (fun c11 => ?_) (fun c11 => ?_)
                · replace h := iteT c11 h
                  refine a_ldc_w (pc := 87) C (v := (-2000000000)) dX11_byTurns_87 wd_1429 ?_
                  exact a_iret (pc := 90) C E rfl (som1 h) (som2 h) dX11_byTurns_90
                · replace h := iteF c11 h
                  refine a_iload_n (pc := 78) C dX11_byTurns_78 rfl 3 rfl ?_
                  refine a_iconst (pc := 79) C 0 dX11_byTurns_79 rfl ?_
                  refine a_iconst (pc := 80) C 1 dX11_byTurns_80 rfl ?_
                  refine a_callSI (pc := 81) C [.int x3, .int 0, .int 1] (ok_fMd_within X.l X.N M x3 0 1) rfl mw_X11_within wd_1220 rfl rfl rfl dX11_byTurns_81 (fun z12 => ?_)
                  refine a_if_ne (pc := 84) C 91 dX11_byTurns_84 rfl (fun c13 => ?_) (fun c13 => ?_)
                  · replace h := iteT c13 h
                    refine a_aload_n (pc := 91) C dX11_byTurns_91 rfl 0 rfl ?_
                    refine a_iconst (pc := 92) C 1 dX11_byTurns_92 rfl ?_
                    refine a_iload_n (pc := 93) C dX11_byTurns_93 rfl 1 rfl ?_
                    refine a_iload_n (pc := 94) C dX11_byTurns_94 rfl 2 rfl ?_
                    obtain ⟨q14, eq14, h⟩ := bndS h
                    refine a_callVI (pc := 95) C [.int 1, .int x1, .int x2] (ok_fMd_turnFrom X.l X.N M 1 x1 x2 eq14) rfl mw_X11_turnFrom wd_1506 rfl rfl rfl rfl rfl rfl rfl dX11_byTurns_95 (fun z15 => ?_)
                    refine a_istore (pc := 98) C [(4, .int q14.1), (0, .ref (X.N.2.1 66)), (1, .int x1), (2, .int x2), (3, .int x3)] dX11_byTurns_98 (nlt eL rfl) rfl ?_
                    refine a_bipush (pc := 100) C 6 dX11_byTurns_100 rfl ?_
                    refine a_istore (pc := 102) C [(5, .int 6), (4, .int q14.1), (0, .ref (X.N.2.1 66)), (1, .int x1), (2, .int x2), (3, .int x3)] dX11_byTurns_102 (nlt eL rfl) rfl ?_
                    refine a_iconst (pc := 104) C 0 dX11_byTurns_104 rfl ?_
                    refine a_istore (pc := 105) C [(6, .int 0), (5, .int 6), (4, .int q14.1), (0, .ref (X.N.2.1 66)), (1, .int x1), (2, .int x2), (3, .int x3)] dX11_byTurns_105 (nlt eL rfl) rfl ?_
                    refine a_sub (lv2 := [(0, .ref (X.N.2.1 66)), (1, .int x1), (2, .int x2), (3, .int x3), (4, .int q14.1), (5, .int 6), (6, .int 0)]) [3, 4, 5, 6, 2, 1, 0] rfl ?_
                    obtain ⟨o22, eo22, h⟩ := bndS h
                    refine ok_fMd_byTurns_L107 eL C x3 x1 x2 o22 ?_ FU q14.2 q14.1 6 0 eo22
                    refine a_iload_n (pc := 173) C dX11_byTurns_173 rfl 0 rfl ?_
                    refine a_if_ne (pc := 174) C 182 dX11_byTurns_174 rfl (fun c23 => ?_) (fun c23 => ?_)
                    · replace h := iteT c23 h
                      refine a_iload (pc := 182) C dX11_byTurns_182 2 rfl ?_
                      exact a_iret (pc := 184) C E rfl (som1 h) (som2 h) dX11_byTurns_184
                    · replace h := iteF c23 h
                      refine a_iload (pc := 177) C dX11_byTurns_177 1 rfl ?_
                      refine a_goto (pc := 179) C 184 dX11_byTurns_179 rfl ?_
                      exact a_iret (pc := 184) C E rfl (som1 h) (som2 h) dX11_byTurns_184
                  · replace h := iteF c13 h
                    refine a_ldc_w (pc := 87) C (v := (-2000000000)) dX11_byTurns_87 wd_1429 ?_
                    exact a_iret (pc := 90) C E rfl (som1 h) (som2 h) dX11_byTurns_90
        · replace h := iteF c6 h
          refine a_ldc_w (pc := 37) C (v := (-2000000000)) dX11_byTurns_37 wd_1429 ?_
          exact a_iret (pc := 40) C E rfl (som1 h) (som2 h) dX11_byTurns_40
set_option maxHeartbeats 200000 in
set_option maxRecDepth 100000 in
theorem ok_fMd_drawn_L125 {X : Amb} (eL : X.nL = 10) (C : Cx X RX11 cX11_drawn 5) (x3 : Int32) (x5 : Int32) (x6 : Int32) (x7 : Int32) (x2 : Int32) (x4 : Int32) (x8 : Int32) (o : Mem) (K : WA X o [(0, .ref (X.N.2.1 66)), (2, .int x2), (3, .int x3), (4, .int x4), (5, .int x5), (6, .int x6), (7, .int x7)] 181 []) : ∀ (n : Nat) (M : Mem) (x9 : Int32), fMd_drawn_L125 n M x2 x4 x8 x9 = some o → WA X M [(0, .ref (X.N.2.1 66)), (2, .int x2), (3, .int x3), (4, .int x4), (5, .int x5), (6, .int x6), (7, .int x7), (8, .int x8), (9, .int x9)] 125 [] := by
  intro n
  induction n with
  | zero => intro _ _ h; cases h
  | succ n ih =>
    intro M x9 h
    replace h : fMd_drawn_L125_F (fMd_drawn_L125 n) M x2 x4 x8 x9 = some o := h
    unfold fMd_drawn_L125_F at h
    refine a_iload (pc := 125) C dX11_drawn_125 8 rfl ?_
    refine a_aload_n (pc := 127) C dX11_drawn_127 rfl 0 rfl ?_
    refine gf_11_3 (pc := 128) C wd_1080 dX11_drawn_128 ?_
    refine a_icmp_ge (pc := 131) C 181 dX11_drawn_131 rfl (fun c11 => ?_) (fun c11 => ?_)
    · replace h := iteT c11 h
      refine a_sub (lv2 := [(0, .ref (X.N.2.1 66)), (2, .int x2), (3, .int x3), (4, .int x4), (5, .int x5), (6, .int x6), (7, .int x7)]) [0, 1, 2, 3, 4, 5, 6] rfl ?_
      cases somI h
      exact K
    · replace h := iteF c11 h
      refine a_aload_n (pc := 134) C dX11_drawn_134 rfl 0 rfl ?_
      refine gf_11_4 (pc := 135) C wd_1081 dX11_drawn_135 ?_
      refine a_iload (pc := 138) C dX11_drawn_138 8 rfl ?_
      obtain ⟨v12, ev12, h⟩ := bndS h
      refine a_iald (pc := 140) C rfl ev12 dX11_drawn_140 ?_
      refine a_iload (pc := 141) C dX11_drawn_141 7 rfl ?_
      refine a_icmp_ne (pc := 143) C 175 dX11_drawn_143 rfl (fun c13 => ?_) (fun c13 => ?_)
      · replace h := iteT c13 h
        refine a_iinc (pc := 175) C 8 (x9 + 1) [(9, .int (x9 + 1)), (0, .ref (X.N.2.1 66)), (2, .int x2), (3, .int x3), (4, .int x4), (5, .int x5), (6, .int x6), (7, .int x7), (8, .int x8)] dX11_drawn_175 rfl rfl (nlt eL rfl) rfl ?_
        refine a_goto (pc := 178) C 125 dX11_drawn_178 rfl ?_
        refine a_sub [1, 2, 3, 4, 5, 6, 7, 8, 0] rfl ?_
        exact ih M (x9 + 1) h
      · replace h := iteF c13 h
        refine a_iload (pc := 146) C dX11_drawn_146 3 rfl ?_
        refine a_bipush (pc := 148) C 16 dX11_drawn_148 rfl ?_
        refine a_iushr (pc := 150) C dX11_drawn_150 ?_
        refine a_bipush (pc := 151) C 12 dX11_drawn_151 rfl ?_
        refine a_irem (pc := 153) C dX11_drawn_153 (by decide) ?_
        refine a_iload_n (pc := 154) C dX11_drawn_154 rfl 1 rfl ?_
        refine a_bipush (pc := 155) C 100 dX11_drawn_155 rfl ?_
        refine a_irem (pc := 157) C dX11_drawn_157 (by decide) ?_
        refine a_icmp_ge (pc := 158) C 175 dX11_drawn_158 rfl (fun c14 => ?_) (fun c14 => ?_)
        · replace h := iteT c14 h
          refine a_iinc (pc := 175) C 8 (x9 + 1) [(9, .int (x9 + 1)), (0, .ref (X.N.2.1 66)), (2, .int x2), (3, .int x3), (4, .int x4), (5, .int x5), (6, .int x6), (7, .int x7), (8, .int x8)] dX11_drawn_175 rfl rfl (nlt eL rfl) rfl ?_
          refine a_goto (pc := 178) C 125 dX11_drawn_178 rfl ?_
          refine a_sub [1, 2, 3, 4, 5, 6, 7, 8, 0] rfl ?_
          exact ih M (x9 + 1) h
        · replace h := iteF c14 h
          refine a_aload_n (pc := 161) C dX11_drawn_161 rfl 0 rfl ?_
          refine gf_11_4 (pc := 162) C wd_1081 dX11_drawn_162 ?_
          refine a_bipush (pc := 165) C 24 dX11_drawn_165 rfl ?_
          refine a_iload (pc := 167) C dX11_drawn_167 8 rfl ?_
          refine a_iadd (pc := 169) C dX11_drawn_169 ?_
          refine a_dup2 (pc := 170) C dX11_drawn_170 rfl rfl ?_
          obtain ⟨v15, ev15, h⟩ := bndS h
          refine a_iald (pc := 171) C rfl ev15 dX11_drawn_171 ?_
          refine a_iconst (pc := 172) C 2 dX11_drawn_172 rfl ?_
          refine a_idiv (pc := 173) C dX11_drawn_173 (by decide) ?_
          obtain ⟨M16, eM16, h⟩ := bndS h
          refine a_iast (pc := 174) C rfl eM16 dX11_drawn_174 ?_
          refine a_iinc (pc := 175) C 8 (x9 + 1) [(9, .int (x9 + 1)), (0, .ref (X.N.2.1 66)), (2, .int x2), (3, .int x3), (4, .int x4), (5, .int x5), (6, .int x6), (7, .int x7), (8, .int x8)] dX11_drawn_175 rfl rfl (nlt eL rfl) rfl ?_
          refine a_goto (pc := 178) C 125 dX11_drawn_178 rfl ?_
          refine a_sub [1, 2, 3, 4, 5, 6, 7, 8, 0] rfl ?_
          exact ih M16 (x9 + 1) h
set_option maxHeartbeats 200000 in
set_option maxRecDepth 100000 in
theorem ok_fMd_drawn_L88 {X : Amb} (eL : X.nL = 10) (C : Cx X RX11 cX11_drawn 5) (x3 : Int32) (x5 : Int32) (x6 : Int32) (x2 : Int32) (o : Mem × Int32) (K : WA X o.1 [(0, .ref (X.N.2.1 66)), (2, .int x2), (3, .int x3), (4, .int o.2), (5, .int x5), (6, .int x6)] 191 []) : ∀ (n : Nat) (M : Mem) (x4 : Int32) (x7 : Int32), fMd_drawn_L88 n M x2 x4 x7 = some o → WA X M [(0, .ref (X.N.2.1 66)), (2, .int x2), (3, .int x3), (4, .int x4), (5, .int x5), (6, .int x6), (7, .int x7)] 88 [] := by
  intro n
  induction n with
  | zero => intro _ _ _ h; cases h
  | succ n ih =>
    intro M x4 x7 h
    replace h : fMd_drawn_L88_F (fMd_drawn_L88 n) M x2 x4 x7 = some o := h
    unfold fMd_drawn_L88_F at h
    refine a_iload (pc := 88) C dX11_drawn_88 6 rfl ?_
    refine a_iload_n (pc := 90) C dX11_drawn_90 rfl 1 rfl ?_
    refine a_bipush (pc := 91) C 100 dX11_drawn_91 rfl ?_
    refine a_idiv (pc := 93) C dX11_drawn_93 (by decide) ?_
    refine a_bipush (pc := 94) C 100 dX11_drawn_94 rfl ?_
    refine a_irem (pc := 96) C dX11_drawn_96 (by decide) ?_
    refine a_icmp_ge (pc := 97) C 191 dX11_drawn_97 rfl (fun c10 => ?_) (fun c10 => ?_)
    · replace h := iteT c10 h
      refine a_sub (lv2 := [(0, .ref (X.N.2.1 66)), (2, .int x2), (3, .int x3), (4, .int x4), (5, .int x5), (6, .int x6)]) [0, 1, 2, 3, 4, 5] rfl ?_
      cases somI h
      exact K
    · replace h := iteF c10 h
      refine a_iload (pc := 100) C dX11_drawn_100 3 rfl ?_
      refine a_ldc_w (pc := 102) C (v := 1103515245) dX11_drawn_102 wd_1522 ?_
      refine a_imul (pc := 105) C dX11_drawn_105 ?_
      refine a_sipush (pc := 106) C 12345 dX11_drawn_106 rfl ?_
      refine a_iadd (pc := 109) C dX11_drawn_109 ?_
      refine a_istore (pc := 110) C [(4, .int ((x4 * 1103515245) + 12345)), (0, .ref (X.N.2.1 66)), (2, .int x2), (3, .int x3), (5, .int x5), (6, .int x6), (7, .int x7)] dX11_drawn_110 (nlt eL rfl) rfl ?_
      refine a_iload (pc := 112) C dX11_drawn_112 0 rfl ?_
      refine a_bipush (pc := 114) C 8 dX11_drawn_114 rfl ?_
      refine a_iushr (pc := 116) C dX11_drawn_116 ?_
      refine a_bipush (pc := 117) C 36 dX11_drawn_117 rfl ?_
      refine a_irem (pc := 119) C dX11_drawn_119 (by decide) ?_
      refine a_istore (pc := 120) C [(8, .int (rmI (usI ((x4 * 1103515245) + 12345) 8) 36)), (4, .int ((x4 * 1103515245) + 12345)), (0, .ref (X.N.2.1 66)), (2, .int x2), (3, .int x3), (5, .int x5), (6, .int x6), (7, .int x7)] dX11_drawn_120 (nlt eL rfl) rfl ?_
      refine a_iconst (pc := 122) C 0 dX11_drawn_122 rfl ?_
      refine a_istore (pc := 123) C [(9, .int 0), (8, .int (rmI (usI ((x4 * 1103515245) + 12345) 8) 36)), (4, .int ((x4 * 1103515245) + 12345)), (0, .ref (X.N.2.1 66)), (2, .int x2), (3, .int x3), (5, .int x5), (6, .int x6), (7, .int x7)] dX11_drawn_123 (nlt eL rfl) rfl ?_
      refine a_sub (lv2 := [(0, .ref (X.N.2.1 66)), (2, .int x2), (3, .int x3), (4, .int ((x4 * 1103515245) + 12345)), (5, .int x5), (6, .int x6), (7, .int x7), (8, .int (rmI (usI ((x4 * 1103515245) + 12345) 8) 36)), (9, .int 0)]) [3, 4, 5, 2, 6, 7, 8, 1, 0] rfl ?_
      obtain ⟨o17, eo17, h⟩ := bndS h
      refine ok_fMd_drawn_L125 eL C x3 x5 x6 x7 x2 ((x4 * 1103515245) + 12345) (rmI (usI ((x4 * 1103515245) + 12345) 8) 36) o17 ?_ FU M 0 eo17
      refine a_aload_n (pc := 181) C dX11_drawn_181 rfl 0 rfl ?_
      obtain ⟨q18, eq18, h⟩ := bndS h
      refine a_callVV (pc := 182) C [] (ok_fMd_passes X.l X.N o17 eq18) rfl mw_X11_passes wd_1376 rfl rfl rfl rfl rfl rfl rfl dX11_drawn_182 ?_
      refine a_iinc (pc := 185) C 6 (x7 + 1) [(7, .int (x7 + 1)), (0, .ref (X.N.2.1 66)), (2, .int x2), (3, .int x3), (4, .int ((x4 * 1103515245) + 12345)), (5, .int x5), (6, .int x6)] dX11_drawn_185 rfl rfl (nlt eL rfl) rfl ?_
      refine a_goto (pc := 188) C 88 dX11_drawn_188 rfl ?_
      refine a_sub [1, 2, 3, 4, 5, 6, 0] rfl ?_
      exact ih q18 ((x4 * 1103515245) + 12345) (x7 + 1) h
set_option maxHeartbeats 200000 in
set_option maxRecDepth 100000 in
theorem ok_fMd_drawn_J214_194 {X : Amb} (eL : X.nL = 10) (C : Cx X RX11 cX11_drawn 5) (x2 : Int32) (x4 : Int32) (x6 : Int32) (x3 : Int32) (M : Mem) (o : Int32) (K : WA X M [(0, .ref (X.N.2.1 66)), (2, .int x2), (3, .int x3), (4, .int x4), (5, .int o), (6, .int x6)] 231 []) (ihf : Mem → Int32 → Int32 → Int32 → Option (Int32)) (ih : ∀ (x5 : Int32) (x7 : Int32), ihf M x3 x5 x7 = some o → WA X M [(0, .ref (X.N.2.1 66)), (2, .int x2), (3, .int x3), (4, .int x4), (5, .int x5), (6, .int x6), (7, .int x7)] 194 []) (x5 : Int32) (x7 : Int32) (h : fMd_drawn_J214_194 ihf M x3 x5 x7 = some o) : WA X M [(0, .ref (X.N.2.1 66)), (2, .int x2), (3, .int x3), (4, .int x4), (5, .int x5), (6, .int x6), (7, .int x7)] 214 [] := by
  unfold fMd_drawn_J214_194 at h
  refine a_iload (pc := 214) C dX11_drawn_214 4 rfl ?_
  refine a_aload_n (pc := 216) C dX11_drawn_216 rfl 0 rfl ?_
  refine a_iload (pc := 217) C dX11_drawn_217 6 rfl ?_
  obtain ⟨v22, ev22, h⟩ := bndS h
  refine a_callVI (pc := 219) C [.int x7] (ok_fMd_has X.l X.N M x7 ev22) rfl mw_X11_has wd_1380 rfl rfl rfl rfl rfl rfl rfl dX11_drawn_219 (fun z23 => ?_)
  refine a_iadd (pc := 222) C dX11_drawn_222 ?_
  refine a_istore (pc := 223) C [(5, .int (x5 + v22)), (0, .ref (X.N.2.1 66)), (2, .int x2), (3, .int x3), (4, .int x4), (6, .int x6), (7, .int x7)] dX11_drawn_223 (nlt eL rfl) rfl ?_
  refine a_iinc (pc := 225) C 6 (x7 + 1) [(7, .int (x7 + 1)), (5, .int (x5 + v22)), (0, .ref (X.N.2.1 66)), (2, .int x2), (3, .int x3), (4, .int x4), (6, .int x6)] dX11_drawn_225 rfl rfl (nlt eL rfl) rfl ?_
  refine a_goto (pc := 228) C 194 dX11_drawn_228 rfl ?_
  refine a_sub [2, 3, 4, 5, 1, 6, 0] rfl ?_
  exact ih (x5 + v22) (x7 + 1) h
set_option maxHeartbeats 200000 in
set_option maxRecDepth 100000 in
theorem ok_fMd_drawn_L194 {X : Amb} (eL : X.nL = 10) (C : Cx X RX11 cX11_drawn 5) (x2 : Int32) (x4 : Int32) (x6 : Int32) (x3 : Int32) (M : Mem) (o : Int32) (K : WA X M [(0, .ref (X.N.2.1 66)), (2, .int x2), (3, .int x3), (4, .int x4), (5, .int o), (6, .int x6)] 231 []) : ∀ (n : Nat) (x5 : Int32) (x7 : Int32), fMd_drawn_L194 n M x3 x5 x7 = some o → WA X M [(0, .ref (X.N.2.1 66)), (2, .int x2), (3, .int x3), (4, .int x4), (5, .int x5), (6, .int x6), (7, .int x7)] 194 [] := by
  intro n
  induction n with
  | zero => intro _ _ h; cases h
  | succ n ih =>
    intro x5 x7 h
    replace h : fMd_drawn_L194_F (fMd_drawn_L194 n) M x3 x5 x7 = some o := h
    unfold fMd_drawn_L194_F at h
    refine a_iload (pc := 194) C dX11_drawn_194 6 rfl ?_
    refine a_aload_n (pc := 196) C dX11_drawn_196 rfl 0 rfl ?_
    refine gf_11_3 (pc := 197) C wd_1080 dX11_drawn_197 ?_
    refine a_icmp_ge (pc := 200) C 231 dX11_drawn_200 rfl (fun c20 => ?_) (fun c20 => ?_)
    · replace h := iteT c20 h
      refine a_sub (lv2 := [(0, .ref (X.N.2.1 66)), (2, .int x2), (3, .int x3), (4, .int x4), (5, .int x5), (6, .int x6)]) [0, 1, 2, 3, 4, 5] rfl ?_
      cases somI h
      exact K
    · replace h := iteF c20 h
      refine a_iload_n (pc := 203) C dX11_drawn_203 rfl 2 rfl ?_
      refine a_iconst (pc := 204) C (-1) dX11_drawn_204 rfl ?_
      refine a_icmp_eq (pc := 205) C 214 dX11_drawn_205 rfl (fun c21 => ?_) (fun c21 => ?_)
      · replace h := iteT c21 h
        refine a_sub (lv2 := [(0, .ref (X.N.2.1 66)), (2, .int x2), (3, .int x3), (4, .int x4), (5, .int x5), (6, .int x6), (7, .int x7)]) [0, 1, 2, 3, 4, 5, 6] rfl ?_
        exact ok_fMd_drawn_J214_194 eL C x2 x4 x6 x3 M o K _ ih x5 x7 h
      · replace h := iteF c21 h
        refine a_iload (pc := 208) C dX11_drawn_208 6 rfl ?_
        refine a_iload_n (pc := 210) C dX11_drawn_210 rfl 2 rfl ?_
        refine a_icmp_ne (pc := 211) C 225 dX11_drawn_211 rfl (fun c24 => ?_) (fun c24 => ?_)
        · replace h := iteT c24 h
          refine a_iinc (pc := 225) C 6 (x7 + 1) [(7, .int (x7 + 1)), (0, .ref (X.N.2.1 66)), (2, .int x2), (3, .int x3), (4, .int x4), (5, .int x5), (6, .int x6)] dX11_drawn_225 rfl rfl (nlt eL rfl) rfl ?_
          refine a_goto (pc := 228) C 194 dX11_drawn_228 rfl ?_
          refine a_sub [1, 2, 3, 4, 5, 6, 0] rfl ?_
          exact ih x5 (x7 + 1) h
        · replace h := iteF c24 h
          refine a_sub (lv2 := [(0, .ref (X.N.2.1 66)), (2, .int x2), (3, .int x3), (4, .int x4), (5, .int x5), (6, .int x6), (7, .int x7)]) [0, 1, 2, 3, 4, 5, 6] rfl ?_
          exact ok_fMd_drawn_J214_194 eL C x2 x4 x6 x3 M o K _ ih x5 x7 h
set_option maxHeartbeats 200000 in
set_option maxRecDepth 100000 in
theorem ok_fMd_drawn_L75 {X : Amb} (eL : X.nL = 10) (C : Cx X RX11 cX11_drawn 5) (x2 : Int32) (x3 : Int32) (o : Mem × Int32) (K : WA X o.1 [(5, .int o.2)] 245 []) : ∀ (n : Nat) (M : Mem) (x4 : Int32) (x5 : Int32) (x6 : Int32), fMd_drawn_L75 n M x2 x3 x4 x5 x6 = some o → WA X M [(0, .ref (X.N.2.1 66)), (2, .int x2), (3, .int x3), (4, .int x4), (5, .int x5), (6, .int x6)] 75 [] := by
  intro n
  induction n with
  | zero => intro _ _ _ _ h; cases h
  | succ n ih =>
    intro M x4 x5 x6 h
    replace h : fMd_drawn_L75_F (fMd_drawn_L75 n) M x2 x3 x4 x5 x6 = some o := h
    unfold fMd_drawn_L75_F at h
    refine a_iload (pc := 75) C dX11_drawn_75 5 rfl ?_
    refine a_iload_n (pc := 77) C dX11_drawn_77 rfl 1 rfl ?_
    refine a_sipush (pc := 78) C 10000 dX11_drawn_78 rfl ?_
    refine a_idiv (pc := 81) C dX11_drawn_81 (by decide) ?_
    refine a_icmp_ge (pc := 82) C 245 dX11_drawn_82 rfl (fun c9 => ?_) (fun c9 => ?_)
    · replace h := iteT c9 h
      refine a_sub (lv2 := [(5, .int x5)]) [4] rfl ?_
      cases somI h
      exact K
    · replace h := iteF c9 h
      refine a_iconst (pc := 85) C 0 dX11_drawn_85 rfl ?_
      refine a_istore (pc := 86) C [(7, .int 0), (0, .ref (X.N.2.1 66)), (2, .int x2), (3, .int x3), (4, .int x4), (5, .int x5), (6, .int x6)] dX11_drawn_86 (nlt eL rfl) rfl ?_
      refine a_sub (lv2 := [(0, .ref (X.N.2.1 66)), (2, .int x2), (3, .int x3), (4, .int x4), (5, .int x5), (6, .int x6), (7, .int 0)]) [1, 2, 3, 4, 5, 6, 0] rfl ?_
      obtain ⟨o19, eo19, h⟩ := bndS h
      refine ok_fMd_drawn_L88 eL C x3 x5 x6 x2 o19 ?_ FU M x4 0 eo19
      refine a_iconst (pc := 191) C 0 dX11_drawn_191 rfl ?_
      refine a_istore (pc := 192) C [(7, .int 0), (0, .ref (X.N.2.1 66)), (2, .int x2), (3, .int x3), (4, .int o19.2), (5, .int x5), (6, .int x6)] dX11_drawn_192 (nlt eL rfl) rfl ?_
      refine a_sub (lv2 := [(0, .ref (X.N.2.1 66)), (2, .int x2), (3, .int x3), (4, .int o19.2), (5, .int x5), (6, .int x6), (7, .int 0)]) [1, 2, 3, 4, 5, 6, 0] rfl ?_
      obtain ⟨o25, eo25, h⟩ := bndS h
      refine ok_fMd_drawn_L194 eL C x2 o19.2 x6 x3 o19.1 o25 ?_ FU x5 0 eo25
      refine a_aload_n (pc := 231) C dX11_drawn_231 rfl 0 rfl ?_
      refine a_aload_n (pc := 232) C dX11_drawn_232 rfl 0 rfl ?_
      refine gf_11_43 (pc := 233) C wd_1120 dX11_drawn_233 ?_
      obtain ⟨q26, eq26, h⟩ := bndS h
      refine a_callVV (pc := 236) C [.ref (X.N.2.1 93)] (ok_fMd_laysBack X.l X.N o19.1 93 kp93 eq26) rfl mw_X11_laysBack wd_1384 rfl rfl rfl rfl rfl rfl rfl dX11_drawn_236 ?_
      refine a_iinc (pc := 239) C 5 (x6 + 1) [(6, .int (x6 + 1)), (0, .ref (X.N.2.1 66)), (2, .int x2), (3, .int x3), (4, .int o19.2), (5, .int o25)] dX11_drawn_239 rfl rfl (nlt eL rfl) rfl ?_
      refine a_goto (pc := 242) C 75 dX11_drawn_242 rfl ?_
      refine a_sub [1, 2, 3, 4, 5, 0] rfl ?_
      exact ih q26 o19.2 o25 (x6 + 1) h
set_option maxHeartbeats 200000 in
set_option maxRecDepth 100000 in
theorem ok_fMd_drawn_J58 {X : Amb} (eL : X.nL = 10) (C : Cx X RX11 cX11_drawn 5) (r : Int32) (M0 : Mem) (E : En X (some .int) (QcI X.N (some .int) r M0)) (M : Mem) (x1 : Int32) (x2 : Int32) (x3 : Int32) (h : fMd_drawn_J58 M x1 x2 x3 = some (r, M0)) : WA X M [(0, .ref (X.N.2.1 66)), (1, .int x1), (2, .int x2), (3, .int x3)] 58 [] := by
  unfold fMd_drawn_J58 at h
  refine a_aload_n (pc := 58) C dX11_drawn_58 rfl 0 rfl ?_
  refine a_aload_n (pc := 59) C dX11_drawn_59 rfl 0 rfl ?_
  refine gf_11_43 (pc := 60) C wd_1120 dX11_drawn_60 ?_
  obtain ⟨q8, eq8, h⟩ := bndS h
  refine a_callVV (pc := 63) C [.ref (X.N.2.1 93)] (ok_fMd_keeps X.l X.N M 93 kp93 eq8) rfl mw_X11_keeps wd_1368 rfl rfl rfl rfl rfl rfl rfl dX11_drawn_63 ?_
  refine a_iload_n (pc := 66) C dX11_drawn_66 rfl 1 rfl ?_
  refine a_istore (pc := 67) C [(4, .int x1), (0, .ref (X.N.2.1 66)), (1, .int x1), (2, .int x2), (3, .int x3)] dX11_drawn_67 (nlt eL rfl) rfl ?_
  refine a_iconst (pc := 69) C 0 dX11_drawn_69 rfl ?_
  refine a_istore (pc := 70) C [(5, .int 0), (4, .int x1), (0, .ref (X.N.2.1 66)), (1, .int x1), (2, .int x2), (3, .int x3)] dX11_drawn_70 (nlt eL rfl) rfl ?_
  refine a_iconst (pc := 72) C 0 dX11_drawn_72 rfl ?_
  refine a_istore (pc := 73) C [(6, .int 0), (5, .int 0), (4, .int x1), (0, .ref (X.N.2.1 66)), (1, .int x1), (2, .int x2), (3, .int x3)] dX11_drawn_73 (nlt eL rfl) rfl ?_
  refine a_sub (lv2 := [(0, .ref (X.N.2.1 66)), (2, .int x2), (3, .int x3), (4, .int x1), (5, .int 0), (6, .int 0)]) [3, 5, 6, 2, 1, 0] rfl ?_
  obtain ⟨o27, eo27, h⟩ := bndS h
  refine ok_fMd_drawn_L75 eL C x2 x3 o27 ?_ FU q8 x1 0 0 eo27
  refine a_iload (pc := 245) C dX11_drawn_245 0 rfl ?_
  exact a_iret (pc := 247) C E rfl (som1 h) (som2 h) dX11_drawn_247
set_option maxHeartbeats 200000 in
set_option maxRecDepth 100000 in
theorem ok_fMd_drawn (l : Launch) (N : Rig) (M : Mem) (x1 : Int32) (x2 : Int32) (x3 : Int32) {r : Int32} {M0 : Mem} (h : fMd_drawn M x1 x2 x3 = some (r, M0)) : Ct l N yX11_drawn cX11_drawn 10 (some .int) 5 [.ref (N.2.1 66), .int x1, .int x2, .int x3] M (QcI N (some .int) r M0) := by
  refine ct_of (by decide) rfl ?_
  intro X el eN eL C E
  subst el
  subst eN
  unfold fMd_drawn at h
  show WA X M [(0, .ref (X.N.2.1 66)), (1, .int x1), (2, .int x2), (3, .int x3)] 0 []
  refine a_iload_n (pc := 0) C dX11_drawn_0 rfl 2 rfl ?_
  refine a_if_lt (pc := 1) C 56 dX11_drawn_1 rfl (fun c1 => ?_) (fun c1 => ?_)
  · replace h := iteT c1 h
    refine a_iconst (pc := 56) C (-1) dX11_drawn_56 rfl ?_
    exact a_iret (pc := 57) C E rfl (som1 h) (som2 h) dX11_drawn_57
  · replace h := iteF c1 h
    refine a_iload_n (pc := 4) C dX11_drawn_4 rfl 2 rfl ?_
    refine a_sipush (pc := 5) C 10000 dX11_drawn_5 rfl ?_
    refine a_idiv (pc := 8) C dX11_drawn_8 (by decide) ?_
    refine a_iconst (pc := 9) C 1 dX11_drawn_9 rfl ?_
    refine a_bipush (pc := 10) C 30 dX11_drawn_10 rfl ?_
    refine a_callSI (pc := 12) C [.int (x2 / 10000), .int 1, .int 30] (ok_fMd_within X.l X.N M (x2 / 10000) 1 30) rfl mw_X11_within wd_1220 rfl rfl rfl dX11_drawn_12 (fun z2 => ?_)
    refine a_if_eq (pc := 15) C 56 dX11_drawn_15 rfl (fun c3 => ?_) (fun c3 => ?_)
    · replace h := iteT c3 h
      refine a_iconst (pc := 56) C (-1) dX11_drawn_56 rfl ?_
      exact a_iret (pc := 57) C E rfl (som1 h) (som2 h) dX11_drawn_57
    · replace h := iteF c3 h
      refine a_iload_n (pc := 18) C dX11_drawn_18 rfl 2 rfl ?_
      refine a_bipush (pc := 19) C 100 dX11_drawn_19 rfl ?_
      refine a_idiv (pc := 21) C dX11_drawn_21 (by decide) ?_
      refine a_bipush (pc := 22) C 100 dX11_drawn_22 rfl ?_
      refine a_irem (pc := 24) C dX11_drawn_24 (by decide) ?_
      refine a_iconst (pc := 25) C 1 dX11_drawn_25 rfl ?_
      refine a_bipush (pc := 26) C 40 dX11_drawn_26 rfl ?_
      refine a_callSI (pc := 28) C [.int (rmI (x2 / 100) 100), .int 1, .int 40] (ok_fMd_within X.l X.N M (rmI (x2 / 100) 100) 1 40) rfl mw_X11_within wd_1220 rfl rfl rfl dX11_drawn_28 (fun z4 => ?_)
      refine a_if_eq (pc := 31) C 56 dX11_drawn_31 rfl (fun c5 => ?_) (fun c5 => ?_)
      · replace h := iteT c5 h
        refine a_iconst (pc := 56) C (-1) dX11_drawn_56 rfl ?_
        exact a_iret (pc := 57) C E rfl (som1 h) (som2 h) dX11_drawn_57
      · replace h := iteF c5 h
        refine a_iload_n (pc := 34) C dX11_drawn_34 rfl 2 rfl ?_
        refine a_bipush (pc := 35) C 100 dX11_drawn_35 rfl ?_
        refine a_irem (pc := 37) C dX11_drawn_37 (by decide) ?_
        refine a_bipush (pc := 38) C 12 dX11_drawn_38 rfl ?_
        refine a_icmp_gt (pc := 40) C 56 dX11_drawn_40 rfl (fun c6 => ?_) (fun c6 => ?_)
        · replace h := iteT c6 h
          refine a_iconst (pc := 56) C (-1) dX11_drawn_56 rfl ?_
          exact a_iret (pc := 57) C E rfl (som1 h) (som2 h) dX11_drawn_57
        · replace h := iteF c6 h
          refine a_iload_n (pc := 43) C dX11_drawn_43 rfl 3 rfl ?_
          refine a_iconst (pc := 44) C (-1) dX11_drawn_44 rfl ?_
          refine a_icmp_eq (pc := 45) C 58 dX11_drawn_45 rfl (fun c7 => ?_) (fun c7 => ?_)
          · replace h := iteT c7 h
            refine a_sub (lv2 := [(0, .ref (X.N.2.1 66)), (1, .int x1), (2, .int x2), (3, .int x3)]) [0, 1, 2, 3] rfl ?_
            exact ok_fMd_drawn_J58 eL C r M0 E M x1 x2 x3 h
          · replace h := iteF c7 h
            refine a_aload_n (pc := 48) C dX11_drawn_48 rfl 0 rfl ?_
            refine a_iload_n (pc := 49) C dX11_drawn_49 rfl 3 rfl ?_
            refine a_callVI (pc := 50) C [.int x3] (ok_fMd_isOne X.l X.N M x3) rfl mw_X11_isOne wd_1247 rfl rfl rfl rfl rfl rfl rfl dX11_drawn_50 (fun z28 => ?_)
            refine a_if_ne (pc := 53) C 58 dX11_drawn_53 rfl (fun c29 => ?_) (fun c29 => ?_)
            · replace h := iteT c29 h
              refine a_sub (lv2 := [(0, .ref (X.N.2.1 66)), (1, .int x1), (2, .int x2), (3, .int x3)]) [0, 1, 2, 3] rfl ?_
              exact ok_fMd_drawn_J58 eL C r M0 E M x1 x2 x3 h
            · replace h := iteF c29 h
              refine a_iconst (pc := 56) C (-1) dX11_drawn_56 rfl ?_
              exact a_iret (pc := 57) C E rfl (som1 h) (som2 h) dX11_drawn_57
set_option maxHeartbeats 200000 in
set_option maxRecDepth 100000 in
theorem ok_fMd_hour (l : Launch) (N : Rig) (M : Mem) {r : Int32} {M0 : Mem} (h : fMd_hour M = some (r, M0)) : Ct l N yX11_hour cX11_hour 1 (some .int) 5 [.ref (N.2.1 66)] M (QcI N (some .int) r M0) := by
  refine ct_of (by decide) rfl ?_
  intro X el eN eL C E
  subst el
  subst eN
  unfold fMd_hour at h
  show WA X M [(0, .ref (X.N.2.1 66))] 0 []
  refine a_aload_n (pc := 0) C dX11_hour_0 rfl 0 rfl ?_
  obtain ⟨q1, eq1, h⟩ := bndS h
  refine a_callVV (pc := 1) C [] (ok_fMd_passes X.l X.N M eq1) rfl mw_X11_passes wd_1376 rfl rfl rfl rfl rfl rfl rfl dX11_hour_1 ?_
  refine a_aload_n (pc := 4) C dX11_hour_4 rfl 0 rfl ?_
  refine gf_11_24 (pc := 5) C wd_1101 dX11_hour_5 ?_
  refine a_iconst (pc := 8) C 0 dX11_hour_8 rfl ?_
  refine a_dup2 (pc := 9) C dX11_hour_9 rfl rfl ?_
  obtain ⟨v2, ev2, h⟩ := bndS h
  refine a_iald (pc := 10) C rfl ev2 dX11_hour_10 ?_
  refine a_iconst (pc := 11) C 1 dX11_hour_11 rfl ?_
  refine a_iadd (pc := 12) C dX11_hour_12 ?_
  obtain ⟨M3, eM3, h⟩ := bndS h
  refine a_iast (pc := 13) C rfl eM3 dX11_hour_13 ?_
  refine a_aload_n (pc := 14) C dX11_hour_14 rfl 0 rfl ?_
  refine gf_11_24 (pc := 15) C wd_1101 dX11_hour_15 ?_
  refine a_iconst (pc := 18) C 1 dX11_hour_18 rfl ?_
  refine a_dup2 (pc := 19) C dX11_hour_19 rfl rfl ?_
  obtain ⟨v4, ev4, h⟩ := bndS h
  refine a_iald (pc := 20) C rfl ev4 dX11_hour_20 ?_
  refine a_aload_n (pc := 21) C dX11_hour_21 rfl 0 rfl ?_
  refine gf_11_40 (pc := 22) C wd_1117 dX11_hour_22 ?_
  refine a_iadd (pc := 25) C dX11_hour_25 ?_
  obtain ⟨M5, eM5, h⟩ := bndS h
  refine a_iast (pc := 26) C rfl eM5 dX11_hour_26 ?_
  refine a_aload_n (pc := 27) C dX11_hour_27 rfl 0 rfl ?_
  refine gf_11_24 (pc := 28) C wd_1101 dX11_hour_28 ?_
  refine a_iconst (pc := 31) C 2 dX11_hour_31 rfl ?_
  refine a_dup2 (pc := 32) C dX11_hour_32 rfl rfl ?_
  obtain ⟨v6, ev6, h⟩ := bndS h
  refine a_iald (pc := 33) C rfl ev6 dX11_hour_33 ?_
  refine a_aload_n (pc := 34) C dX11_hour_34 rfl 0 rfl ?_
  refine gf_11_41 (pc := 35) C wd_1118 dX11_hour_35 ?_
  refine a_iadd (pc := 38) C dX11_hour_38 ?_
  obtain ⟨M7, eM7, h⟩ := bndS h
  refine a_iast (pc := 39) C rfl eM7 dX11_hour_39 ?_
  refine a_aload_n (pc := 40) C dX11_hour_40 rfl 0 rfl ?_
  refine gf_11_40 (pc := 41) C wd_1117 dX11_hour_41 ?_
  exact a_iret (pc := 44) C E rfl (som1 h) (som2 h) dX11_hour_44
set_option maxHeartbeats 200000 in
set_option maxRecDepth 100000 in
theorem ok_fMd_pour (l : Launch) (N : Rig) (M : Mem) (x1 : Int32) (x2 : Int32) {r : Int32} {M0 : Mem} (h : fMd_pour M x1 x2 = some (r, M0)) : Ct l N yX11_pour cX11_pour 3 (some .int) 2 [.ref (N.2.1 66), .int x1, .int x2] M (QcI N (some .int) r M0) := by
  refine ct_of (by decide) rfl ?_
  intro X el eN eL C E
  subst el
  subst eN
  unfold fMd_pour at h
  show WA X M [(0, .ref (X.N.2.1 66)), (1, .int x1), (2, .int x2)] 0 []
  refine a_iload_n (pc := 0) C dX11_pour_0 rfl 1 rfl ?_
  refine a_callSI (pc := 1) C [.int x1] (ok_fMd_isCell X.l X.N M x1) rfl mw_X11_isCell wd_1217 rfl rfl rfl dX11_pour_1 (fun z1 => ?_)
  refine a_if_eq (pc := 4) C 18 dX11_pour_4 rfl (fun c2 => ?_) (fun c2 => ?_)
  · replace h := iteT c2 h
    refine a_iconst (pc := 18) C (-1) dX11_pour_18 rfl ?_
    exact a_iret (pc := 19) C E rfl (som1 h) (som2 h) dX11_pour_19
  · replace h := iteF c2 h
    refine a_iload_n (pc := 7) C dX11_pour_7 rfl 2 rfl ?_
    refine a_iconst (pc := 8) C 1 dX11_pour_8 rfl ?_
    refine a_sipush (pc := 9) C 9999 dX11_pour_9 rfl ?_
    refine a_callSI (pc := 12) C [.int x2, .int 1, .int 9999] (ok_fMd_within X.l X.N M x2 1 9999) rfl mw_X11_within wd_1220 rfl rfl rfl dX11_pour_12 (fun z3 => ?_)
    refine a_if_ne (pc := 15) C 20 dX11_pour_15 rfl (fun c4 => ?_) (fun c4 => ?_)
    · replace h := iteT c4 h
      refine a_aload_n (pc := 20) C dX11_pour_20 rfl 0 rfl ?_
      refine gf_11_1 (pc := 21) C wd_1078 dX11_pour_21 ?_
      refine a_iload_n (pc := 24) C dX11_pour_24 rfl 1 rfl ?_
      refine a_sipush (pc := 25) C 9999 dX11_pour_25 rfl ?_
      refine a_aload_n (pc := 28) C dX11_pour_28 rfl 0 rfl ?_
      refine gf_11_1 (pc := 29) C wd_1078 dX11_pour_29 ?_
      refine a_iload_n (pc := 32) C dX11_pour_32 rfl 1 rfl ?_
      obtain ⟨v5, ev5, h⟩ := bndS h
      refine a_iald (pc := 33) C rfl ev5 dX11_pour_33 ?_
      refine a_iload_n (pc := 34) C dX11_pour_34 rfl 2 rfl ?_
      refine a_iadd (pc := 35) C dX11_pour_35 ?_
      refine a_mmin (pc := 36) C rfl wd_1359 wd_652 wd_94 wd_653 rfl dX11_pour_36 ?_
      obtain ⟨M6, eM6, h⟩ := bndS h
      refine a_iast (pc := 39) C rfl eM6 dX11_pour_39 ?_
      refine a_aload_n (pc := 40) C dX11_pour_40 rfl 0 rfl ?_
      refine gf_11_24 (pc := 41) C wd_1101 dX11_pour_41 ?_
      refine a_iconst (pc := 44) C 3 dX11_pour_44 rfl ?_
      refine a_dup2 (pc := 45) C dX11_pour_45 rfl rfl ?_
      obtain ⟨v7, ev7, h⟩ := bndS h
      refine a_iald (pc := 46) C rfl ev7 dX11_pour_46 ?_
      refine a_iload_n (pc := 47) C dX11_pour_47 rfl 2 rfl ?_
      refine a_iadd (pc := 48) C dX11_pour_48 ?_
      obtain ⟨M8, eM8, h⟩ := bndS h
      refine a_iast (pc := 49) C rfl eM8 dX11_pour_49 ?_
      refine a_aload_n (pc := 50) C dX11_pour_50 rfl 0 rfl ?_
      refine gf_11_1 (pc := 51) C wd_1078 dX11_pour_51 ?_
      refine a_iload_n (pc := 54) C dX11_pour_54 rfl 1 rfl ?_
      obtain ⟨v9, ev9, h⟩ := bndS h
      refine a_iald (pc := 55) C rfl ev9 dX11_pour_55 ?_
      exact a_iret (pc := 56) C E rfl (som1 h) (som2 h) dX11_pour_56
    · replace h := iteF c4 h
      refine a_iconst (pc := 18) C (-1) dX11_pour_18 rfl ?_
      exact a_iret (pc := 19) C E rfl (som1 h) (som2 h) dX11_pour_19
set_option maxHeartbeats 200000 in
set_option maxRecDepth 100000 in
theorem ok_fMd_hang (l : Launch) (N : Rig) (M : Mem) (x1 : Int32) (x2 : Int32) {r : Int32} {M0 : Mem} (h : fMd_hang M x1 x2 = some (r, M0)) : Ct l N yX11_hang cX11_hang 4 (some .int) 2 [.ref (N.2.1 66), .int x1, .int x2] M (QcI N (some .int) r M0) := by
  refine ct_of (by decide) rfl ?_
  intro X el eN eL C E
  subst el
  subst eN
  unfold fMd_hang at h
  show WA X M [(0, .ref (X.N.2.1 66)), (1, .int x1), (2, .int x2)] 0 []
  refine a_iload_n (pc := 0) C dX11_hang_0 rfl 1 rfl ?_
  refine a_callSI (pc := 1) C [.int x1] (ok_fMd_isCell X.l X.N M x1) rfl mw_X11_isCell wd_1217 rfl rfl rfl dX11_hang_1 (fun z1 => ?_)
  refine a_if_eq (pc := 4) C 16 dX11_hang_4 rfl (fun c2 => ?_) (fun c2 => ?_)
  · replace h := iteT c2 h
    refine a_iconst (pc := 16) C (-1) dX11_hang_16 rfl ?_
    exact a_iret (pc := 17) C E rfl (som1 h) (som2 h) dX11_hang_17
  · replace h := iteF c2 h
    refine a_iload_n (pc := 7) C dX11_hang_7 rfl 2 rfl ?_
    refine a_iconst (pc := 8) C 0 dX11_hang_8 rfl ?_
    refine a_iconst (pc := 9) C 2 dX11_hang_9 rfl ?_
    refine a_callSI (pc := 10) C [.int x2, .int 0, .int 2] (ok_fMd_within X.l X.N M x2 0 2) rfl mw_X11_within wd_1220 rfl rfl rfl dX11_hang_10 (fun z3 => ?_)
    refine a_if_ne (pc := 13) C 18 dX11_hang_13 rfl (fun c4 => ?_) (fun c4 => ?_)
    · replace h := iteT c4 h
      refine a_aload_n (pc := 18) C dX11_hang_18 rfl 0 rfl ?_
      refine gf_11_2 (pc := 19) C wd_1079 dX11_hang_19 ?_
      refine a_iload_n (pc := 22) C dX11_hang_22 rfl 1 rfl ?_
      obtain ⟨v5, ev5, h⟩ := bndS h
      refine a_iald (pc := 23) C rfl ev5 dX11_hang_23 ?_
      refine a_istore_n (pc := 24) C [(3, .int v5), (0, .ref (X.N.2.1 66)), (1, .int x1), (2, .int x2)] dX11_hang_24 rfl (nlt eL rfl) rfl ?_
      refine a_aload_n (pc := 25) C dX11_hang_25 rfl 1 rfl ?_
      refine gf_11_2 (pc := 26) C wd_1079 dX11_hang_26 ?_
      refine a_iload_n (pc := 29) C dX11_hang_29 rfl 2 rfl ?_
      refine a_iload_n (pc := 30) C dX11_hang_30 rfl 3 rfl ?_
      obtain ⟨M6, eM6, h⟩ := bndS h
      refine a_iast (pc := 31) C rfl eM6 dX11_hang_31 ?_
      refine a_aload_n (pc := 32) C dX11_hang_32 rfl 1 rfl ?_
      refine gf_11_24 (pc := 33) C wd_1101 dX11_hang_33 ?_
      refine a_iconst (pc := 36) C 4 dX11_hang_36 rfl ?_
      refine a_dup2 (pc := 37) C dX11_hang_37 rfl rfl ?_
      obtain ⟨v7, ev7, h⟩ := bndS h
      refine a_iald (pc := 38) C rfl ev7 dX11_hang_38 ?_
      refine a_iconst (pc := 39) C 1 dX11_hang_39 rfl ?_
      refine a_iadd (pc := 40) C dX11_hang_40 ?_
      obtain ⟨M8, eM8, h⟩ := bndS h
      refine a_iast (pc := 41) C rfl eM8 dX11_hang_41 ?_
      refine a_iload_n (pc := 42) C dX11_hang_42 rfl 0 rfl ?_
      exact a_iret (pc := 43) C E rfl (som1 h) (som2 h) dX11_hang_43
    · replace h := iteF c4 h
      refine a_iconst (pc := 16) C (-1) dX11_hang_16 rfl ?_
      exact a_iret (pc := 17) C E rfl (som1 h) (som2 h) dX11_hang_17
set_option maxHeartbeats 200000 in
set_option maxRecDepth 100000 in
theorem ok_fMd_moves (l : Launch) (N : Rig) (M : Mem) (x1 : Int32) (x2 : Int32) {r : Int32} {M0 : Mem} (h : fMd_moves M x1 x2 = some (r, M0)) : Ct l N yX11_moves cX11_moves 4 (some .int) 2 [.ref (N.2.1 66), .int x1, .int x2] M (QcI N (some .int) r M0) := by
  refine ct_of (by decide) rfl ?_
  intro X el eN eL C E
  subst el
  subst eN
  unfold fMd_moves at h
  show WA X M [(0, .ref (X.N.2.1 66)), (1, .int x1), (2, .int x2)] 0 []
  refine a_aload_n (pc := 0) C dX11_moves_0 rfl 0 rfl ?_
  refine a_iload_n (pc := 1) C dX11_moves_1 rfl 1 rfl ?_
  refine a_callVI (pc := 2) C [.int x1] (ok_fMd_isOne X.l X.N M x1) rfl mw_X11_isOne wd_1247 rfl rfl rfl rfl rfl rfl rfl dX11_moves_2 (fun z1 => ?_)
  refine a_if_eq (pc := 5) C 15 dX11_moves_5 rfl (fun c2 => ?_) (fun c2 => ?_)
  · replace h := iteT c2 h
    refine a_iconst (pc := 15) C (-1) dX11_moves_15 rfl ?_
    exact a_iret (pc := 16) C E rfl (som1 h) (som2 h) dX11_moves_16
  · replace h := iteF c2 h
    refine a_iload_n (pc := 8) C dX11_moves_8 rfl 2 rfl ?_
    refine a_callSI (pc := 9) C [.int x2] (ok_fMd_isCell X.l X.N M x2) rfl mw_X11_isCell wd_1217 rfl rfl rfl dX11_moves_9 (fun z3 => ?_)
    refine a_if_ne (pc := 12) C 17 dX11_moves_12 rfl (fun c4 => ?_) (fun c4 => ?_)
    · replace h := iteT c4 h
      refine a_aload_n (pc := 17) C dX11_moves_17 rfl 0 rfl ?_
      refine gf_11_4 (pc := 18) C wd_1081 dX11_moves_18 ?_
      refine a_iload_n (pc := 21) C dX11_moves_21 rfl 1 rfl ?_
      obtain ⟨v5, ev5, h⟩ := bndS h
      refine a_iald (pc := 22) C rfl ev5 dX11_moves_22 ?_
      refine a_istore_n (pc := 23) C [(3, .int v5), (0, .ref (X.N.2.1 66)), (1, .int x1), (2, .int x2)] dX11_moves_23 rfl (nlt eL rfl) rfl ?_
      refine a_aload_n (pc := 24) C dX11_moves_24 rfl 1 rfl ?_
      refine gf_11_4 (pc := 25) C wd_1081 dX11_moves_25 ?_
      refine a_iload_n (pc := 28) C dX11_moves_28 rfl 2 rfl ?_
      refine a_iload_n (pc := 29) C dX11_moves_29 rfl 3 rfl ?_
      obtain ⟨M6, eM6, h⟩ := bndS h
      refine a_iast (pc := 30) C rfl eM6 dX11_moves_30 ?_
      refine a_iload_n (pc := 31) C dX11_moves_31 rfl 0 rfl ?_
      exact a_iret (pc := 32) C E rfl (som1 h) (som2 h) dX11_moves_32
    · replace h := iteF c4 h
      refine a_iconst (pc := 15) C (-1) dX11_moves_15 rfl ?_
      exact a_iret (pc := 16) C E rfl (som1 h) (som2 h) dX11_moves_16
set_option maxHeartbeats 200000 in
set_option maxRecDepth 100000 in
theorem ok_fMd_led (l : Launch) (N : Rig) (M : Mem) (x1 : Int32) {r : Int32} (h : fMd_led M x1 = some r) : Ct l N yX11_led cX11_led 2 (some .int) 1 [.ref (N.2.1 66), .int x1] M (QcI N (some .int) r M) := by
  refine ct_of (by decide) rfl ?_
  intro X el eN eL C E
  subst el
  subst eN
  unfold fMd_led at h
  show WA X M [(0, .ref (X.N.2.1 66)), (1, .int x1)] 0 []
  refine a_iload_n (pc := 0) C dX11_led_0 rfl 1 rfl ?_
  refine a_iconst (pc := 1) C 0 dX11_led_1 rfl ?_
  refine a_iconst (pc := 2) C 4 dX11_led_2 rfl ?_
  refine a_callSI (pc := 3) C [.int x1, .int 0, .int 4] (ok_fMd_within X.l X.N M x1 0 4) rfl mw_X11_within wd_1220 rfl rfl rfl dX11_led_3 (fun z1 => ?_)
  refine a_if_eq (pc := 6) C 18 dX11_led_6 rfl (fun c2 => ?_) (fun c2 => ?_)
  · replace h := iteT c2 h
    refine a_iconst (pc := 18) C (-1) dX11_led_18 rfl ?_
    exact a_iret (pc := 19) C E rfl (somI h) rfl dX11_led_19
  · replace h := iteF c2 h
    refine a_aload_n (pc := 9) C dX11_led_9 rfl 0 rfl ?_
    refine gf_11_24 (pc := 10) C wd_1101 dX11_led_10 ?_
    refine a_iload_n (pc := 13) C dX11_led_13 rfl 1 rfl ?_
    obtain ⟨v3, ev3, h⟩ := bndS h
    refine a_iald (pc := 14) C rfl ev3 dX11_led_14 ?_
    refine a_goto (pc := 15) C 19 dX11_led_15 rfl ?_
    exact a_iret (pc := 19) C E rfl (somI h) rfl dX11_led_19
set_option maxHeartbeats 200000 in
set_option maxRecDepth 100000 in
theorem ok_fMd_image_L23 {X : Amb} (eL : X.nL = 2) (C : Cx X RX11 cX11_image 1) (o : Mem) (K : WA X o [(0, .ref (X.N.2.1 66))] 46 []) : ∀ (n : Nat) (M : Mem) (x1 : Int32), fMd_image_L23 n M x1 = some o → WA X M [(0, .ref (X.N.2.1 66)), (1, .int x1)] 23 [] := by
  intro n
  induction n with
  | zero => intro _ _ h; cases h
  | succ n ih =>
    intro M x1 h
    replace h : fMd_image_L23_F (fMd_image_L23 n) M x1 = some o := h
    unfold fMd_image_L23_F at h
    refine a_iload_n (pc := 23) C dX11_image_23 rfl 1 rfl ?_
    refine a_iconst (pc := 24) C 5 dX11_image_24 rfl ?_
    refine a_icmp_ge (pc := 25) C 46 dX11_image_25 rfl (fun c3 => ?_) (fun c3 => ?_)
    · replace h := iteT c3 h
      refine a_sub (lv2 := [(0, .ref (X.N.2.1 66))]) [0] rfl ?_
      cases somI h
      exact K
    · replace h := iteF c3 h
      refine a_aload_n (pc := 28) C dX11_image_28 rfl 0 rfl ?_
      refine gf_11_28 (pc := 29) C wd_1105 dX11_image_29 ?_
      refine a_iload_n (pc := 32) C dX11_image_32 rfl 1 rfl ?_
      refine a_aload_n (pc := 33) C dX11_image_33 rfl 0 rfl ?_
      refine gf_11_24 (pc := 34) C wd_1101 dX11_image_34 ?_
      refine a_iload_n (pc := 37) C dX11_image_37 rfl 1 rfl ?_
      obtain ⟨v4, ev4, h⟩ := bndS h
      refine a_iald (pc := 38) C rfl ev4 dX11_image_38 ?_
      obtain ⟨M5, eM5, h⟩ := bndS h
      refine a_iast (pc := 39) C rfl eM5 dX11_image_39 ?_
      refine a_iinc (pc := 40) C 1 (x1 + 1) [(1, .int (x1 + 1)), (0, .ref (X.N.2.1 66))] dX11_image_40 rfl rfl (nlt eL rfl) rfl ?_
      refine a_goto (pc := 43) C 23 dX11_image_43 rfl ?_
      refine a_sub [1, 0] rfl ?_
      exact ih M5 (x1 + 1) h
set_option maxHeartbeats 200000 in
set_option maxRecDepth 100000 in
theorem ok_fMd_image (l : Launch) (N : Rig) (M : Mem) {r : Int32} {M0 : Mem} (h : fMd_image M = some (r, M0)) : Ct l N yX11_image cX11_image 2 (some .int) 1 [.ref (N.2.1 66)] M (QcI N (some .int) r M0) := by
  refine ct_of (by decide) rfl ?_
  intro X el eN eL C E
  subst el
  subst eN
  unfold fMd_image at h
  show WA X M [(0, .ref (X.N.2.1 66))] 0 []
  refine a_aload_n (pc := 0) C dX11_image_0 rfl 0 rfl ?_
  refine a_iconst (pc := 1) C 1 dX11_image_1 rfl ?_
  obtain ⟨M1, eM1, h⟩ := bndS h
  refine pf_11_25 (pc := 2) C eM1 wd_1102 dX11_image_2 ?_
  refine a_aload_n (pc := 5) C dX11_image_5 rfl 0 rfl ?_
  refine a_aload_n (pc := 6) C dX11_image_6 rfl 0 rfl ?_
  refine gf_11_3 (pc := 7) C wd_1080 dX11_image_7 ?_
  refine pf_11_26 (pc := 10) C wd_1103 dX11_image_10 ?_
  refine a_aload_n (pc := 13) C dX11_image_13 rfl 0 rfl ?_
  refine a_aload_n (pc := 14) C dX11_image_14 rfl 0 rfl ?_
  refine gf_11_27 (pc := 15) C wd_1104 dX11_image_15 ?_
  obtain ⟨q2, eq2, h⟩ := bndS h
  refine a_callVV (pc := 18) C [.ref (X.N.2.1 83)] (ok_fMd_keeps X.l X.N (wI M1 66 26 (M1.1 66 3)) 83 kp83 eq2) rfl mw_X11_keeps wd_1368 rfl rfl rfl rfl rfl rfl rfl dX11_image_18 ?_
  refine a_iconst (pc := 21) C 0 dX11_image_21 rfl ?_
  refine a_istore_n (pc := 22) C [(1, .int 0), (0, .ref (X.N.2.1 66))] dX11_image_22 rfl (nlt eL rfl) rfl ?_
  refine a_sub (lv2 := [(0, .ref (X.N.2.1 66)), (1, .int 0)]) [1, 0] rfl ?_
  obtain ⟨o6, eo6, h⟩ := bndS h
  refine ok_fMd_image_L23 eL C o6 ?_ FU q2 0 eo6
  refine a_aload_n (pc := 46) C dX11_image_46 rfl 0 rfl ?_
  refine gf_11_24 (pc := 47) C wd_1101 dX11_image_47 ?_
  refine a_iconst (pc := 50) C 0 dX11_image_50 rfl ?_
  obtain ⟨v7, ev7, h⟩ := bndS h
  refine a_iald (pc := 51) C rfl ev7 dX11_image_51 ?_
  exact a_iret (pc := 52) C E rfl (som1 h) (som2 h) dX11_image_52
set_option maxHeartbeats 200000 in
set_option maxRecDepth 100000 in
theorem ok_fMd_back_L12 {X : Amb} (eL : X.nL = 2) (C : Cx X RX11 cX11_back 0) (o : Mem) (K : WA X o [(0, .ref (X.N.2.1 66))] 51 []) : ∀ (n : Nat) (M : Mem) (x1 : Int32), fMd_back_L12 n M x1 = some o → WA X M [(0, .ref (X.N.2.1 66)), (1, .int x1)] 12 [] := by
  intro n
  induction n with
  | zero => intro _ _ h; cases h
  | succ n ih =>
    intro M x1 h
    replace h : fMd_back_L12_F (fMd_back_L12 n) M x1 = some o := h
    unfold fMd_back_L12_F at h
    refine a_iload_n (pc := 12) C dX11_back_12 rfl 1 rfl ?_
    refine a_bipush (pc := 13) C 36 dX11_back_13 rfl ?_
    refine a_icmp_ge (pc := 15) C 51 dX11_back_15 rfl (fun c2 => ?_) (fun c2 => ?_)
    · replace h := iteT c2 h
      refine a_sub (lv2 := [(0, .ref (X.N.2.1 66))]) [0] rfl ?_
      cases somI h
      exact K
    · replace h := iteF c2 h
      refine a_aload_n (pc := 18) C dX11_back_18 rfl 0 rfl ?_
      refine gf_11_1 (pc := 19) C wd_1078 dX11_back_19 ?_
      refine a_iload_n (pc := 22) C dX11_back_22 rfl 1 rfl ?_
      refine a_aload_n (pc := 23) C dX11_back_23 rfl 0 rfl ?_
      refine gf_11_27 (pc := 24) C wd_1104 dX11_back_24 ?_
      refine a_iload_n (pc := 27) C dX11_back_27 rfl 1 rfl ?_
      obtain ⟨v3, ev3, h⟩ := bndS h
      refine a_iald (pc := 28) C rfl ev3 dX11_back_28 ?_
      obtain ⟨M4, eM4, h⟩ := bndS h
      refine a_iast (pc := 29) C rfl eM4 dX11_back_29 ?_
      refine a_aload_n (pc := 30) C dX11_back_30 rfl 0 rfl ?_
      refine gf_11_2 (pc := 31) C wd_1079 dX11_back_31 ?_
      refine a_iload_n (pc := 34) C dX11_back_34 rfl 1 rfl ?_
      refine a_aload_n (pc := 35) C dX11_back_35 rfl 0 rfl ?_
      refine gf_11_27 (pc := 36) C wd_1104 dX11_back_36 ?_
      refine a_bipush (pc := 39) C 36 dX11_back_39 rfl ?_
      refine a_iload_n (pc := 41) C dX11_back_41 rfl 1 rfl ?_
      refine a_iadd (pc := 42) C dX11_back_42 ?_
      obtain ⟨v5, ev5, h⟩ := bndS h
      refine a_iald (pc := 43) C rfl ev5 dX11_back_43 ?_
      obtain ⟨M6, eM6, h⟩ := bndS h
      refine a_iast (pc := 44) C rfl eM6 dX11_back_44 ?_
      refine a_iinc (pc := 45) C 1 (x1 + 1) [(1, .int (x1 + 1)), (0, .ref (X.N.2.1 66))] dX11_back_45 rfl rfl (nlt eL rfl) rfl ?_
      refine a_goto (pc := 48) C 12 dX11_back_48 rfl ?_
      refine a_sub [1, 0] rfl ?_
      exact ih M6 (x1 + 1) h
set_option maxHeartbeats 200000 in
set_option maxRecDepth 100000 in
theorem ok_fMd_back_L53 {X : Amb} (eL : X.nL = 2) (C : Cx X RX11 cX11_back 0) (o : Mem) (K : WA X o [(0, .ref (X.N.2.1 66))] 100 []) : ∀ (n : Nat) (M : Mem) (x1 : Int32), fMd_back_L53 n M x1 = some o → WA X M [(0, .ref (X.N.2.1 66)), (1, .int x1)] 53 [] := by
  intro n
  induction n with
  | zero => intro _ _ h; cases h
  | succ n ih =>
    intro M x1 h
    replace h : fMd_back_L53_F (fMd_back_L53 n) M x1 = some o := h
    unfold fMd_back_L53_F at h
    refine a_iload_n (pc := 53) C dX11_back_53 rfl 1 rfl ?_
    refine a_aload_n (pc := 54) C dX11_back_54 rfl 0 rfl ?_
    refine gf_11_26 (pc := 55) C wd_1103 dX11_back_55 ?_
    refine a_icmp_ge (pc := 58) C 100 dX11_back_58 rfl (fun c8 => ?_) (fun c8 => ?_)
    · replace h := iteT c8 h
      refine a_sub (lv2 := [(0, .ref (X.N.2.1 66))]) [0] rfl ?_
      cases somI h
      exact K
    · replace h := iteF c8 h
      refine a_aload_n (pc := 61) C dX11_back_61 rfl 0 rfl ?_
      refine gf_11_4 (pc := 62) C wd_1081 dX11_back_62 ?_
      refine a_iload_n (pc := 65) C dX11_back_65 rfl 1 rfl ?_
      refine a_aload_n (pc := 66) C dX11_back_66 rfl 0 rfl ?_
      refine gf_11_27 (pc := 67) C wd_1104 dX11_back_67 ?_
      refine a_bipush (pc := 70) C 72 dX11_back_70 rfl ?_
      refine a_iload_n (pc := 72) C dX11_back_72 rfl 1 rfl ?_
      refine a_iadd (pc := 73) C dX11_back_73 ?_
      obtain ⟨v9, ev9, h⟩ := bndS h
      refine a_iald (pc := 74) C rfl ev9 dX11_back_74 ?_
      obtain ⟨M10, eM10, h⟩ := bndS h
      refine a_iast (pc := 75) C rfl eM10 dX11_back_75 ?_
      refine a_aload_n (pc := 76) C dX11_back_76 rfl 0 rfl ?_
      refine gf_11_4 (pc := 77) C wd_1081 dX11_back_77 ?_
      refine a_bipush (pc := 80) C 24 dX11_back_80 rfl ?_
      refine a_iload_n (pc := 82) C dX11_back_82 rfl 1 rfl ?_
      refine a_iadd (pc := 83) C dX11_back_83 ?_
      refine a_aload_n (pc := 84) C dX11_back_84 rfl 0 rfl ?_
      refine gf_11_27 (pc := 85) C wd_1104 dX11_back_85 ?_
      refine a_bipush (pc := 88) C 96 dX11_back_88 rfl ?_
      refine a_iload_n (pc := 90) C dX11_back_90 rfl 1 rfl ?_
      refine a_iadd (pc := 91) C dX11_back_91 ?_
      obtain ⟨v11, ev11, h⟩ := bndS h
      refine a_iald (pc := 92) C rfl ev11 dX11_back_92 ?_
      obtain ⟨M12, eM12, h⟩ := bndS h
      refine a_iast (pc := 93) C rfl eM12 dX11_back_93 ?_
      refine a_iinc (pc := 94) C 1 (x1 + 1) [(1, .int (x1 + 1)), (0, .ref (X.N.2.1 66))] dX11_back_94 rfl rfl (nlt eL rfl) rfl ?_
      refine a_goto (pc := 97) C 53 dX11_back_97 rfl ?_
      refine a_sub [1, 0] rfl ?_
      exact ih M12 (x1 + 1) h
set_option maxHeartbeats 200000 in
set_option maxRecDepth 100000 in
theorem ok_fMd_back_L113 {X : Amb} (eL : X.nL = 2) (C : Cx X RX11 cX11_back 0) (o : Mem) (K : WA X o [(0, .ref (X.N.2.1 66))] 136 []) : ∀ (n : Nat) (M : Mem) (x1 : Int32), fMd_back_L113 n M x1 = some o → WA X M [(0, .ref (X.N.2.1 66)), (1, .int x1)] 113 [] := by
  intro n
  induction n with
  | zero => intro _ _ h; cases h
  | succ n ih =>
    intro M x1 h
    replace h : fMd_back_L113_F (fMd_back_L113 n) M x1 = some o := h
    unfold fMd_back_L113_F at h
    refine a_iload_n (pc := 113) C dX11_back_113 rfl 1 rfl ?_
    refine a_iconst (pc := 114) C 5 dX11_back_114 rfl ?_
    refine a_icmp_ge (pc := 115) C 136 dX11_back_115 rfl (fun c15 => ?_) (fun c15 => ?_)
    · replace h := iteT c15 h
      refine a_sub (lv2 := [(0, .ref (X.N.2.1 66))]) [0] rfl ?_
      cases somI h
      exact K
    · replace h := iteF c15 h
      refine a_aload_n (pc := 118) C dX11_back_118 rfl 0 rfl ?_
      refine gf_11_24 (pc := 119) C wd_1101 dX11_back_119 ?_
      refine a_iload_n (pc := 122) C dX11_back_122 rfl 1 rfl ?_
      refine a_aload_n (pc := 123) C dX11_back_123 rfl 0 rfl ?_
      refine gf_11_28 (pc := 124) C wd_1105 dX11_back_124 ?_
      refine a_iload_n (pc := 127) C dX11_back_127 rfl 1 rfl ?_
      obtain ⟨v16, ev16, h⟩ := bndS h
      refine a_iald (pc := 128) C rfl ev16 dX11_back_128 ?_
      obtain ⟨M17, eM17, h⟩ := bndS h
      refine a_iast (pc := 129) C rfl eM17 dX11_back_129 ?_
      refine a_iinc (pc := 130) C 1 (x1 + 1) [(1, .int (x1 + 1)), (0, .ref (X.N.2.1 66))] dX11_back_130 rfl rfl (nlt eL rfl) rfl ?_
      refine a_goto (pc := 133) C 113 dX11_back_133 rfl ?_
      refine a_sub [1, 0] rfl ?_
      exact ih M17 (x1 + 1) h
set_option maxHeartbeats 200000 in
set_option maxRecDepth 100000 in
theorem ok_fMd_back (l : Launch) (N : Rig) (M : Mem) {r : Int32} {M0 : Mem} (h : fMd_back M = some (r, M0)) : Ct l N yX11_back cX11_back 2 (some .int) 0 [.ref (N.2.1 66)] M (QcI N (some .int) r M0) := by
  refine ct_of (by decide) rfl ?_
  intro X el eN eL C E
  subst el
  subst eN
  unfold fMd_back at h
  show WA X M [(0, .ref (X.N.2.1 66))] 0 []
  refine a_aload_n (pc := 0) C dX11_back_0 rfl 0 rfl ?_
  refine gf_11_25 (pc := 1) C wd_1102 dX11_back_1 ?_
  refine a_if_ne (pc := 4) C 10 dX11_back_4 rfl (fun c1 => ?_) (fun c1 => ?_)
  · replace h := iteT c1 h
    refine a_iconst (pc := 10) C 0 dX11_back_10 rfl ?_
    refine a_istore_n (pc := 11) C [(1, .int 0), (0, .ref (X.N.2.1 66))] dX11_back_11 rfl (nlt eL rfl) rfl ?_
    refine a_sub (lv2 := [(0, .ref (X.N.2.1 66)), (1, .int 0)]) [1, 0] rfl ?_
    obtain ⟨o7, eo7, h⟩ := bndS h
    refine ok_fMd_back_L12 eL C o7 ?_ FU M 0 eo7
    refine a_iconst (pc := 51) C 0 dX11_back_51 rfl ?_
    refine a_istore_n (pc := 52) C [(1, .int 0), (0, .ref (X.N.2.1 66))] dX11_back_52 rfl (nlt eL rfl) rfl ?_
    refine a_sub (lv2 := [(0, .ref (X.N.2.1 66)), (1, .int 0)]) [1, 0] rfl ?_
    obtain ⟨o13, eo13, h⟩ := bndS h
    refine ok_fMd_back_L53 eL C o13 ?_ FU o7 0 eo13
    refine a_aload_n (pc := 100) C dX11_back_100 rfl 0 rfl ?_
    refine a_aload_n (pc := 101) C dX11_back_101 rfl 0 rfl ?_
    refine gf_11_27 (pc := 102) C wd_1104 dX11_back_102 ?_
    refine a_bipush (pc := 105) C 104 dX11_back_105 rfl ?_
    obtain ⟨v14, ev14, h⟩ := bndS h
    refine a_iald (pc := 107) C rfl ev14 dX11_back_107 ?_
    refine pf_11_5 (pc := 108) C wd_1082 dX11_back_108 ?_
    refine a_iconst (pc := 111) C 0 dX11_back_111 rfl ?_
    refine a_istore_n (pc := 112) C [(1, .int 0), (0, .ref (X.N.2.1 66))] dX11_back_112 rfl (nlt eL rfl) rfl ?_
    refine a_sub (lv2 := [(0, .ref (X.N.2.1 66)), (1, .int 0)]) [1, 0] rfl ?_
    obtain ⟨o18, eo18, h⟩ := bndS h
    refine ok_fMd_back_L113 eL C o18 ?_ FU (wI o13 66 5 v14) 0 eo18
    refine a_aload_n (pc := 136) C dX11_back_136 rfl 0 rfl ?_
    refine gf_11_24 (pc := 137) C wd_1101 dX11_back_137 ?_
    refine a_iconst (pc := 140) C 0 dX11_back_140 rfl ?_
    obtain ⟨v19, ev19, h⟩ := bndS h
    refine a_iald (pc := 141) C rfl ev19 dX11_back_141 ?_
    exact a_iret (pc := 142) C E rfl (som1 h) (som2 h) dX11_back_142
  · replace h := iteF c1 h
    refine a_bipush (pc := 7) C (-5) dX11_back_7 rfl ?_
    exact a_iret (pc := 9) C E rfl (som1 h) (som2 h) dX11_back_9
set_option maxHeartbeats 200000 in
set_option maxRecDepth 100000 in
theorem ok_fMd_above_ (l : Launch) (N : Rig) (M : Mem) (x0 : Int32) : Ct l N yX11_above_ cX11_above_ 1 (some .int) 0 [.int x0] M (QcI N (some .int) (fMd_above_ x0) M) := by
  obtain ⟨r, h⟩ : ∃ r, fMd_above_ x0 = r := ⟨_, rfl⟩
  rw [h]
  refine ct_of (by decide) rfl ?_
  intro X el eN eL C E
  subst el
  subst eN
  unfold fMd_above_ at h
  show WA X M [(0, .int x0)] 0 []
  refine a_iload_n (pc := 0) C dX11_above__0 rfl 0 rfl ?_
  by_cases c1 : x0 = 3
  · replace h := iteT c1 h
    refine a_tsw_in (pc := 1) C 3 36 dX11_above__1 c1 (by decide) (by decide) rfl rfl ?_
    refine a_iconst (pc := 36) C 2 dX11_above__36 rfl ?_
    exact a_iret (pc := 37) C E rfl h rfl dX11_above__37
  replace h := iteF c1 h
  by_cases c2 : x0 = 4
  · replace h := iteT c2 h
    refine a_tsw_in (pc := 1) C 4 38 dX11_above__1 c2 (by decide) (by decide) rfl rfl ?_
    refine a_iconst (pc := 38) C 1 dX11_above__38 rfl ?_
    exact a_iret (pc := 39) C E rfl h rfl dX11_above__39
  replace h := iteF c2 h
  by_cases c3 : x0 = 5
  · replace h := iteT c3 h
    refine a_tsw_in (pc := 1) C 5 40 dX11_above__1 c3 (by decide) (by decide) rfl rfl ?_
    refine a_iconst (pc := 40) C 3 dX11_above__40 rfl ?_
    exact a_iret (pc := 41) C E rfl h rfl dX11_above__41
  replace h := iteF c3 h
  by_cases c4 : x0 = 7
  · replace h := iteT c4 h
    refine a_tsw_in (pc := 1) C 7 42 dX11_above__1 c4 (by decide) (by decide) rfl rfl ?_
    refine a_iconst (pc := 42) C 4 dX11_above__42 rfl ?_
    exact a_iret (pc := 43) C E rfl h rfl dX11_above__43
  replace h := iteF c4 h
  have kd : WA X M [(0, .int x0)] 44 [] := by
    refine a_iconst (pc := 44) C 0 dX11_above__44 rfl ?_
    exact a_iret (pc := 45) C E rfl h rfl dX11_above__45
  by_cases c5 : x0 = 6
  · exact a_tsw_in (pc := 1) C 6 44 dX11_above__1 c5 (by decide) (by decide) rfl rfl kd
  exact a_tsw_out (pc := 1) C 44 dX11_above__1 (by have := neI 3 rfl c1; have := neI 4 rfl c2; have := neI 5 rfl c3; have := neI 7 rfl c4; have := neI 6 rfl c5; omega) rfl kd
set_option maxHeartbeats 200000 in
set_option maxRecDepth 100000 in
theorem ok_fMd_ran (l : Launch) (N : Rig) (M : Mem) (x1 : Int32) {M0 : Mem} (h : fMd_ran M x1 = some M0) : Ct l N yX11_ran cX11_ran 2 none 0 [.ref (N.2.1 66), .int x1] M (QcV N M0) := by
  refine ct_of (by decide) rfl ?_
  intro X el eN eL C E
  subst el
  subst eN
  unfold fMd_ran at h
  show WA X M [(0, .ref (X.N.2.1 66)), (1, .int x1)] 0 []
  refine a_aload_n (pc := 0) C dX11_ran_0 rfl 0 rfl ?_
  refine gf_11_34 (pc := 1) C wd_1111 dX11_ran_1 ?_
  refine a_bipush (pc := 4) C 24 dX11_ran_4 rfl ?_
  refine a_icmp_ge (pc := 6) C 19 dX11_ran_6 rfl (fun c1 => ?_) (fun c1 => ?_)
  · replace h := iteT c1 h
    refine a_aload_n (pc := 19) C dX11_ran_19 rfl 0 rfl ?_
    refine a_dup (pc := 20) C dX11_ran_20 rfl ?_
    refine gf_11_34 (pc := 21) C wd_1111 dX11_ran_21 ?_
    refine a_iconst (pc := 24) C 1 dX11_ran_24 rfl ?_
    refine a_iadd (pc := 25) C dX11_ran_25 ?_
    refine pf_11_34 (pc := 26) C wd_1111 dX11_ran_26 ?_
    exact a_vret (pc := 29) C E (somI h) dX11_ran_29
  · replace h := iteF c1 h
    refine a_aload_n (pc := 9) C dX11_ran_9 rfl 0 rfl ?_
    refine gf_11_35 (pc := 10) C wd_1112 dX11_ran_10 ?_
    refine a_aload_n (pc := 13) C dX11_ran_13 rfl 0 rfl ?_
    refine gf_11_34 (pc := 14) C wd_1111 dX11_ran_14 ?_
    refine a_iload_n (pc := 17) C dX11_ran_17 rfl 1 rfl ?_
    obtain ⟨M2, eM2, h⟩ := bndS h
    refine a_iast (pc := 18) C rfl eM2 dX11_ran_18 ?_
    refine a_aload_n (pc := 19) C dX11_ran_19 rfl 0 rfl ?_
    refine a_dup (pc := 20) C dX11_ran_20 rfl ?_
    refine gf_11_34 (pc := 21) C wd_1111 dX11_ran_21 ?_
    refine a_iconst (pc := 24) C 1 dX11_ran_24 rfl ?_
    refine a_iadd (pc := 25) C dX11_ran_25 ?_
    refine pf_11_34 (pc := 26) C wd_1111 dX11_ran_26 ?_
    exact a_vret (pc := 29) C E (somI h) dX11_ran_29
set_option maxHeartbeats 200000 in
set_option maxRecDepth 100000 in
theorem ok_fMd_runsBy_F (l : Launch) (N : Rig) {kr kc : Nat} (hkr : Nat.ble (kr + 1) kc = true) (hkb : Nat.ble 1 kc = true) (g_fMd_runsBy : Mem → Int32 → Int32 → Int32 → Option (Int32 × Mem)) (G_fMd_runsBy : ∀ (M : Mem) (x1 : Int32) (x2 : Int32) (x3 : Int32) {r : Int32} {M0 : Mem}, g_fMd_runsBy M x1 x2 x3 = some (r, M0) → Ct l N yX11_runsBy cX11_runsBy 4 (some .int) kr [.ref (N.2.1 66), .int x1, .int x2, .int x3] M (QcI N (some .int) r M0)) (M : Mem) (x1 : Int32) (x2 : Int32) (x3 : Int32) (r : Int32) (M0 : Mem) (h : fMd_runsBy_F g_fMd_runsBy M x1 x2 x3 = some (r, M0)) : Ct l N yX11_runsBy cX11_runsBy 4 (some .int) kc [.ref (N.2.1 66), .int x1, .int x2, .int x3] M (QcI N (some .int) r M0) := by
  refine ct_of (by decide) rfl ?_
  intro X el eN eL C E
  subst el
  subst eN
  unfold fMd_runsBy_F at h
  show WA X M [(0, .ref (X.N.2.1 66)), (1, .int x1), (2, .int x2), (3, .int x3)] 0 []
  refine a_iload_n (pc := 0) C dX11_runsBy_0 rfl 2 rfl ?_
  by_cases c1 : x2 = 0
  · replace h := iteT c1 h
    refine a_lsw (pc := 1) (off := 35) C 36 dX11_runsBy_1 (by decide) (lsw_eq c1 rfl) rfl ?_
    refine a_aload_n (pc := 36) C dX11_runsBy_36 rfl 0 rfl ?_
    refine a_iconst (pc := 37) C 1 dX11_runsBy_37 rfl ?_
    obtain ⟨q2, eq2, h⟩ := bndS h
    refine a_callVV (pc := 38) C [.int 1] (ok_fMd_ran X.l X.N M 1 eq2) (ble_tr (b := 1) rfl hkb) mw_X11_ran wd_1563 rfl rfl rfl rfl rfl rfl rfl dX11_runsBy_38 ?_
    refine a_iload_n (pc := 41) C dX11_runsBy_41 rfl 3 rfl ?_
    refine a_iload_n (pc := 42) C dX11_runsBy_42 rfl 1 rfl ?_
    refine a_iadd (pc := 43) C dX11_runsBy_43 ?_
    exact a_iret (pc := 44) C E rfl (som1 h) (som2 h) dX11_runsBy_44
  replace h := iteF c1 h
  by_cases c3 : x2 = 1
  · replace h := iteT c3 h
    refine a_lsw (pc := 1) (off := 44) C 45 dX11_runsBy_1 (by decide) (lsw_eq c3 rfl) rfl ?_
    refine a_aload_n (pc := 45) C dX11_runsBy_45 rfl 0 rfl ?_
    refine a_bipush (pc := 46) C 20 dX11_runsBy_46 rfl ?_
    obtain ⟨q4, eq4, h⟩ := bndS h
    refine a_callVV (pc := 48) C [.int 20] (ok_fMd_ran X.l X.N M 20 eq4) (ble_tr (b := 1) rfl hkb) mw_X11_ran wd_1563 rfl rfl rfl rfl rfl rfl rfl dX11_runsBy_48 ?_
    refine a_aload_n (pc := 51) C dX11_runsBy_51 rfl 0 rfl ?_
    refine a_iload_n (pc := 52) C dX11_runsBy_52 rfl 1 rfl ?_
    refine a_iconst (pc := 53) C 0 dX11_runsBy_53 rfl ?_
    refine a_iload_n (pc := 54) C dX11_runsBy_54 rfl 3 rfl ?_
    obtain ⟨q5, eq5, h⟩ := bndS h
    refine a_callVI (pc := 55) C [.int x1, .int 0, .int x3] (G_fMd_runsBy q4 x1 0 x3 eq5) hkr mw_X11_runsBy wd_1559 rfl rfl rfl rfl rfl rfl rfl dX11_runsBy_55 (fun z6 => ?_)
    refine a_iconst (pc := 58) C 3 dX11_runsBy_58 rfl ?_
    refine a_iadd (pc := 59) C dX11_runsBy_59 ?_
    exact a_iret (pc := 60) C E rfl (som1 h) (som2 h) dX11_runsBy_60
  replace h := iteF c3 h
  by_cases c7 : x2 = 6
  · replace h := iteT c7 h
    refine a_lsw (pc := 1) (off := 60) C 61 dX11_runsBy_1 (by decide) (lsw_eq c7 rfl) rfl ?_
    refine a_aload_n (pc := 61) C dX11_runsBy_61 rfl 0 rfl ?_
    refine a_bipush (pc := 62) C 70 dX11_runsBy_62 rfl ?_
    obtain ⟨q8, eq8, h⟩ := bndS h
    refine a_callVV (pc := 64) C [.int 70] (ok_fMd_ran X.l X.N M 70 eq8) (ble_tr (b := 1) rfl hkb) mw_X11_ran wd_1563 rfl rfl rfl rfl rfl rfl rfl dX11_runsBy_64 ?_
    refine a_aload_n (pc := 67) C dX11_runsBy_67 rfl 0 rfl ?_
    refine a_iload_n (pc := 68) C dX11_runsBy_68 rfl 1 rfl ?_
    refine a_iconst (pc := 69) C 0 dX11_runsBy_69 rfl ?_
    refine a_iload_n (pc := 70) C dX11_runsBy_70 rfl 3 rfl ?_
    obtain ⟨q9, eq9, h⟩ := bndS h
    refine a_callVI (pc := 71) C [.int x1, .int 0, .int x3] (G_fMd_runsBy q8 x1 0 x3 eq9) hkr mw_X11_runsBy wd_1559 rfl rfl rfl rfl rfl rfl rfl dX11_runsBy_71 (fun z10 => ?_)
    refine a_iconst (pc := 74) C 2 dX11_runsBy_74 rfl ?_
    refine a_imul (pc := 75) C dX11_runsBy_75 ?_
    exact a_iret (pc := 76) C E rfl (som1 h) (som2 h) dX11_runsBy_76
  replace h := iteF c7 h
  refine a_lsw (pc := 1) (off := 76) C 77 dX11_runsBy_1 (by decide) (by simp [Op.lookupswitch.offset, neI2 0 rfl c1, neI2 1 rfl c3, neI2 6 rfl c7]) rfl ?_
  refine a_aload_n (pc := 77) C dX11_runsBy_77 rfl 0 rfl ?_
  refine a_iload_n (pc := 78) C dX11_runsBy_78 rfl 1 rfl ?_
  refine a_iload_n (pc := 79) C dX11_runsBy_79 rfl 2 rfl ?_
  refine a_callSI (pc := 80) C [.int x2] (ok_fMd_above_ X.l X.N M x2) (ble_tr (b := 1) rfl hkb) mw_X11_above_ wd_1567 rfl rfl rfl dX11_runsBy_80 (fun z11 => ?_)
  refine a_iload_n (pc := 83) C dX11_runsBy_83 rfl 3 rfl ?_
  obtain ⟨q12, eq12, h⟩ := bndS h
  refine a_callVI (pc := 84) C [.int x1, .int (fMd_above_ x2), .int x3] (G_fMd_runsBy M x1 (fMd_above_ x2) x3 eq12) hkr mw_X11_runsBy wd_1559 rfl rfl rfl rfl rfl rfl rfl dX11_runsBy_84 (fun z13 => ?_)
  exact a_iret (pc := 87) C E rfl (som1 h) (som2 h) dX11_runsBy_87
theorem ok_rec_fMd_runsBy (l : Launch) (N : Rig) : ∀ n : Nat, (∀ (M : Mem) (x1 : Int32) (x2 : Int32) (x3 : Int32) {r : Int32} {M0 : Mem}, (rec_fMd_runsBy n) M x1 x2 x3 = some (r, M0) → Ct l N yX11_runsBy cX11_runsBy 4 (some .int) (1 + n) [.ref (N.2.1 66), .int x1, .int x2, .int x3] M (QcI N (some .int) r M0)) := by
  intro n
  induction n with
  | zero => intro _ _ _ _ _ _ h; cases h
  | succ n ih => exact fun M x1 x2 x3 r M0 h => ok_fMd_runsBy_F l N (kr := 1 + n) (kc := 1 + (n + 1)) (Nat.ble_eq.mpr (by omega)) (Nat.ble_eq.mpr (by omega)) (rec_fMd_runsBy n) ih M x1 x2 x3 r M0 h
theorem ok_fMd_runsBy (l : Launch) (N : Rig) (M : Mem) (x1 : Int32) (x2 : Int32) (x3 : Int32) {r : Int32} {M0 : Mem} (h : fMd_runsBy M x1 x2 x3 = some (r, M0)) : Ct l N yX11_runsBy cX11_runsBy 4 (some .int) 101 [.ref (N.2.1 66), .int x1, .int x2, .int x3] M (QcI N (some .int) r M0) := (ok_rec_fMd_runsBy l N 100) M x1 x2 x3 h
set_option maxHeartbeats 200000 in
set_option maxRecDepth 100000 in
theorem ok_fMd_drinksBy_F (l : Launch) (N : Rig) {kr kc : Nat} (hkr : Nat.ble (kr + 1) kc = true) (hkb : Nat.ble 102 kc = true) (g_fMd_drinksBy : Mem → Int32 → Int32 → Int32 → Option (Int32 × Mem)) (G_fMd_drinksBy : ∀ (M : Mem) (x1 : Int32) (x2 : Int32) (x3 : Int32) {r : Int32} {M0 : Mem}, g_fMd_drinksBy M x1 x2 x3 = some (r, M0) → Ct l N yX11_drinksBy cX11_drinksBy 5 (some .int) kr [.ref (N.2.1 66), .int x1, .int x2, .int x3] M (QcI N (some .int) r M0)) (M : Mem) (x1 : Int32) (x2 : Int32) (x3 : Int32) (r : Int32) (M0 : Mem) (h : fMd_drinksBy_F g_fMd_drinksBy M x1 x2 x3 = some (r, M0)) : Ct l N yX11_drinksBy cX11_drinksBy 5 (some .int) kc [.ref (N.2.1 66), .int x1, .int x2, .int x3] M (QcI N (some .int) r M0) := by
  refine ct_of (by decide) rfl ?_
  intro X el eN eL C E
  subst el
  subst eN
  unfold fMd_drinksBy_F at h
  show WA X M [(0, .ref (X.N.2.1 66)), (1, .int x1), (2, .int x2), (3, .int x3)] 0 []
  refine a_iload_n (pc := 0) C dX11_drinksBy_0 rfl 2 rfl ?_
  by_cases c1 : x2 = 0
  · replace h := iteT c1 h
    refine a_tsw_in (pc := 1) C 0 36 dX11_drinksBy_1 c1 (by decide) (by decide) rfl rfl ?_
    refine a_aload_n (pc := 36) C dX11_drinksBy_36 rfl 0 rfl ?_
    refine a_bipush (pc := 37) C 11 dX11_drinksBy_37 rfl ?_
    obtain ⟨q2, eq2, h⟩ := bndS h
    refine a_callVV (pc := 39) C [.int 11] (ok_fMd_ran X.l X.N M 11 eq2) (ble_tr (b := 102) rfl hkb) mw_X11_ran wd_1563 rfl rfl rfl rfl rfl rfl rfl dX11_drinksBy_39 ?_
    refine a_iload_n (pc := 42) C dX11_drinksBy_42 rfl 3 rfl ?_
    refine a_iload_n (pc := 43) C dX11_drinksBy_43 rfl 1 rfl ?_
    refine a_ixor (pc := 44) C dX11_drinksBy_44 ?_
    exact a_iret (pc := 45) C E rfl (som1 h) (som2 h) dX11_drinksBy_45
  replace h := iteF c1 h
  by_cases c3 : x2 = 3
  · replace h := iteT c3 h
    refine a_tsw_in (pc := 1) C 3 46 dX11_drinksBy_1 c3 (by decide) (by decide) rfl rfl ?_
    refine a_aload_n (pc := 46) C dX11_drinksBy_46 rfl 0 rfl ?_
    refine a_bipush (pc := 47) C 40 dX11_drinksBy_47 rfl ?_
    obtain ⟨q4, eq4, h⟩ := bndS h
    refine a_callVV (pc := 49) C [.int 40] (ok_fMd_ran X.l X.N M 40 eq4) (ble_tr (b := 102) rfl hkb) mw_X11_ran wd_1563 rfl rfl rfl rfl rfl rfl rfl dX11_drinksBy_49 ?_
    refine a_aload_n (pc := 52) C dX11_drinksBy_52 rfl 0 rfl ?_
    refine a_iload_n (pc := 53) C dX11_drinksBy_53 rfl 1 rfl ?_
    refine a_iconst (pc := 54) C 2 dX11_drinksBy_54 rfl ?_
    refine a_iload_n (pc := 55) C dX11_drinksBy_55 rfl 3 rfl ?_
    obtain ⟨q5, eq5, h⟩ := bndS h
    refine a_callVI (pc := 56) C [.int x1, .int 2, .int x3] (G_fMd_drinksBy q4 x1 2 x3 eq5) hkr mw_X11_drinksBy wd_1574 rfl rfl rfl rfl rfl rfl rfl dX11_drinksBy_56 (fun z6 => ?_)
    refine a_iconst (pc := 59) C 3 dX11_drinksBy_59 rfl ?_
    refine a_imul (pc := 60) C dX11_drinksBy_60 ?_
    exact a_iret (pc := 61) C E rfl (som1 h) (som2 h) dX11_drinksBy_61
  replace h := iteF c3 h
  by_cases c7 : x2 = 4
  · replace h := iteT c7 h
    refine a_tsw_in (pc := 1) C 4 62 dX11_drinksBy_1 c7 (by decide) (by decide) rfl rfl ?_
    refine a_aload_n (pc := 62) C dX11_drinksBy_62 rfl 0 rfl ?_
    refine a_bipush (pc := 63) C 50 dX11_drinksBy_63 rfl ?_
    obtain ⟨q8, eq8, h⟩ := bndS h
    refine a_callVV (pc := 65) C [.int 50] (ok_fMd_ran X.l X.N M 50 eq8) (ble_tr (b := 102) rfl hkb) mw_X11_ran wd_1563 rfl rfl rfl rfl rfl rfl rfl dX11_drinksBy_65 ?_
    refine a_aload_n (pc := 68) C dX11_drinksBy_68 rfl 0 rfl ?_
    refine a_iload_n (pc := 69) C dX11_drinksBy_69 rfl 1 rfl ?_
    refine a_iconst (pc := 70) C 1 dX11_drinksBy_70 rfl ?_
    refine a_iload_n (pc := 71) C dX11_drinksBy_71 rfl 3 rfl ?_
    obtain ⟨q9, eq9, h⟩ := bndS h
    refine a_callVI (pc := 72) C [.int x1, .int 1, .int x3] (G_fMd_drinksBy q8 x1 1 x3 eq9) hkr mw_X11_drinksBy wd_1574 rfl rfl rfl rfl rfl rfl rfl dX11_drinksBy_72 (fun z10 => ?_)
    refine a_istore (pc := 75) C [(4, .int q9.1), (0, .ref (X.N.2.1 66)), (1, .int x1), (2, .int x2), (3, .int x3)] dX11_drinksBy_75 (nlt eL rfl) rfl ?_
    refine a_iload (pc := 77) C dX11_drinksBy_77 0 rfl ?_
    refine a_aload_n (pc := 79) C dX11_drinksBy_79 rfl 1 rfl ?_
    refine a_iload_n (pc := 80) C dX11_drinksBy_80 rfl 2 rfl ?_
    refine a_aload_n (pc := 81) C dX11_drinksBy_81 rfl 1 rfl ?_
    refine gf_11_33 (pc := 82) C wd_1110 dX11_drinksBy_82 ?_
    refine a_iload_n (pc := 85) C dX11_drinksBy_85 rfl 2 rfl ?_
    obtain ⟨v11, ev11, h⟩ := bndS h
    refine a_iald (pc := 86) C rfl ev11 dX11_drinksBy_86 ?_
    refine a_iconst (pc := 87) C 2 dX11_drinksBy_87 rfl ?_
    obtain ⟨q12, eq12, h⟩ := bndS h
    refine a_callVI (pc := 88) C [.int x1, .int v11, .int 2] (ok_fMd_runsBy X.l X.N q9.2 x1 v11 2 eq12) (ble_tr (b := 102) rfl hkb) mw_X11_runsBy wd_1559 rfl rfl rfl rfl rfl rfl rfl dX11_drinksBy_88 (fun z13 => ?_)
    refine a_isub (pc := 91) C dX11_drinksBy_91 ?_
    exact a_iret (pc := 92) C E rfl (som1 h) (som2 h) dX11_drinksBy_92
  replace h := iteF c7 h
  have kd : WA X M [(0, .ref (X.N.2.1 66)), (1, .int x1), (2, .int x2), (3, .int x3)] 93 [] := by
    refine a_aload_n (pc := 93) C dX11_drinksBy_93 rfl 0 rfl ?_
    refine a_iload_n (pc := 94) C dX11_drinksBy_94 rfl 1 rfl ?_
    refine a_iload_n (pc := 95) C dX11_drinksBy_95 rfl 2 rfl ?_
    refine a_callSI (pc := 96) C [.int x2] (ok_fMd_above_ X.l X.N M x2) (ble_tr (b := 102) rfl hkb) mw_X11_above_ wd_1567 rfl rfl rfl dX11_drinksBy_96 (fun z14 => ?_)
    refine a_iload_n (pc := 99) C dX11_drinksBy_99 rfl 3 rfl ?_
    obtain ⟨q15, eq15, h⟩ := bndS h
    refine a_callVI (pc := 100) C [.int x1, .int (fMd_above_ x2), .int x3] (G_fMd_drinksBy M x1 (fMd_above_ x2) x3 eq15) hkr mw_X11_drinksBy wd_1574 rfl rfl rfl rfl rfl rfl rfl dX11_drinksBy_100 (fun z16 => ?_)
    exact a_iret (pc := 103) C E rfl (som1 h) (som2 h) dX11_drinksBy_103
  by_cases c17 : x2 = 1
  · exact a_tsw_in (pc := 1) C 1 93 dX11_drinksBy_1 c17 (by decide) (by decide) rfl rfl kd
  by_cases c18 : x2 = 2
  · exact a_tsw_in (pc := 1) C 2 93 dX11_drinksBy_1 c18 (by decide) (by decide) rfl rfl kd
  exact a_tsw_out (pc := 1) C 93 dX11_drinksBy_1 (by have := neI 0 rfl c1; have := neI 3 rfl c3; have := neI 4 rfl c7; have := neI 1 rfl c17; have := neI 2 rfl c18; omega) rfl kd
theorem ok_rec_fMd_drinksBy (l : Launch) (N : Rig) : ∀ n : Nat, (∀ (M : Mem) (x1 : Int32) (x2 : Int32) (x3 : Int32) {r : Int32} {M0 : Mem}, (rec_fMd_drinksBy n) M x1 x2 x3 = some (r, M0) → Ct l N yX11_drinksBy cX11_drinksBy 5 (some .int) (102 + n) [.ref (N.2.1 66), .int x1, .int x2, .int x3] M (QcI N (some .int) r M0)) := by
  intro n
  induction n with
  | zero => intro _ _ _ _ _ _ h; cases h
  | succ n ih => exact fun M x1 x2 x3 r M0 h => ok_fMd_drinksBy_F l N (kr := 102 + n) (kc := 102 + (n + 1)) (Nat.ble_eq.mpr (by omega)) (Nat.ble_eq.mpr (by omega)) (rec_fMd_drinksBy n) ih M x1 x2 x3 r M0 h
theorem ok_fMd_drinksBy (l : Launch) (N : Rig) (M : Mem) (x1 : Int32) (x2 : Int32) (x3 : Int32) {r : Int32} {M0 : Mem} (h : fMd_drinksBy M x1 x2 x3 = some (r, M0)) : Ct l N yX11_drinksBy cX11_drinksBy 5 (some .int) 202 [.ref (N.2.1 66), .int x1, .int x2, .int x3] M (QcI N (some .int) r M0) := (ok_rec_fMd_drinksBy l N 100) M x1 x2 x3 h
set_option maxHeartbeats 200000 in
set_option maxRecDepth 100000 in
theorem ok_fMd_holdsBy_F (l : Launch) (N : Rig) {kr kc : Nat} (hkr : Nat.ble (kr + 1) kc = true) (hkb : Nat.ble 203 kc = true) (g_fMd_holdsBy : Mem → Int32 → Int32 → Int32 → Option (Int32 × Mem)) (G_fMd_holdsBy : ∀ (M : Mem) (x1 : Int32) (x2 : Int32) (x3 : Int32) {r : Int32} {M0 : Mem}, g_fMd_holdsBy M x1 x2 x3 = some (r, M0) → Ct l N yX11_holdsBy cX11_holdsBy 5 (some .int) kr [.ref (N.2.1 66), .int x1, .int x2, .int x3] M (QcI N (some .int) r M0)) (M : Mem) (x1 : Int32) (x2 : Int32) (x3 : Int32) (r : Int32) (M0 : Mem) (h : fMd_holdsBy_F g_fMd_holdsBy M x1 x2 x3 = some (r, M0)) : Ct l N yX11_holdsBy cX11_holdsBy 5 (some .int) kc [.ref (N.2.1 66), .int x1, .int x2, .int x3] M (QcI N (some .int) r M0) := by
  refine ct_of (by decide) rfl ?_
  intro X el eN eL C E
  subst el
  subst eN
  unfold fMd_holdsBy_F at h
  show WA X M [(0, .ref (X.N.2.1 66)), (1, .int x1), (2, .int x2), (3, .int x3)] 0 []
  refine a_iload_n (pc := 0) C dX11_holdsBy_0 rfl 2 rfl ?_
  by_cases c1 : x2 = 0
  · replace h := iteT c1 h
    refine a_tsw_in (pc := 1) C 0 48 dX11_holdsBy_1 c1 (by decide) (by decide) rfl rfl ?_
    refine a_aload_n (pc := 48) C dX11_holdsBy_48 rfl 0 rfl ?_
    refine a_bipush (pc := 49) C 10 dX11_holdsBy_49 rfl ?_
    obtain ⟨q2, eq2, h⟩ := bndS h
    refine a_callVV (pc := 51) C [.int 10] (ok_fMd_ran X.l X.N M 10 eq2) (ble_tr (b := 203) rfl hkb) mw_X11_ran wd_1563 rfl rfl rfl rfl rfl rfl rfl dX11_holdsBy_51 ?_
    refine a_aload_n (pc := 54) C dX11_holdsBy_54 rfl 0 rfl ?_
    refine a_iload_n (pc := 55) C dX11_holdsBy_55 rfl 1 rfl ?_
    refine a_aload_n (pc := 56) C dX11_holdsBy_56 rfl 0 rfl ?_
    refine gf_11_33 (pc := 57) C wd_1110 dX11_holdsBy_57 ?_
    refine a_iload_n (pc := 60) C dX11_holdsBy_60 rfl 1 rfl ?_
    obtain ⟨v3, ev3, h⟩ := bndS h
    refine a_iald (pc := 61) C rfl ev3 dX11_holdsBy_61 ?_
    refine a_iload_n (pc := 62) C dX11_holdsBy_62 rfl 3 rfl ?_
    obtain ⟨q4, eq4, h⟩ := bndS h
    refine a_callVI (pc := 63) C [.int x1, .int v3, .int x3] (ok_fMd_runsBy X.l X.N q2 x1 v3 x3 eq4) (ble_tr (b := 203) rfl hkb) mw_X11_runsBy wd_1559 rfl rfl rfl rfl rfl rfl rfl dX11_holdsBy_63 (fun z5 => ?_)
    refine a_iconst (pc := 66) C 2 dX11_holdsBy_66 rfl ?_
    refine a_imul (pc := 67) C dX11_holdsBy_67 ?_
    exact a_iret (pc := 68) C E rfl (som1 h) (som2 h) dX11_holdsBy_68
  replace h := iteF c1 h
  by_cases c6 : x2 = 2
  · replace h := iteT c6 h
    refine a_tsw_in (pc := 1) C 2 69 dX11_holdsBy_1 c6 (by decide) (by decide) rfl rfl ?_
    refine a_aload_n (pc := 69) C dX11_holdsBy_69 rfl 0 rfl ?_
    refine a_bipush (pc := 70) C 30 dX11_holdsBy_70 rfl ?_
    obtain ⟨q7, eq7, h⟩ := bndS h
    refine a_callVV (pc := 72) C [.int 30] (ok_fMd_ran X.l X.N M 30 eq7) (ble_tr (b := 203) rfl hkb) mw_X11_ran wd_1563 rfl rfl rfl rfl rfl rfl rfl dX11_holdsBy_72 ?_
    refine a_aload_n (pc := 75) C dX11_holdsBy_75 rfl 0 rfl ?_
    refine a_iload_n (pc := 76) C dX11_holdsBy_76 rfl 1 rfl ?_
    refine a_iconst (pc := 77) C 0 dX11_holdsBy_77 rfl ?_
    refine a_iload_n (pc := 78) C dX11_holdsBy_78 rfl 3 rfl ?_
    obtain ⟨q8, eq8, h⟩ := bndS h
    refine a_callVI (pc := 79) C [.int x1, .int 0, .int x3] (G_fMd_holdsBy q7 x1 0 x3 eq8) hkr mw_X11_holdsBy wd_1570 rfl rfl rfl rfl rfl rfl rfl dX11_holdsBy_79 (fun z9 => ?_)
    refine a_ineg (pc := 82) C dX11_holdsBy_82 ?_
    exact a_iret (pc := 83) C E rfl (som1 h) (som2 h) dX11_holdsBy_83
  replace h := iteF c6 h
  by_cases c10 : x2 = 3
  · replace h := iteT c10 h
    refine a_tsw_in (pc := 1) C 3 84 dX11_holdsBy_1 c10 (by decide) (by decide) rfl rfl ?_
    refine a_aload_n (pc := 84) C dX11_holdsBy_84 rfl 0 rfl ?_
    refine a_bipush (pc := 85) C 41 dX11_holdsBy_85 rfl ?_
    obtain ⟨q11, eq11, h⟩ := bndS h
    refine a_callVV (pc := 87) C [.int 41] (ok_fMd_ran X.l X.N M 41 eq11) (ble_tr (b := 203) rfl hkb) mw_X11_ran wd_1563 rfl rfl rfl rfl rfl rfl rfl dX11_holdsBy_87 ?_
    refine a_aload_n (pc := 90) C dX11_holdsBy_90 rfl 0 rfl ?_
    refine a_iload_n (pc := 91) C dX11_holdsBy_91 rfl 1 rfl ?_
    refine a_iconst (pc := 92) C 2 dX11_holdsBy_92 rfl ?_
    refine a_iload_n (pc := 93) C dX11_holdsBy_93 rfl 3 rfl ?_
    refine a_iconst (pc := 94) C 1 dX11_holdsBy_94 rfl ?_
    refine a_iadd (pc := 95) C dX11_holdsBy_95 ?_
    obtain ⟨q12, eq12, h⟩ := bndS h
    refine a_callVI (pc := 96) C [.int x1, .int 2, .int (x3 + 1)] (G_fMd_holdsBy q11 x1 2 (x3 + 1) eq12) hkr mw_X11_holdsBy wd_1570 rfl rfl rfl rfl rfl rfl rfl dX11_holdsBy_96 (fun z13 => ?_)
    exact a_iret (pc := 99) C E rfl (som1 h) (som2 h) dX11_holdsBy_99
  replace h := iteF c10 h
  by_cases c14 : x2 = 7
  · replace h := iteT c14 h
    refine a_tsw_in (pc := 1) C 7 100 dX11_holdsBy_1 c14 (by decide) (by decide) rfl rfl ?_
    refine a_aload_n (pc := 100) C dX11_holdsBy_100 rfl 0 rfl ?_
    refine a_bipush (pc := 101) C 80 dX11_holdsBy_101 rfl ?_
    obtain ⟨q15, eq15, h⟩ := bndS h
    refine a_callVV (pc := 103) C [.int 80] (ok_fMd_ran X.l X.N M 80 eq15) (ble_tr (b := 203) rfl hkb) mw_X11_ran wd_1563 rfl rfl rfl rfl rfl rfl rfl dX11_holdsBy_103 ?_
    refine a_aload_n (pc := 106) C dX11_holdsBy_106 rfl 0 rfl ?_
    refine a_iload_n (pc := 107) C dX11_holdsBy_107 rfl 1 rfl ?_
    refine a_iconst (pc := 108) C 4 dX11_holdsBy_108 rfl ?_
    refine a_iload_n (pc := 109) C dX11_holdsBy_109 rfl 3 rfl ?_
    obtain ⟨q16, eq16, h⟩ := bndS h
    refine a_callVI (pc := 110) C [.int x1, .int 4, .int x3] (G_fMd_holdsBy q15 x1 4 x3 eq16) hkr mw_X11_holdsBy wd_1570 rfl rfl rfl rfl rfl rfl rfl dX11_holdsBy_110 (fun z17 => ?_)
    refine a_istore (pc := 113) C [(4, .int q16.1), (0, .ref (X.N.2.1 66)), (1, .int x1), (2, .int x2), (3, .int x3)] dX11_holdsBy_113 (nlt eL rfl) rfl ?_
    refine a_iload (pc := 115) C dX11_holdsBy_115 0 rfl ?_
    refine a_aload_n (pc := 117) C dX11_holdsBy_117 rfl 1 rfl ?_
    refine a_iload_n (pc := 118) C dX11_holdsBy_118 rfl 2 rfl ?_
    refine a_aload_n (pc := 119) C dX11_holdsBy_119 rfl 1 rfl ?_
    refine gf_11_33 (pc := 120) C wd_1110 dX11_holdsBy_120 ?_
    refine a_iload_n (pc := 123) C dX11_holdsBy_123 rfl 2 rfl ?_
    obtain ⟨v18, ev18, h⟩ := bndS h
    refine a_iald (pc := 124) C rfl ev18 dX11_holdsBy_124 ?_
    refine a_iconst (pc := 125) C 2 dX11_holdsBy_125 rfl ?_
    obtain ⟨q19, eq19, h⟩ := bndS h
    refine a_callVI (pc := 126) C [.int x1, .int v18, .int 2] (ok_fMd_drinksBy X.l X.N q16.2 x1 v18 2 eq19) (ble_tr (b := 203) rfl hkb) mw_X11_drinksBy wd_1574 rfl rfl rfl rfl rfl rfl rfl dX11_holdsBy_126 (fun z20 => ?_)
    refine a_iadd (pc := 129) C dX11_holdsBy_129 ?_
    exact a_iret (pc := 130) C E rfl (som1 h) (som2 h) dX11_holdsBy_130
  replace h := iteF c14 h
  have kd : WA X M [(0, .ref (X.N.2.1 66)), (1, .int x1), (2, .int x2), (3, .int x3)] 131 [] := by
    refine a_aload_n (pc := 131) C dX11_holdsBy_131 rfl 0 rfl ?_
    refine a_iload_n (pc := 132) C dX11_holdsBy_132 rfl 1 rfl ?_
    refine a_iload_n (pc := 133) C dX11_holdsBy_133 rfl 2 rfl ?_
    refine a_callSI (pc := 134) C [.int x2] (ok_fMd_above_ X.l X.N M x2) (ble_tr (b := 203) rfl hkb) mw_X11_above_ wd_1567 rfl rfl rfl dX11_holdsBy_134 (fun z21 => ?_)
    refine a_iload_n (pc := 137) C dX11_holdsBy_137 rfl 3 rfl ?_
    obtain ⟨q22, eq22, h⟩ := bndS h
    refine a_callVI (pc := 138) C [.int x1, .int (fMd_above_ x2), .int x3] (G_fMd_holdsBy M x1 (fMd_above_ x2) x3 eq22) hkr mw_X11_holdsBy wd_1570 rfl rfl rfl rfl rfl rfl rfl dX11_holdsBy_138 (fun z23 => ?_)
    exact a_iret (pc := 141) C E rfl (som1 h) (som2 h) dX11_holdsBy_141
  by_cases c24 : x2 = 1
  · exact a_tsw_in (pc := 1) C 1 131 dX11_holdsBy_1 c24 (by decide) (by decide) rfl rfl kd
  by_cases c25 : x2 = 4
  · exact a_tsw_in (pc := 1) C 4 131 dX11_holdsBy_1 c25 (by decide) (by decide) rfl rfl kd
  by_cases c26 : x2 = 5
  · exact a_tsw_in (pc := 1) C 5 131 dX11_holdsBy_1 c26 (by decide) (by decide) rfl rfl kd
  by_cases c27 : x2 = 6
  · exact a_tsw_in (pc := 1) C 6 131 dX11_holdsBy_1 c27 (by decide) (by decide) rfl rfl kd
  exact a_tsw_out (pc := 1) C 131 dX11_holdsBy_1 (by have := neI 0 rfl c1; have := neI 2 rfl c6; have := neI 3 rfl c10; have := neI 7 rfl c14; have := neI 1 rfl c24; have := neI 4 rfl c25; have := neI 5 rfl c26; have := neI 6 rfl c27; omega) rfl kd
theorem ok_rec_fMd_holdsBy (l : Launch) (N : Rig) : ∀ n : Nat, (∀ (M : Mem) (x1 : Int32) (x2 : Int32) (x3 : Int32) {r : Int32} {M0 : Mem}, (rec_fMd_holdsBy n) M x1 x2 x3 = some (r, M0) → Ct l N yX11_holdsBy cX11_holdsBy 5 (some .int) (203 + n) [.ref (N.2.1 66), .int x1, .int x2, .int x3] M (QcI N (some .int) r M0)) := by
  intro n
  induction n with
  | zero => intro _ _ _ _ _ _ h; cases h
  | succ n ih => exact fun M x1 x2 x3 r M0 h => ok_fMd_holdsBy_F l N (kr := 203 + n) (kc := 203 + (n + 1)) (Nat.ble_eq.mpr (by omega)) (Nat.ble_eq.mpr (by omega)) (rec_fMd_holdsBy n) ih M x1 x2 x3 r M0 h
theorem ok_fMd_holdsBy (l : Launch) (N : Rig) (M : Mem) (x1 : Int32) (x2 : Int32) (x3 : Int32) {r : Int32} {M0 : Mem} (h : fMd_holdsBy M x1 x2 x3 = some (r, M0)) : Ct l N yX11_holdsBy cX11_holdsBy 5 (some .int) 303 [.ref (N.2.1 66), .int x1, .int x2, .int x3] M (QcI N (some .int) r M0) := (ok_rec_fMd_holdsBy l N 100) M x1 x2 x3 h
set_option maxHeartbeats 200000 in
set_option maxRecDepth 100000 in
theorem ok_fMd_tells_F (l : Launch) (N : Rig) {kr kc : Nat} (hkr : Nat.ble (kr + 1) kc = true) (hkb : Nat.ble 304 kc = true) (g_fMd_tells : Mem → Int32 → Int32 → Int32 → Option (Int32 × Mem)) (G_fMd_tells : ∀ (M : Mem) (x1 : Int32) (x2 : Int32) (x3 : Int32) {r : Int32} {M0 : Mem}, g_fMd_tells M x1 x2 x3 = some (r, M0) → Ct l N yX11_tells cX11_tells 5 (some .int) kr [.ref (N.2.1 66), .int x1, .int x2, .int x3] M (QcI N (some .int) r M0)) (M : Mem) (x1 : Int32) (x2 : Int32) (x3 : Int32) (r : Int32) (M0 : Mem) (h : fMd_tells_F g_fMd_tells M x1 x2 x3 = some (r, M0)) : Ct l N yX11_tells cX11_tells 5 (some .int) kc [.ref (N.2.1 66), .int x1, .int x2, .int x3] M (QcI N (some .int) r M0) := by
  refine ct_of (by decide) rfl ?_
  intro X el eN eL C E
  subst el
  subst eN
  unfold fMd_tells_F at h
  show WA X M [(0, .ref (X.N.2.1 66)), (1, .int x1), (2, .int x2), (3, .int x3)] 0 []
  refine a_iload_n (pc := 0) C dX11_tells_0 rfl 2 rfl ?_
  by_cases c1 : x2 = 0
  · replace h := iteT c1 h
    refine a_lsw (pc := 1) (off := 35) C 36 dX11_tells_1 (by decide) (lsw_eq c1 rfl) rfl ?_
    refine a_aload_n (pc := 36) C dX11_tells_36 rfl 0 rfl ?_
    refine a_iconst (pc := 37) C 2 dX11_tells_37 rfl ?_
    obtain ⟨q2, eq2, h⟩ := bndS h
    refine a_callVV (pc := 38) C [.int 2] (ok_fMd_ran X.l X.N M 2 eq2) (ble_tr (b := 304) rfl hkb) mw_X11_ran wd_1563 rfl rfl rfl rfl rfl rfl rfl dX11_tells_38 ?_
    refine a_aload_n (pc := 41) C dX11_tells_41 rfl 0 rfl ?_
    refine a_iload_n (pc := 42) C dX11_tells_42 rfl 1 rfl ?_
    refine a_aload_n (pc := 43) C dX11_tells_43 rfl 0 rfl ?_
    refine gf_11_33 (pc := 44) C wd_1110 dX11_tells_44 ?_
    refine a_iload_n (pc := 47) C dX11_tells_47 rfl 1 rfl ?_
    obtain ⟨v3, ev3, h⟩ := bndS h
    refine a_iald (pc := 48) C rfl ev3 dX11_tells_48 ?_
    refine a_iload_n (pc := 49) C dX11_tells_49 rfl 3 rfl ?_
    obtain ⟨q4, eq4, h⟩ := bndS h
    refine a_callVI (pc := 50) C [.int x1, .int v3, .int x3] (ok_fMd_holdsBy X.l X.N q2 x1 v3 x3 eq4) (ble_tr (b := 304) rfl hkb) mw_X11_holdsBy wd_1570 rfl rfl rfl rfl rfl rfl rfl dX11_tells_50 (fun z5 => ?_)
    refine a_istore (pc := 53) C [(4, .int q4.1), (0, .ref (X.N.2.1 66)), (1, .int x1), (2, .int x2), (3, .int x3)] dX11_tells_53 (nlt eL rfl) rfl ?_
    refine a_iload (pc := 55) C dX11_tells_55 0 rfl ?_
    refine a_aload_n (pc := 57) C dX11_tells_57 rfl 1 rfl ?_
    refine a_iload_n (pc := 58) C dX11_tells_58 rfl 2 rfl ?_
    refine a_aload_n (pc := 59) C dX11_tells_59 rfl 1 rfl ?_
    refine gf_11_33 (pc := 60) C wd_1110 dX11_tells_60 ?_
    refine a_iload_n (pc := 63) C dX11_tells_63 rfl 2 rfl ?_
    obtain ⟨v6, ev6, h⟩ := bndS h
    refine a_iald (pc := 64) C rfl ev6 dX11_tells_64 ?_
    refine a_iconst (pc := 65) C 1 dX11_tells_65 rfl ?_
    obtain ⟨q7, eq7, h⟩ := bndS h
    refine a_callVI (pc := 66) C [.int x1, .int v6, .int 1] (ok_fMd_drinksBy X.l X.N q4.2 x1 v6 1 eq7) (ble_tr (b := 304) rfl hkb) mw_X11_drinksBy wd_1574 rfl rfl rfl rfl rfl rfl rfl dX11_tells_66 (fun z8 => ?_)
    refine a_isub (pc := 69) C dX11_tells_69 ?_
    exact a_iret (pc := 70) C E rfl (som1 h) (som2 h) dX11_tells_70
  replace h := iteF c1 h
  by_cases c9 : x2 = 5
  · replace h := iteT c9 h
    refine a_lsw (pc := 1) (off := 70) C 71 dX11_tells_1 (by decide) (lsw_eq c9 rfl) rfl ?_
    refine a_aload_n (pc := 71) C dX11_tells_71 rfl 0 rfl ?_
    refine a_bipush (pc := 72) C 60 dX11_tells_72 rfl ?_
    obtain ⟨q10, eq10, h⟩ := bndS h
    refine a_callVV (pc := 74) C [.int 60] (ok_fMd_ran X.l X.N M 60 eq10) (ble_tr (b := 304) rfl hkb) mw_X11_ran wd_1563 rfl rfl rfl rfl rfl rfl rfl dX11_tells_74 ?_
    refine a_aload_n (pc := 77) C dX11_tells_77 rfl 0 rfl ?_
    refine a_iload_n (pc := 78) C dX11_tells_78 rfl 1 rfl ?_
    refine a_iconst (pc := 79) C 3 dX11_tells_79 rfl ?_
    refine a_iload_n (pc := 80) C dX11_tells_80 rfl 3 rfl ?_
    obtain ⟨q11, eq11, h⟩ := bndS h
    refine a_callVI (pc := 81) C [.int x1, .int 3, .int x3] (G_fMd_tells q10 x1 3 x3 eq11) hkr mw_X11_tells wd_1578 rfl rfl rfl rfl rfl rfl rfl dX11_tells_81 (fun z12 => ?_)
    refine a_iconst (pc := 84) C 5 dX11_tells_84 rfl ?_
    refine a_ixor (pc := 85) C dX11_tells_85 ?_
    exact a_iret (pc := 86) C E rfl (som1 h) (som2 h) dX11_tells_86
  replace h := iteF c9 h
  by_cases c13 : x2 = 7
  · replace h := iteT c13 h
    refine a_lsw (pc := 1) (off := 86) C 87 dX11_tells_1 (by decide) (lsw_eq c13 rfl) rfl ?_
    refine a_aload_n (pc := 87) C dX11_tells_87 rfl 0 rfl ?_
    refine a_bipush (pc := 88) C 81 dX11_tells_88 rfl ?_
    obtain ⟨q14, eq14, h⟩ := bndS h
    refine a_callVV (pc := 90) C [.int 81] (ok_fMd_ran X.l X.N M 81 eq14) (ble_tr (b := 304) rfl hkb) mw_X11_ran wd_1563 rfl rfl rfl rfl rfl rfl rfl dX11_tells_90 ?_
    refine a_aload_n (pc := 93) C dX11_tells_93 rfl 0 rfl ?_
    refine a_iload_n (pc := 94) C dX11_tells_94 rfl 1 rfl ?_
    refine a_iconst (pc := 95) C 4 dX11_tells_95 rfl ?_
    refine a_iload_n (pc := 96) C dX11_tells_96 rfl 3 rfl ?_
    obtain ⟨q15, eq15, h⟩ := bndS h
    refine a_callVI (pc := 97) C [.int x1, .int 4, .int x3] (G_fMd_tells q14 x1 4 x3 eq15) hkr mw_X11_tells wd_1578 rfl rfl rfl rfl rfl rfl rfl dX11_tells_97 (fun z16 => ?_)
    refine a_iconst (pc := 100) C 1 dX11_tells_100 rfl ?_
    refine a_isub (pc := 101) C dX11_tells_101 ?_
    exact a_iret (pc := 102) C E rfl (som1 h) (som2 h) dX11_tells_102
  replace h := iteF c13 h
  refine a_lsw (pc := 1) (off := 102) C 103 dX11_tells_1 (by decide) (by simp [Op.lookupswitch.offset, neI2 0 rfl c1, neI2 5 rfl c9, neI2 7 rfl c13]) rfl ?_
  refine a_aload_n (pc := 103) C dX11_tells_103 rfl 0 rfl ?_
  refine a_iload_n (pc := 104) C dX11_tells_104 rfl 1 rfl ?_
  refine a_iload_n (pc := 105) C dX11_tells_105 rfl 2 rfl ?_
  refine a_callSI (pc := 106) C [.int x2] (ok_fMd_above_ X.l X.N M x2) (ble_tr (b := 304) rfl hkb) mw_X11_above_ wd_1567 rfl rfl rfl dX11_tells_106 (fun z17 => ?_)
  refine a_iload_n (pc := 109) C dX11_tells_109 rfl 3 rfl ?_
  obtain ⟨q18, eq18, h⟩ := bndS h
  refine a_callVI (pc := 110) C [.int x1, .int (fMd_above_ x2), .int x3] (G_fMd_tells M x1 (fMd_above_ x2) x3 eq18) hkr mw_X11_tells wd_1578 rfl rfl rfl rfl rfl rfl rfl dX11_tells_110 (fun z19 => ?_)
  exact a_iret (pc := 113) C E rfl (som1 h) (som2 h) dX11_tells_113
theorem ok_rec_fMd_tells (l : Launch) (N : Rig) : ∀ n : Nat, (∀ (M : Mem) (x1 : Int32) (x2 : Int32) (x3 : Int32) {r : Int32} {M0 : Mem}, (rec_fMd_tells n) M x1 x2 x3 = some (r, M0) → Ct l N yX11_tells cX11_tells 5 (some .int) (304 + n) [.ref (N.2.1 66), .int x1, .int x2, .int x3] M (QcI N (some .int) r M0)) := by
  intro n
  induction n with
  | zero => intro _ _ _ _ _ _ h; cases h
  | succ n ih => exact fun M x1 x2 x3 r M0 h => ok_fMd_tells_F l N (kr := 304 + n) (kc := 304 + (n + 1)) (Nat.ble_eq.mpr (by omega)) (Nat.ble_eq.mpr (by omega)) (rec_fMd_tells n) ih M x1 x2 x3 r M0 h
theorem ok_fMd_tells (l : Launch) (N : Rig) (M : Mem) (x1 : Int32) (x2 : Int32) (x3 : Int32) {r : Int32} {M0 : Mem} (h : fMd_tells M x1 x2 x3 = some (r, M0)) : Ct l N yX11_tells cX11_tells 5 (some .int) 404 [.ref (N.2.1 66), .int x1, .int x2, .int x3] M (QcI N (some .int) r M0) := (ok_rec_fMd_tells l N 100) M x1 x2 x3 h
set_option maxHeartbeats 200000 in
set_option maxRecDepth 100000 in
theorem ok_fMd_body (l : Launch) (N : Rig) (M : Mem) (x1 : Int32) {r : Int32} {M0 : Mem} (h : fMd_body M x1 = some (r, M0)) : Ct l N yX11_body cX11_body 2 (some .int) 1 [.ref (N.2.1 66), .int x1] M (QcI N (some .int) r M0) := by
  refine ct_of (by decide) rfl ?_
  intro X el eN eL C E
  subst el
  subst eN
  unfold fMd_body at h
  show WA X M [(0, .ref (X.N.2.1 66)), (1, .int x1)] 0 []
  refine a_iload_n (pc := 0) C dX11_body_0 rfl 1 rfl ?_
  refine a_iconst (pc := 1) C 0 dX11_body_1 rfl ?_
  refine a_bipush (pc := 2) C 7 dX11_body_2 rfl ?_
  refine a_callSI (pc := 4) C [.int x1, .int 0, .int 7] (ok_fMd_within X.l X.N M x1 0 7) rfl mw_X11_within wd_1220 rfl rfl rfl dX11_body_4 (fun z1 => ?_)
  refine a_if_ne (pc := 7) C 12 dX11_body_7 rfl (fun c2 => ?_) (fun c2 => ?_)
  · replace h := iteT c2 h
    refine a_aload_n (pc := 12) C dX11_body_12 rfl 0 rfl ?_
    refine gf_11_32 (pc := 13) C wd_1109 dX11_body_13 ?_
    refine a_bipush (pc := 16) C 50 dX11_body_16 rfl ?_
    refine a_icmp_ne (pc := 18) C 24 dX11_body_18 rfl (fun c3 => ?_) (fun c3 => ?_)
    · replace h := iteT c3 h
      refine a_aload_n (pc := 24) C dX11_body_24 rfl 0 rfl ?_
      refine gf_11_33 (pc := 25) C wd_1110 dX11_body_25 ?_
      refine a_aload_n (pc := 28) C dX11_body_28 rfl 0 rfl ?_
      refine gf_11_32 (pc := 29) C wd_1109 dX11_body_29 ?_
      refine a_iload_n (pc := 32) C dX11_body_32 rfl 1 rfl ?_
      obtain ⟨M4, eM4, h⟩ := bndS h
      refine a_iast (pc := 33) C rfl eM4 dX11_body_33 ?_
      refine a_aload_n (pc := 34) C dX11_body_34 rfl 0 rfl ?_
      refine a_dup (pc := 35) C dX11_body_35 rfl ?_
      refine gf_11_32 (pc := 36) C wd_1109 dX11_body_36 ?_
      refine a_dup_x1 (pc := 39) C dX11_body_39 rfl rfl ?_
      refine a_iconst (pc := 40) C 1 dX11_body_40 rfl ?_
      refine a_iadd (pc := 41) C dX11_body_41 ?_
      refine pf_11_32 (pc := 42) C wd_1109 dX11_body_42 ?_
      exact a_iret (pc := 45) C E rfl (som1 h) (som2 h) dX11_body_45
    · replace h := iteF c3 h
      refine a_bipush (pc := 21) C (-3) dX11_body_21 rfl ?_
      exact a_iret (pc := 23) C E rfl (som1 h) (som2 h) dX11_body_23
  · replace h := iteF c2 h
    refine a_iconst (pc := 10) C (-1) dX11_body_10 rfl ?_
    exact a_iret (pc := 11) C E rfl (som1 h) (som2 h) dX11_body_11
set_option maxHeartbeats 200000 in
set_option maxRecDepth 100000 in
theorem ok_fMd_act (l : Launch) (N : Rig) (M : Mem) (x1 : Int32) (x2 : Int32) (x3 : Int32) {r : Int32} {M0 : Mem} (h : fMd_act M x1 x2 x3 = some (r, M0)) : Ct l N yX11_act cX11_act 5 (some .int) 405 [.ref (N.2.1 66), .int x1, .int x2, .int x3] M (QcI N (some .int) r M0) := by
  refine ct_of (by decide) rfl ?_
  intro X el eN eL C E
  subst el
  subst eN
  unfold fMd_act at h
  show WA X M [(0, .ref (X.N.2.1 66)), (1, .int x1), (2, .int x2), (3, .int x3)] 0 []
  refine a_aload_n (pc := 0) C dX11_act_0 rfl 0 rfl ?_
  refine a_iconst (pc := 1) C 0 dX11_act_1 rfl ?_
  refine pf_11_34 (pc := 2) C wd_1111 dX11_act_2 ?_
  refine a_iload_n (pc := 5) C dX11_act_5 rfl 1 rfl ?_
  refine a_iconst (pc := 6) C 0 dX11_act_6 rfl ?_
  refine a_aload_n (pc := 7) C dX11_act_7 rfl 0 rfl ?_
  refine gf_11_32 (pc := 8) C wd_1109 dX11_act_8 ?_
  refine a_iconst (pc := 11) C 1 dX11_act_11 rfl ?_
  refine a_isub (pc := 12) C dX11_act_12 ?_
  refine a_callSI (pc := 13) C [.int x1, .int 0, .int (((wI M 66 34 0).1 66 32) - 1)] (ok_fMd_within X.l X.N (wI M 66 34 0) x1 0 (((wI M 66 34 0).1 66 32) - 1)) rfl mw_X11_within wd_1220 rfl rfl rfl dX11_act_13 (fun z1 => ?_)
  refine a_if_eq (pc := 16) C 28 dX11_act_16 rfl (fun c2 => ?_) (fun c2 => ?_)
  · replace h := iteT c2 h
    refine a_iconst (pc := 28) C 0 dX11_act_28 rfl ?_
    exact a_iret (pc := 29) C E rfl (som1 h) (som2 h) dX11_act_29
  · replace h := iteF c2 h
    refine a_iload_n (pc := 19) C dX11_act_19 rfl 2 rfl ?_
    refine a_iconst (pc := 20) C 0 dX11_act_20 rfl ?_
    refine a_iconst (pc := 21) C 3 dX11_act_21 rfl ?_
    refine a_callSI (pc := 22) C [.int x2, .int 0, .int 3] (ok_fMd_within X.l X.N (wI M 66 34 0) x2 0 3) rfl mw_X11_within wd_1220 rfl rfl rfl dX11_act_22 (fun z3 => ?_)
    refine a_if_ne (pc := 25) C 30 dX11_act_25 rfl (fun c4 => ?_) (fun c4 => ?_)
    · replace h := iteT c4 h
      refine a_aload_n (pc := 30) C dX11_act_30 rfl 0 rfl ?_
      refine gf_11_33 (pc := 31) C wd_1110 dX11_act_31 ?_
      refine a_iload_n (pc := 34) C dX11_act_34 rfl 1 rfl ?_
      obtain ⟨v5, ev5, h⟩ := bndS h
      refine a_iald (pc := 35) C rfl ev5 dX11_act_35 ?_
      refine a_istore (pc := 36) C [(4, .int v5), (0, .ref (X.N.2.1 66)), (1, .int x1), (2, .int x2), (3, .int x3)] dX11_act_36 (nlt eL rfl) rfl ?_
      refine a_iload_n (pc := 38) C dX11_act_38 rfl 3 rfl ?_
      refine a_if_ne (pc := 39) C 53 dX11_act_39 rfl (fun c6 => ?_) (fun c6 => ?_)
      · replace h := iteT c6 h
        refine a_iload_n (pc := 53) C dX11_act_53 rfl 3 rfl ?_
        refine a_iconst (pc := 54) C 1 dX11_act_54 rfl ?_
        refine a_icmp_ne (pc := 55) C 69 dX11_act_55 rfl (fun c7 => ?_) (fun c7 => ?_)
        · replace h := iteT c7 h
          refine a_iload_n (pc := 69) C dX11_act_69 rfl 3 rfl ?_
          refine a_iconst (pc := 70) C 2 dX11_act_70 rfl ?_
          refine a_icmp_ne (pc := 71) C 85 dX11_act_71 rfl (fun c8 => ?_) (fun c8 => ?_)
          · replace h := iteT c8 h
            refine a_aload_n (pc := 85) C dX11_act_85 rfl 1 rfl ?_
            refine a_iload_n (pc := 86) C dX11_act_86 rfl 2 rfl ?_
            refine a_iload (pc := 87) C dX11_act_87 0 rfl ?_
            refine a_iload_n (pc := 89) C dX11_act_89 rfl 4 rfl ?_
            obtain ⟨q9, eq9, h⟩ := bndS h
            refine a_callVI (pc := 90) C [.int x1, .int v5, .int x3] (ok_fMd_tells X.l X.N (wI M 66 34 0) x1 v5 x3 eq9) rfl mw_X11_tells wd_1578 rfl rfl rfl rfl rfl rfl rfl dX11_act_90 (fun z10 => ?_)
            exact a_iret (pc := 93) C E rfl (som1 h) (som2 h) dX11_act_93
          · replace h := iteF c8 h
            refine a_aload_n (pc := 74) C dX11_act_74 rfl 1 rfl ?_
            refine a_iload_n (pc := 75) C dX11_act_75 rfl 2 rfl ?_
            refine a_iload (pc := 76) C dX11_act_76 0 rfl ?_
            refine a_iload_n (pc := 78) C dX11_act_78 rfl 4 rfl ?_
            obtain ⟨q11, eq11, h⟩ := bndS h
            refine a_callVI (pc := 79) C [.int x1, .int v5, .int x3] (ok_fMd_drinksBy X.l X.N (wI M 66 34 0) x1 v5 x3 eq11) rfl mw_X11_drinksBy wd_1574 rfl rfl rfl rfl rfl rfl rfl dX11_act_79 (fun z12 => ?_)
            refine a_goto (pc := 82) C 93 dX11_act_82 rfl ?_
            exact a_iret (pc := 93) C E rfl (som1 h) (som2 h) dX11_act_93
        · replace h := iteF c7 h
          refine a_aload_n (pc := 58) C dX11_act_58 rfl 1 rfl ?_
          refine a_iload_n (pc := 59) C dX11_act_59 rfl 2 rfl ?_
          refine a_iload (pc := 60) C dX11_act_60 0 rfl ?_
          refine a_iload_n (pc := 62) C dX11_act_62 rfl 4 rfl ?_
          obtain ⟨q13, eq13, h⟩ := bndS h
          refine a_callVI (pc := 63) C [.int x1, .int v5, .int x3] (ok_fMd_holdsBy X.l X.N (wI M 66 34 0) x1 v5 x3 eq13) rfl mw_X11_holdsBy wd_1570 rfl rfl rfl rfl rfl rfl rfl dX11_act_63 (fun z14 => ?_)
          refine a_goto (pc := 66) C 93 dX11_act_66 rfl ?_
          exact a_iret (pc := 93) C E rfl (som1 h) (som2 h) dX11_act_93
      · replace h := iteF c6 h
        refine a_aload_n (pc := 42) C dX11_act_42 rfl 1 rfl ?_
        refine a_iload_n (pc := 43) C dX11_act_43 rfl 2 rfl ?_
        refine a_iload (pc := 44) C dX11_act_44 0 rfl ?_
        refine a_iload_n (pc := 46) C dX11_act_46 rfl 4 rfl ?_
        obtain ⟨q15, eq15, h⟩ := bndS h
        refine a_callVI (pc := 47) C [.int x1, .int v5, .int x3] (ok_fMd_runsBy X.l X.N (wI M 66 34 0) x1 v5 x3 eq15) rfl mw_X11_runsBy wd_1559 rfl rfl rfl rfl rfl rfl rfl dX11_act_47 (fun z16 => ?_)
        refine a_goto (pc := 50) C 93 dX11_act_50 rfl ?_
        exact a_iret (pc := 93) C E rfl (som1 h) (som2 h) dX11_act_93
    · replace h := iteF c4 h
      refine a_iconst (pc := 28) C 0 dX11_act_28 rfl ?_
      exact a_iret (pc := 29) C E rfl (som1 h) (som2 h) dX11_act_29
set_option maxHeartbeats 200000 in
set_option maxRecDepth 100000 in
theorem ok_fMd_trace (l : Launch) (N : Rig) (M : Mem) (x1 : Int32) {r : Int32} (h : fMd_trace M x1 = some r) : Ct l N yX11_trace cX11_trace 2 (some .int) 1 [.ref (N.2.1 66), .int x1] M (QcI N (some .int) r M) := by
  refine ct_of (by decide) rfl ?_
  intro X el eN eL C E
  subst el
  subst eN
  unfold fMd_trace at h
  show WA X M [(0, .ref (X.N.2.1 66)), (1, .int x1)] 0 []
  refine a_iload_n (pc := 0) C dX11_trace_0 rfl 1 rfl ?_
  refine a_iconst (pc := 1) C 0 dX11_trace_1 rfl ?_
  refine a_bipush (pc := 2) C 24 dX11_trace_2 rfl ?_
  refine a_aload_n (pc := 4) C dX11_trace_4 rfl 0 rfl ?_
  refine gf_11_34 (pc := 5) C wd_1111 dX11_trace_5 ?_
  refine a_mmin (pc := 8) C rfl wd_1359 wd_652 wd_94 wd_653 rfl dX11_trace_8 ?_
  refine a_iconst (pc := 11) C 1 dX11_trace_11 rfl ?_
  refine a_isub (pc := 12) C dX11_trace_12 ?_
  refine a_callSI (pc := 13) C [.int x1, .int 0, .int ((mnI 24 (M.1 66 34)) - 1)] (ok_fMd_within X.l X.N M x1 0 ((mnI 24 (M.1 66 34)) - 1)) rfl mw_X11_within wd_1220 rfl rfl rfl dX11_trace_13 (fun z1 => ?_)
  refine a_if_eq (pc := 16) C 28 dX11_trace_16 rfl (fun c2 => ?_) (fun c2 => ?_)
  · replace h := iteT c2 h
    refine a_iconst (pc := 28) C (-1) dX11_trace_28 rfl ?_
    exact a_iret (pc := 29) C E rfl (somI h) rfl dX11_trace_29
  · replace h := iteF c2 h
    refine a_aload_n (pc := 19) C dX11_trace_19 rfl 0 rfl ?_
    refine gf_11_35 (pc := 20) C wd_1112 dX11_trace_20 ?_
    refine a_iload_n (pc := 23) C dX11_trace_23 rfl 1 rfl ?_
    obtain ⟨v3, ev3, h⟩ := bndS h
    refine a_iald (pc := 24) C rfl ev3 dX11_trace_24 ?_
    refine a_goto (pc := 25) C 29 dX11_trace_25 rfl ?_
    exact a_iret (pc := 29) C E rfl (somI h) rfl dX11_trace_29
set_option maxHeartbeats 200000 in
set_option maxRecDepth 100000 in
theorem ok_fMd_keep_J40 {X : Amb} (eL : X.nL = 3) (C : Cx X RX11 cX11_keep 2) (r : Int32) (M0 : Mem) (E : En X (some .int) (QcI X.N (some .int) r M0)) (M : Mem) (x1 : Int32) (s1 : Int32) (s2 : Int32) (h : fMd_keep_J40 M x1 s1 s2 = some (r, M0)) : WA X M [(0, .ref (X.N.2.1 66)), (1, .int x1)] 40 [.int s2, .int s1, .ref (X.N.2.1 88)] := by
  unfold fMd_keep_J40 at h
  obtain ⟨M6, eM6, h⟩ := bndS h
  refine a_iast (pc := 40) C rfl eM6 dX11_keep_40 ?_
  refine a_aload_n (pc := 41) C dX11_keep_41 rfl 0 rfl ?_
  refine gf_11_37 (pc := 42) C wd_1114 dX11_keep_42 ?_
  refine a_iload_n (pc := 45) C dX11_keep_45 rfl 1 rfl ?_
  refine a_iconst (pc := 46) C 0 dX11_keep_46 rfl ?_
  obtain ⟨M7, eM7, h⟩ := bndS h
  refine a_iast (pc := 47) C rfl eM7 dX11_keep_47 ?_
  refine a_iconst (pc := 48) C 1 dX11_keep_48 rfl ?_
  exact a_iret (pc := 49) C E rfl (som1 h) (som2 h) dX11_keep_49
set_option maxHeartbeats 200000 in
set_option maxRecDepth 100000 in
theorem ok_fMd_keep (l : Launch) (N : Rig) (M : Mem) (x1 : Int32) (x2 : Int32) {r : Int32} {M0 : Mem} (h : fMd_keep M x1 x2 = some (r, M0)) : Ct l N yX11_keep cX11_keep 3 (some .int) 2 [.ref (N.2.1 66), .int x1, .int x2] M (QcI N (some .int) r M0) := by
  refine ct_of (by decide) rfl ?_
  intro X el eN eL C E
  subst el
  subst eN
  unfold fMd_keep at h
  show WA X M [(0, .ref (X.N.2.1 66)), (1, .int x1), (2, .int x2)] 0 []
  refine a_iload_n (pc := 0) C dX11_keep_0 rfl 1 rfl ?_
  refine a_callSI (pc := 1) C [.int x1] (ok_fMd_isShelf X.l X.N M x1) rfl mw_X11_isShelf wd_1231 rfl rfl rfl dX11_keep_1 (fun z1 => ?_)
  refine a_if_eq (pc := 4) C 21 dX11_keep_4 rfl (fun c2 => ?_) (fun c2 => ?_)
  · replace h := iteT c2 h
    refine a_iconst (pc := 21) C (-1) dX11_keep_21 rfl ?_
    exact a_iret (pc := 22) C E rfl (som1 h) (som2 h) dX11_keep_22
  · replace h := iteF c2 h
    refine a_iload_n (pc := 7) C dX11_keep_7 rfl 2 rfl ?_
    refine a_iconst (pc := 8) C (-1) dX11_keep_8 rfl ?_
    refine a_aload_n (pc := 9) C dX11_keep_9 rfl 0 rfl ?_
    refine gf_11_32 (pc := 10) C wd_1109 dX11_keep_10 ?_
    refine a_iconst (pc := 13) C 1 dX11_keep_13 rfl ?_
    refine a_isub (pc := 14) C dX11_keep_14 ?_
    refine a_callSI (pc := 15) C [.int x2, .int (-1), .int ((M.1 66 32) - 1)] (ok_fMd_within X.l X.N M x2 (-1) ((M.1 66 32) - 1)) rfl mw_X11_within wd_1220 rfl rfl rfl dX11_keep_15 (fun z3 => ?_)
    refine a_if_ne (pc := 18) C 23 dX11_keep_18 rfl (fun c4 => ?_) (fun c4 => ?_)
    · replace h := iteT c4 h
      refine a_aload_n (pc := 23) C dX11_keep_23 rfl 0 rfl ?_
      refine gf_11_36 (pc := 24) C wd_1113 dX11_keep_24 ?_
      refine a_iload_n (pc := 27) C dX11_keep_27 rfl 1 rfl ?_
      refine a_iload_n (pc := 28) C dX11_keep_28 rfl 2 rfl ?_
      refine a_if_ge (pc := 29) C 36 dX11_keep_29 rfl (fun c5 => ?_) (fun c5 => ?_)
      · replace h := iteT c5 h
        refine a_bipush (pc := 36) C 10 dX11_keep_36 rfl ?_
        refine a_iload_n (pc := 38) C dX11_keep_38 rfl 2 rfl ?_
        refine a_iadd (pc := 39) C dX11_keep_39 ?_
        refine a_sub (lv2 := [(0, .ref (X.N.2.1 66)), (1, .int x1)]) [0, 1] rfl ?_
        exact ok_fMd_keep_J40 eL C r M0 E M x1 x1 (10 + x2) h
      · replace h := iteF c5 h
        refine a_iconst (pc := 32) C (-1) dX11_keep_32 rfl ?_
        refine a_goto (pc := 33) C 40 dX11_keep_33 rfl ?_
        refine a_sub (lv2 := [(0, .ref (X.N.2.1 66)), (1, .int x1)]) [0, 1] rfl ?_
        exact ok_fMd_keep_J40 eL C r M0 E M x1 x1 (-1) h
    · replace h := iteF c4 h
      refine a_iconst (pc := 21) C (-1) dX11_keep_21 rfl ?_
      exact a_iret (pc := 22) C E rfl (som1 h) (som2 h) dX11_keep_22
set_option maxHeartbeats 200000 in
set_option maxRecDepth 100000 in
theorem ok_fMd_row_L48 {X : Amb} (eL : X.nL = 5) (C : Cx X RX11 cX11_row 2) (x1 : Int32) (o : Mem) (K : WA X o [] 74 []) : ∀ (n : Nat) (M : Mem) (x4 : Int32), fMd_row_L48 n M x1 x4 = some o → WA X M [(0, .ref (X.N.2.1 66)), (1, .int x1), (4, .int x4)] 48 [] := by
  intro n
  induction n with
  | zero => intro _ _ h; cases h
  | succ n ih =>
    intro M x4 h
    replace h : fMd_row_L48_F (fMd_row_L48 n) M x1 x4 = some o := h
    unfold fMd_row_L48_F at h
    refine a_iload (pc := 48) C dX11_row_48 2 rfl ?_
    refine a_bipush (pc := 50) C 60 dX11_row_50 rfl ?_
    refine a_icmp_ge (pc := 52) C 74 dX11_row_52 rfl (fun c9 => ?_) (fun c9 => ?_)
    · replace h := iteT c9 h
      refine a_sub (lv2 := []) [] rfl ?_
      cases somI h
      exact K
    · replace h := iteF c9 h
      refine a_aload_n (pc := 55) C dX11_row_55 rfl 0 rfl ?_
      refine gf_11_38 (pc := 56) C wd_1115 dX11_row_56 ?_
      refine a_bipush (pc := 59) C 60 dX11_row_59 rfl ?_
      refine a_iload_n (pc := 61) C dX11_row_61 rfl 1 rfl ?_
      refine a_imul (pc := 62) C dX11_row_62 ?_
      refine a_iload (pc := 63) C dX11_row_63 2 rfl ?_
      refine a_iadd (pc := 65) C dX11_row_65 ?_
      refine a_lconst (pc := 66) C 0 dX11_row_66 rfl ?_
      obtain ⟨M10, eM10, h⟩ := bndS h
      refine a_last (pc := 67) C rfl eM10 dX11_row_67 ?_
      refine a_iinc (pc := 68) C 2 (x4 + 1) [(4, .int (x4 + 1)), (0, .ref (X.N.2.1 66)), (1, .int x1)] dX11_row_68 rfl rfl (nlt eL rfl) rfl ?_
      refine a_goto (pc := 71) C 48 dX11_row_71 rfl ?_
      refine a_sub [1, 2, 0] rfl ?_
      exact ih M10 (x4 + 1) h
set_option maxHeartbeats 200000 in
set_option maxRecDepth 100000 in
theorem ok_fMd_row (l : Launch) (N : Rig) (M : Mem) (x1 : Int32) (x2 : Int32) (x3 : Int32) {r : Int32} {M0 : Mem} (h : fMd_row M x1 x2 x3 = some (r, M0)) : Ct l N yX11_row cX11_row 5 (some .int) 2 [.ref (N.2.1 66), .int x1, .int x2, .int x3] M (QcI N (some .int) r M0) := by
  refine ct_of (by decide) rfl ?_
  intro X el eN eL C E
  subst el
  subst eN
  unfold fMd_row at h
  show WA X M [(0, .ref (X.N.2.1 66)), (1, .int x1), (2, .int x2), (3, .int x3)] 0 []
  refine a_iload_n (pc := 0) C dX11_row_0 rfl 1 rfl ?_
  refine a_callSI (pc := 1) C [.int x1] (ok_fMd_isShelf X.l X.N M x1) rfl mw_X11_isShelf wd_1231 rfl rfl rfl dX11_row_1 (fun z1 => ?_)
  refine a_if_eq (pc := 4) C 22 dX11_row_4 rfl (fun c2 => ?_) (fun c2 => ?_)
  · replace h := iteT c2 h
    refine a_iconst (pc := 22) C (-1) dX11_row_22 rfl ?_
    exact a_iret (pc := 23) C E rfl (som1 h) (som2 h) dX11_row_23
  · replace h := iteF c2 h
    refine a_iload_n (pc := 7) C dX11_row_7 rfl 2 rfl ?_
    refine a_iconst (pc := 8) C 0 dX11_row_8 rfl ?_
    refine a_iconst (pc := 9) C 4 dX11_row_9 rfl ?_
    refine a_callSI (pc := 10) C [.int x2, .int 0, .int 4] (ok_fMd_within X.l X.N M x2 0 4) rfl mw_X11_within wd_1220 rfl rfl rfl dX11_row_10 (fun z3 => ?_)
    refine a_if_eq (pc := 13) C 22 dX11_row_13 rfl (fun c4 => ?_) (fun c4 => ?_)
    · replace h := iteT c4 h
      refine a_iconst (pc := 22) C (-1) dX11_row_22 rfl ?_
      exact a_iret (pc := 23) C E rfl (som1 h) (som2 h) dX11_row_23
    · replace h := iteF c4 h
      refine a_iload_n (pc := 16) C dX11_row_16 rfl 3 rfl ?_
      refine a_bipush (pc := 17) C 60 dX11_row_17 rfl ?_
      refine a_icmp_le (pc := 19) C 24 dX11_row_19 rfl (fun c5 => ?_) (fun c5 => ?_)
      · replace h := iteT c5 h
        refine a_iload_n (pc := 24) C dX11_row_24 rfl 3 rfl ?_
        refine a_if_ge (pc := 25) C 31 dX11_row_25 rfl (fun c6 => ?_) (fun c6 => ?_)
        · replace h := iteT c6 h
          refine a_aload_n (pc := 31) C dX11_row_31 rfl 0 rfl ?_
          refine gf_11_36 (pc := 32) C wd_1113 dX11_row_32 ?_
          refine a_iload_n (pc := 35) C dX11_row_35 rfl 1 rfl ?_
          refine a_iload_n (pc := 36) C dX11_row_36 rfl 2 rfl ?_
          obtain ⟨M7, eM7, h⟩ := bndS h
          refine a_iast (pc := 37) C rfl eM7 dX11_row_37 ?_
          refine a_aload_n (pc := 38) C dX11_row_38 rfl 0 rfl ?_
          refine gf_11_37 (pc := 39) C wd_1114 dX11_row_39 ?_
          refine a_iload_n (pc := 42) C dX11_row_42 rfl 1 rfl ?_
          refine a_iload_n (pc := 43) C dX11_row_43 rfl 3 rfl ?_
          obtain ⟨M8, eM8, h⟩ := bndS h
          refine a_iast (pc := 44) C rfl eM8 dX11_row_44 ?_
          refine a_iconst (pc := 45) C 0 dX11_row_45 rfl ?_
          refine a_istore (pc := 46) C [(4, .int 0), (0, .ref (X.N.2.1 66)), (1, .int x1), (2, .int x2), (3, .int x3)] dX11_row_46 (nlt eL rfl) rfl ?_
          refine a_sub (lv2 := [(0, .ref (X.N.2.1 66)), (1, .int x1), (4, .int 0)]) [1, 2, 0] rfl ?_
          obtain ⟨o11, eo11, h⟩ := bndS h
          refine ok_fMd_row_L48 eL C x1 o11 ?_ FU M8 0 eo11
          refine a_iconst (pc := 74) C 1 dX11_row_74 rfl ?_
          exact a_iret (pc := 75) C E rfl (som1 h) (som2 h) dX11_row_75
        · replace h := iteF c6 h
          refine a_bipush (pc := 28) C (-14) dX11_row_28 rfl ?_
          exact a_iret (pc := 30) C E rfl (som1 h) (som2 h) dX11_row_30
      · replace h := iteF c5 h
        refine a_iconst (pc := 22) C (-1) dX11_row_22 rfl ?_
        exact a_iret (pc := 23) C E rfl (som1 h) (som2 h) dX11_row_23
set_option maxHeartbeats 200000 in
set_option maxRecDepth 100000 in
theorem ok_fMd_isRow (l : Launch) (N : Rig) (M : Mem) (x1 : Int32) {r : Int32} (h : fMd_isRow M x1 = some r) : Ct l N yX11_isRow cX11_isRow 2 (some .boolean) 1 [.ref (N.2.1 66), .int x1] M (QcI N (some .boolean) r M) := by
  refine ct_of (by decide) rfl ?_
  intro X el eN eL C E
  subst el
  subst eN
  unfold fMd_isRow at h
  show WA X M [(0, .ref (X.N.2.1 66)), (1, .int x1)] 0 []
  refine a_aload_n (pc := 0) C dX11_isRow_0 rfl 0 rfl ?_
  refine gf_11_36 (pc := 1) C wd_1113 dX11_isRow_1 ?_
  refine a_iload_n (pc := 4) C dX11_isRow_4 rfl 1 rfl ?_
  obtain ⟨v1, ev1, h⟩ := bndS h
  refine a_iald (pc := 5) C rfl ev1 dX11_isRow_5 ?_
  refine a_iconst (pc := 6) C 0 dX11_isRow_6 rfl ?_
  refine a_iconst (pc := 7) C 4 dX11_isRow_7 rfl ?_
  refine a_callSI (pc := 8) C [.int v1, .int 0, .int 4] (ok_fMd_within X.l X.N M v1 0 4) rfl mw_X11_within wd_1220 rfl rfl rfl dX11_isRow_8 (fun z2 => ?_)
  exact a_iret (pc := 11) C E (z2 _ rfl) (somI h) rfl dX11_isRow_11
set_option maxHeartbeats 200000 in
set_option maxRecDepth 100000 in
theorem ok_fMd_kept (l : Launch) (N : Rig) (M : Mem) (x0 : Int32) (y1 : Int64) : Ct l N yX11_kept cX11_kept 3 (some .long) 0 [.int x0, .long y1] M (QcL N (fMd_kept x0 y1) M) := by
  obtain ⟨r, h⟩ : ∃ r, fMd_kept x0 y1 = r := ⟨_, rfl⟩
  rw [h]
  refine ct_of (by decide) rfl ?_
  intro X el eN eL C E
  subst el
  subst eN
  unfold fMd_kept at h
  show WA X M [(0, .int x0), (1, .long y1)] 0 []
  refine a_iload_n (pc := 0) C dX11_kept_0 rfl 0 rfl ?_
  by_cases c1 : x0 = 0
  · replace h := iteT c1 h
    refine a_tsw_in (pc := 1) C 0 32 dX11_kept_1 c1 (by decide) (by decide) rfl rfl ?_
    refine a_lload_n (pc := 32) C dX11_kept_32 rfl 1 rfl ?_
    refine a_l2i (pc := 33) C dX11_kept_33 ?_
    refine a_i2b (pc := 34) C dX11_kept_34 ?_
    refine a_i2l (pc := 35) C dX11_kept_35 ?_
    exact a_lret (pc := 36) C E h rfl dX11_kept_36
  replace h := iteF c1 h
  by_cases c2 : x0 = 1
  · replace h := iteT c2 h
    refine a_tsw_in (pc := 1) C 1 37 dX11_kept_1 c2 (by decide) (by decide) rfl rfl ?_
    refine a_lload_n (pc := 37) C dX11_kept_37 rfl 1 rfl ?_
    refine a_l2i (pc := 38) C dX11_kept_38 ?_
    refine a_i2s (pc := 39) C dX11_kept_39 ?_
    refine a_i2l (pc := 40) C dX11_kept_40 ?_
    exact a_lret (pc := 41) C E h rfl dX11_kept_41
  replace h := iteF c2 h
  by_cases c3 : x0 = 2
  · replace h := iteT c3 h
    refine a_tsw_in (pc := 1) C 2 42 dX11_kept_1 c3 (by decide) (by decide) rfl rfl ?_
    refine a_lload_n (pc := 42) C dX11_kept_42 rfl 1 rfl ?_
    refine a_l2i (pc := 43) C dX11_kept_43 ?_
    refine a_i2l (pc := 44) C dX11_kept_44 ?_
    exact a_lret (pc := 45) C E h rfl dX11_kept_45
  replace h := iteF c3 h
  by_cases c4 : x0 = 3
  · replace h := iteT c4 h
    refine a_tsw_in (pc := 1) C 3 46 dX11_kept_1 c4 (by decide) (by decide) rfl rfl ?_
    refine a_lload_n (pc := 46) C dX11_kept_46 rfl 1 rfl ?_
    exact a_lret (pc := 47) C E h rfl dX11_kept_47
  replace h := iteF c4 h
  refine a_tsw_out (pc := 1) C 48 dX11_kept_1 (by have := neI 0 rfl c1; have := neI 1 rfl c2; have := neI 2 rfl c3; have := neI 3 rfl c4; omega) rfl ?_
  refine a_lload_n (pc := 48) C dX11_kept_48 rfl 1 rfl ?_
  refine a_lconst (pc := 49) C 0 dX11_kept_49 rfl ?_
  refine a_lcmp (pc := 50) C dX11_kept_50 ?_
  refine a_if_eq (pc := 51) C 58 dX11_kept_51 rfl (fun c5 => ?_) (fun c5 => ?_)
  · replace h := iteT c5 h
    refine a_lconst (pc := 58) C 0 dX11_kept_58 rfl ?_
    exact a_lret (pc := 59) C E h rfl dX11_kept_59
  · replace h := iteF c5 h
    refine a_lconst (pc := 54) C 1 dX11_kept_54 rfl ?_
    refine a_goto (pc := 55) C 59 dX11_kept_55 rfl ?_
    exact a_lret (pc := 59) C E h rfl dX11_kept_59
set_option maxHeartbeats 200000 in
set_option maxRecDepth 100000 in
theorem ok_fMd_put (l : Launch) (N : Rig) (M : Mem) (x1 : Int32) (x2 : Int32) (y3 : Int64) {r : Int32} {M0 : Mem} (h : fMd_put M x1 x2 y3 = some (r, M0)) : Ct l N yX11_put cX11_put 5 (some .int) 2 [.ref (N.2.1 66), .int x1, .int x2, .long y3] M (QcI N (some .int) r M0) := by
  refine ct_of (by decide) rfl ?_
  intro X el eN eL C E
  subst el
  subst eN
  unfold fMd_put at h
  show WA X M [(0, .ref (X.N.2.1 66)), (1, .int x1), (2, .int x2), (3, .long y3)] 0 []
  refine a_iload_n (pc := 0) C dX11_put_0 rfl 1 rfl ?_
  refine a_callSI (pc := 1) C [.int x1] (ok_fMd_isShelf X.l X.N M x1) rfl mw_X11_isShelf wd_1231 rfl rfl rfl dX11_put_1 (fun z1 => ?_)
  refine a_if_ne (pc := 4) C 9 dX11_put_4 rfl (fun c2 => ?_) (fun c2 => ?_)
  · replace h := iteT c2 h
    refine a_aload_n (pc := 9) C dX11_put_9 rfl 0 rfl ?_
    refine gf_11_36 (pc := 10) C wd_1113 dX11_put_10 ?_
    refine a_iload_n (pc := 13) C dX11_put_13 rfl 1 rfl ?_
    obtain ⟨v3, ev3, h⟩ := bndS h
    refine a_iald (pc := 14) C rfl ev3 dX11_put_14 ?_
    refine a_iconst (pc := 15) C (-1) dX11_put_15 rfl ?_
    refine a_icmp_ne (pc := 16) C 22 dX11_put_16 rfl (fun c4 => ?_) (fun c4 => ?_)
    · replace h := iteT c4 h
      refine a_aload_n (pc := 22) C dX11_put_22 rfl 0 rfl ?_
      refine a_iload_n (pc := 23) C dX11_put_23 rfl 1 rfl ?_
      obtain ⟨v5, ev5, h⟩ := bndS h
      refine a_callVI (pc := 24) C [.int x1] (ok_fMd_isRow X.l X.N M x1 ev5) rfl mw_X11_isRow wd_1598 rfl rfl rfl rfl rfl rfl rfl dX11_put_24 (fun z6 => ?_)
      refine a_if_ne (pc := 27) C 33 dX11_put_27 rfl (fun c7 => ?_) (fun c7 => ?_)
      · replace h := iteT c7 h
        refine a_iload_n (pc := 33) C dX11_put_33 rfl 2 rfl ?_
        refine a_iconst (pc := 34) C 0 dX11_put_34 rfl ?_
        refine a_aload_n (pc := 35) C dX11_put_35 rfl 0 rfl ?_
        refine gf_11_37 (pc := 36) C wd_1114 dX11_put_36 ?_
        refine a_iload_n (pc := 39) C dX11_put_39 rfl 1 rfl ?_
        obtain ⟨v8, ev8, h⟩ := bndS h
        refine a_iald (pc := 40) C rfl ev8 dX11_put_40 ?_
        refine a_iconst (pc := 41) C 1 dX11_put_41 rfl ?_
        refine a_isub (pc := 42) C dX11_put_42 ?_
        refine a_callSI (pc := 43) C [.int x2, .int 0, .int (v8 - 1)] (ok_fMd_within X.l X.N M x2 0 (v8 - 1)) rfl mw_X11_within wd_1220 rfl rfl rfl dX11_put_43 (fun z9 => ?_)
        refine a_if_ne (pc := 46) C 52 dX11_put_46 rfl (fun c10 => ?_) (fun c10 => ?_)
        · replace h := iteT c10 h
          refine a_aload_n (pc := 52) C dX11_put_52 rfl 0 rfl ?_
          refine gf_11_38 (pc := 53) C wd_1115 dX11_put_53 ?_
          refine a_bipush (pc := 56) C 60 dX11_put_56 rfl ?_
          refine a_iload_n (pc := 58) C dX11_put_58 rfl 1 rfl ?_
          refine a_imul (pc := 59) C dX11_put_59 ?_
          refine a_iload_n (pc := 60) C dX11_put_60 rfl 2 rfl ?_
          refine a_iadd (pc := 61) C dX11_put_61 ?_
          refine a_aload_n (pc := 62) C dX11_put_62 rfl 0 rfl ?_
          refine gf_11_36 (pc := 63) C wd_1113 dX11_put_63 ?_
          refine a_iload_n (pc := 66) C dX11_put_66 rfl 1 rfl ?_
          obtain ⟨v11, ev11, h⟩ := bndS h
          refine a_iald (pc := 67) C rfl ev11 dX11_put_67 ?_
          refine a_lload_n (pc := 68) C dX11_put_68 rfl 3 rfl ?_
          refine a_callSL (pc := 69) C [.int v11, .long y3] (ok_fMd_kept X.l X.N M v11 y3) rfl mw_X11_kept wd_1602 rfl rfl rfl dX11_put_69 ?_
          obtain ⟨M12, eM12, h⟩ := bndS h
          refine a_last (pc := 72) C rfl eM12 dX11_put_72 ?_
          refine a_iconst (pc := 73) C 1 dX11_put_73 rfl ?_
          exact a_iret (pc := 74) C E rfl (som1 h) (som2 h) dX11_put_74
        · replace h := iteF c10 h
          refine a_bipush (pc := 49) C (-13) dX11_put_49 rfl ?_
          exact a_iret (pc := 51) C E rfl (som1 h) (som2 h) dX11_put_51
      · replace h := iteF c7 h
        refine a_bipush (pc := 30) C (-12) dX11_put_30 rfl ?_
        exact a_iret (pc := 32) C E rfl (som1 h) (som2 h) dX11_put_32
    · replace h := iteF c4 h
      refine a_bipush (pc := 19) C (-11) dX11_put_19 rfl ?_
      exact a_iret (pc := 21) C E rfl (som1 h) (som2 h) dX11_put_21
  · replace h := iteF c2 h
    refine a_iconst (pc := 7) C (-1) dX11_put_7 rfl ?_
    exact a_iret (pc := 8) C E rfl (som1 h) (som2 h) dX11_put_8
set_option maxHeartbeats 200000 in
set_option maxRecDepth 100000 in
theorem ok_fMd_element (l : Launch) (N : Rig) (M : Mem) (x1 : Int32) (x2 : Int32) {r : Int64} (h : fMd_element M x1 x2 = some r) : Ct l N yX11_element cX11_element 3 (some .long) 2 [.ref (N.2.1 66), .int x1, .int x2] M (QcL N r M) := by
  refine ct_of (by decide) rfl ?_
  intro X el eN eL C E
  subst el
  subst eN
  unfold fMd_element at h
  show WA X M [(0, .ref (X.N.2.1 66)), (1, .int x1), (2, .int x2)] 0 []
  refine a_iload_n (pc := 0) C dX11_element_0 rfl 1 rfl ?_
  refine a_callSI (pc := 1) C [.int x1] (ok_fMd_isShelf X.l X.N M x1) rfl mw_X11_isShelf wd_1231 rfl rfl rfl dX11_element_1 (fun z1 => ?_)
  refine a_if_eq (pc := 4) C 45 dX11_element_4 rfl (fun c2 => ?_) (fun c2 => ?_)
  · replace h := iteT c2 h
    refine a_ldc2_w (pc := 45) C (v := (-9223372036854775808)) dX11_element_45 wd_1420 ?_
    exact a_lret (pc := 48) C E (somI h) rfl dX11_element_48
  · replace h := iteF c2 h
    refine a_aload_n (pc := 7) C dX11_element_7 rfl 0 rfl ?_
    refine a_iload_n (pc := 8) C dX11_element_8 rfl 1 rfl ?_
    obtain ⟨v3, ev3, h⟩ := bndS h
    refine a_callVI (pc := 9) C [.int x1] (ok_fMd_isRow X.l X.N M x1 ev3) rfl mw_X11_isRow wd_1598 rfl rfl rfl rfl rfl rfl rfl dX11_element_9 (fun z4 => ?_)
    refine a_if_eq (pc := 12) C 45 dX11_element_12 rfl (fun c5 => ?_) (fun c5 => ?_)
    · replace h := iteT c5 h
      refine a_ldc2_w (pc := 45) C (v := (-9223372036854775808)) dX11_element_45 wd_1420 ?_
      exact a_lret (pc := 48) C E (somI h) rfl dX11_element_48
    · replace h := iteF c5 h
      refine a_iload_n (pc := 15) C dX11_element_15 rfl 2 rfl ?_
      refine a_iconst (pc := 16) C 0 dX11_element_16 rfl ?_
      refine a_aload_n (pc := 17) C dX11_element_17 rfl 0 rfl ?_
      refine gf_11_37 (pc := 18) C wd_1114 dX11_element_18 ?_
      refine a_iload_n (pc := 21) C dX11_element_21 rfl 1 rfl ?_
      obtain ⟨v6, ev6, h⟩ := bndS h
      refine a_iald (pc := 22) C rfl ev6 dX11_element_22 ?_
      refine a_iconst (pc := 23) C 1 dX11_element_23 rfl ?_
      refine a_isub (pc := 24) C dX11_element_24 ?_
      refine a_callSI (pc := 25) C [.int x2, .int 0, .int (v6 - 1)] (ok_fMd_within X.l X.N M x2 0 (v6 - 1)) rfl mw_X11_within wd_1220 rfl rfl rfl dX11_element_25 (fun z7 => ?_)
      refine a_if_eq (pc := 28) C 45 dX11_element_28 rfl (fun c8 => ?_) (fun c8 => ?_)
      · replace h := iteT c8 h
        refine a_ldc2_w (pc := 45) C (v := (-9223372036854775808)) dX11_element_45 wd_1420 ?_
        exact a_lret (pc := 48) C E (somI h) rfl dX11_element_48
      · replace h := iteF c8 h
        refine a_aload_n (pc := 31) C dX11_element_31 rfl 0 rfl ?_
        refine gf_11_38 (pc := 32) C wd_1115 dX11_element_32 ?_
        refine a_bipush (pc := 35) C 60 dX11_element_35 rfl ?_
        refine a_iload_n (pc := 37) C dX11_element_37 rfl 1 rfl ?_
        refine a_imul (pc := 38) C dX11_element_38 ?_
        refine a_iload_n (pc := 39) C dX11_element_39 rfl 2 rfl ?_
        refine a_iadd (pc := 40) C dX11_element_40 ?_
        obtain ⟨v9, ev9, h⟩ := bndS h
        refine a_lald (pc := 41) C rfl ev9 dX11_element_41 ?_
        refine a_goto (pc := 42) C 48 dX11_element_42 rfl ?_
        exact a_lret (pc := 48) C E (somI h) rfl dX11_element_48
set_option maxHeartbeats 200000 in
set_option maxRecDepth 100000 in
theorem ok_fMd_shift_L188 {X : Amb} (eL : X.nL = 7) (C : Cx X RX11 cX11_shift 2) (x1 : Int32) (x2 : Int32) (x3 : Int32) (x4 : Int32) (x5 : Int32) (o : Mem) (K : WA X o [(5, .int x5)] 230 []) : ∀ (n : Nat) (M : Mem) (x6 : Int32), fMd_shift_L188 n M x1 x2 x3 x4 x5 x6 = some o → WA X M [(0, .ref (X.N.2.1 66)), (1, .int x1), (2, .int x2), (3, .int x3), (4, .int x4), (5, .int x5), (6, .int x6)] 188 [] := by
  intro n
  induction n with
  | zero => intro _ _ h; cases h
  | succ n ih =>
    intro M x6 h
    replace h : fMd_shift_L188_F (fMd_shift_L188 n) M x1 x2 x3 x4 x5 x6 = some o := h
    unfold fMd_shift_L188_F at h
    refine a_iload (pc := 188) C dX11_shift_188 6 rfl ?_
    refine a_iload (pc := 190) C dX11_shift_190 5 rfl ?_
    refine a_icmp_ge (pc := 192) C 230 dX11_shift_192 rfl (fun c26 => ?_) (fun c26 => ?_)
    · replace h := iteT c26 h
      refine a_sub (lv2 := [(5, .int x5)]) [5] rfl ?_
      cases somI h
      exact K
    · replace h := iteF c26 h
      refine a_aload_n (pc := 195) C dX11_shift_195 rfl 0 rfl ?_
      refine gf_11_38 (pc := 196) C wd_1115 dX11_shift_196 ?_
      refine a_bipush (pc := 199) C 60 dX11_shift_199 rfl ?_
      refine a_iload_n (pc := 201) C dX11_shift_201 rfl 3 rfl ?_
      refine a_imul (pc := 202) C dX11_shift_202 ?_
      refine a_iload (pc := 203) C dX11_shift_203 4 rfl ?_
      refine a_iadd (pc := 205) C dX11_shift_205 ?_
      refine a_iload (pc := 206) C dX11_shift_206 6 rfl ?_
      refine a_iadd (pc := 208) C dX11_shift_208 ?_
      refine a_aload_n (pc := 209) C dX11_shift_209 rfl 0 rfl ?_
      refine gf_11_38 (pc := 210) C wd_1115 dX11_shift_210 ?_
      refine a_bipush (pc := 213) C 60 dX11_shift_213 rfl ?_
      refine a_iload_n (pc := 215) C dX11_shift_215 rfl 1 rfl ?_
      refine a_imul (pc := 216) C dX11_shift_216 ?_
      refine a_iload_n (pc := 217) C dX11_shift_217 rfl 2 rfl ?_
      refine a_iadd (pc := 218) C dX11_shift_218 ?_
      refine a_iload (pc := 219) C dX11_shift_219 6 rfl ?_
      refine a_iadd (pc := 221) C dX11_shift_221 ?_
      obtain ⟨v27, ev27, h⟩ := bndS h
      refine a_lald (pc := 222) C rfl ev27 dX11_shift_222 ?_
      obtain ⟨M28, eM28, h⟩ := bndS h
      refine a_last (pc := 223) C rfl eM28 dX11_shift_223 ?_
      refine a_iinc (pc := 224) C 6 (x6 + 1) [(6, .int (x6 + 1)), (0, .ref (X.N.2.1 66)), (1, .int x1), (2, .int x2), (3, .int x3), (4, .int x4), (5, .int x5)] dX11_shift_224 rfl rfl (nlt eL rfl) rfl ?_
      refine a_goto (pc := 227) C 188 dX11_shift_227 rfl ?_
      refine a_sub [1, 2, 3, 4, 5, 6, 0] rfl ?_
      exact ih M28 (x6 + 1) h
set_option maxHeartbeats 200000 in
set_option maxRecDepth 100000 in
theorem ok_fMd_shift_J185 {X : Amb} (eL : X.nL = 7) (C : Cx X RX11 cX11_shift 2) (r : Int32) (M0 : Mem) (E : En X (some .int) (QcI X.N (some .int) r M0)) (M : Mem) (x1 : Int32) (x2 : Int32) (x3 : Int32) (x4 : Int32) (x5 : Int32) (h : fMd_shift_J185 M x1 x2 x3 x4 x5 = some (r, M0)) : WA X M [(0, .ref (X.N.2.1 66)), (1, .int x1), (2, .int x2), (3, .int x3), (4, .int x4), (5, .int x5)] 185 [] := by
  unfold fMd_shift_J185 at h
  refine a_iconst (pc := 185) C 0 dX11_shift_185 rfl ?_
  refine a_istore (pc := 186) C [(6, .int 0), (0, .ref (X.N.2.1 66)), (1, .int x1), (2, .int x2), (3, .int x3), (4, .int x4), (5, .int x5)] dX11_shift_186 (nlt eL rfl) rfl ?_
  refine a_sub (lv2 := [(0, .ref (X.N.2.1 66)), (1, .int x1), (2, .int x2), (3, .int x3), (4, .int x4), (5, .int x5), (6, .int 0)]) [1, 2, 3, 4, 5, 6, 0] rfl ?_
  obtain ⟨o29, eo29, h⟩ := bndS h
  refine ok_fMd_shift_L188 eL C x1 x2 x3 x4 x5 o29 ?_ FU M 0 eo29
  refine a_iload (pc := 230) C dX11_shift_230 0 rfl ?_
  exact a_iret (pc := 232) C E rfl (som1 h) (som2 h) dX11_shift_232
set_option maxHeartbeats 200000 in
set_option maxRecDepth 100000 in
theorem ok_fMd_shift_L142 {X : Amb} (eL : X.nL = 7) (C : Cx X RX11 cX11_shift 2) (x5 : Int32) (x1 : Int32) (x2 : Int32) (x3 : Int32) (x4 : Int32) (o : Mem) (K : WA X o [(5, .int x5)] 182 []) : ∀ (n : Nat) (M : Mem) (x6 : Int32), fMd_shift_L142 n M x1 x2 x3 x4 x6 = some o → WA X M [(0, .ref (X.N.2.1 66)), (1, .int x1), (2, .int x2), (3, .int x3), (4, .int x4), (5, .int x5), (6, .int x6)] 142 [] := by
  intro n
  induction n with
  | zero => intro _ _ h; cases h
  | succ n ih =>
    intro M x6 h
    replace h : fMd_shift_L142_F (fMd_shift_L142 n) M x1 x2 x3 x4 x6 = some o := h
    unfold fMd_shift_L142_F at h
    refine a_iload (pc := 142) C dX11_shift_142 6 rfl ?_
    refine a_if_lt (pc := 144) C 182 dX11_shift_144 rfl (fun c31 => ?_) (fun c31 => ?_)
    · replace h := iteT c31 h
      refine a_sub (lv2 := [(5, .int x5)]) [5] rfl ?_
      cases somI h
      exact K
    · replace h := iteF c31 h
      refine a_aload_n (pc := 147) C dX11_shift_147 rfl 0 rfl ?_
      refine gf_11_38 (pc := 148) C wd_1115 dX11_shift_148 ?_
      refine a_bipush (pc := 151) C 60 dX11_shift_151 rfl ?_
      refine a_iload_n (pc := 153) C dX11_shift_153 rfl 3 rfl ?_
      refine a_imul (pc := 154) C dX11_shift_154 ?_
      refine a_iload (pc := 155) C dX11_shift_155 4 rfl ?_
      refine a_iadd (pc := 157) C dX11_shift_157 ?_
      refine a_iload (pc := 158) C dX11_shift_158 6 rfl ?_
      refine a_iadd (pc := 160) C dX11_shift_160 ?_
      refine a_aload_n (pc := 161) C dX11_shift_161 rfl 0 rfl ?_
      refine gf_11_38 (pc := 162) C wd_1115 dX11_shift_162 ?_
      refine a_bipush (pc := 165) C 60 dX11_shift_165 rfl ?_
      refine a_iload_n (pc := 167) C dX11_shift_167 rfl 1 rfl ?_
      refine a_imul (pc := 168) C dX11_shift_168 ?_
      refine a_iload_n (pc := 169) C dX11_shift_169 rfl 2 rfl ?_
      refine a_iadd (pc := 170) C dX11_shift_170 ?_
      refine a_iload (pc := 171) C dX11_shift_171 6 rfl ?_
      refine a_iadd (pc := 173) C dX11_shift_173 ?_
      obtain ⟨v32, ev32, h⟩ := bndS h
      refine a_lald (pc := 174) C rfl ev32 dX11_shift_174 ?_
      obtain ⟨M33, eM33, h⟩ := bndS h
      refine a_last (pc := 175) C rfl eM33 dX11_shift_175 ?_
      refine a_iinc (pc := 176) C 6 (x6 + (-1)) [(6, .int (x6 + (-1))), (0, .ref (X.N.2.1 66)), (1, .int x1), (2, .int x2), (3, .int x3), (4, .int x4), (5, .int x5)] dX11_shift_176 rfl rfl (nlt eL rfl) rfl ?_
      refine a_goto (pc := 179) C 142 dX11_shift_179 rfl ?_
      refine a_sub [1, 2, 3, 4, 5, 6, 0] rfl ?_
      exact ih M33 (x6 + (-1)) h
set_option maxHeartbeats 200000 in
set_option maxRecDepth 100000 in
theorem ok_fMd_shift (l : Launch) (N : Rig) (M : Mem) (x1 : Int32) (x2 : Int32) (x3 : Int32) (x4 : Int32) (x5 : Int32) {r : Int32} {M0 : Mem} (h : fMd_shift M x1 x2 x3 x4 x5 = some (r, M0)) : Ct l N yX11_shift cX11_shift 7 (some .int) 2 [.ref (N.2.1 66), .int x1, .int x2, .int x3, .int x4, .int x5] M (QcI N (some .int) r M0) := by
  refine ct_of (by decide) rfl ?_
  intro X el eN eL C E
  subst el
  subst eN
  unfold fMd_shift at h
  show WA X M [(0, .ref (X.N.2.1 66)), (1, .int x1), (2, .int x2), (3, .int x3), (4, .int x4), (5, .int x5)] 0 []
  refine a_iload_n (pc := 0) C dX11_shift_0 rfl 1 rfl ?_
  refine a_callSI (pc := 1) C [.int x1] (ok_fMd_isShelf X.l X.N M x1) rfl mw_X11_isShelf wd_1231 rfl rfl rfl dX11_shift_1 (fun z1 => ?_)
  refine a_if_eq (pc := 4) C 14 dX11_shift_4 rfl (fun c2 => ?_) (fun c2 => ?_)
  · replace h := iteT c2 h
    refine a_iconst (pc := 14) C (-1) dX11_shift_14 rfl ?_
    exact a_iret (pc := 15) C E rfl (som1 h) (som2 h) dX11_shift_15
  · replace h := iteF c2 h
    refine a_iload_n (pc := 7) C dX11_shift_7 rfl 3 rfl ?_
    refine a_callSI (pc := 8) C [.int x3] (ok_fMd_isShelf X.l X.N M x3) rfl mw_X11_isShelf wd_1231 rfl rfl rfl dX11_shift_8 (fun z3 => ?_)
    refine a_if_ne (pc := 11) C 16 dX11_shift_11 rfl (fun c4 => ?_) (fun c4 => ?_)
    · replace h := iteT c4 h
      refine a_aload_n (pc := 16) C dX11_shift_16 rfl 0 rfl ?_
      refine gf_11_36 (pc := 17) C wd_1113 dX11_shift_17 ?_
      refine a_iload_n (pc := 20) C dX11_shift_20 rfl 1 rfl ?_
      obtain ⟨v5, ev5, h⟩ := bndS h
      refine a_iald (pc := 21) C rfl ev5 dX11_shift_21 ?_
      refine a_iconst (pc := 22) C (-1) dX11_shift_22 rfl ?_
      refine a_icmp_eq (pc := 23) C 36 dX11_shift_23 rfl (fun c6 => ?_) (fun c6 => ?_)
      · replace h := iteT c6 h
        refine a_bipush (pc := 36) C (-11) dX11_shift_36 rfl ?_
        exact a_iret (pc := 38) C E rfl (som1 h) (som2 h) dX11_shift_38
      · replace h := iteF c6 h
        refine a_aload_n (pc := 26) C dX11_shift_26 rfl 0 rfl ?_
        refine gf_11_36 (pc := 27) C wd_1113 dX11_shift_27 ?_
        refine a_iload_n (pc := 30) C dX11_shift_30 rfl 3 rfl ?_
        obtain ⟨v7, ev7, h⟩ := bndS h
        refine a_iald (pc := 31) C rfl ev7 dX11_shift_31 ?_
        refine a_iconst (pc := 32) C (-1) dX11_shift_32 rfl ?_
        refine a_icmp_ne (pc := 33) C 39 dX11_shift_33 rfl (fun c8 => ?_) (fun c8 => ?_)
        · replace h := iteT c8 h
          refine a_aload_n (pc := 39) C dX11_shift_39 rfl 0 rfl ?_
          refine a_iload_n (pc := 40) C dX11_shift_40 rfl 1 rfl ?_
          obtain ⟨v9, ev9, h⟩ := bndS h
          refine a_callVI (pc := 41) C [.int x1] (ok_fMd_isRow X.l X.N M x1 ev9) rfl mw_X11_isRow wd_1598 rfl rfl rfl rfl rfl rfl rfl dX11_shift_41 (fun z10 => ?_)
          refine a_if_eq (pc := 44) C 70 dX11_shift_44 rfl (fun c11 => ?_) (fun c11 => ?_)
          · replace h := iteT c11 h
            refine a_bipush (pc := 70) C (-12) dX11_shift_70 rfl ?_
            exact a_iret (pc := 72) C E rfl (som1 h) (som2 h) dX11_shift_72
          · replace h := iteF c11 h
            refine a_aload_n (pc := 47) C dX11_shift_47 rfl 0 rfl ?_
            refine a_iload_n (pc := 48) C dX11_shift_48 rfl 3 rfl ?_
            obtain ⟨v12, ev12, h⟩ := bndS h
            refine a_callVI (pc := 49) C [.int x3] (ok_fMd_isRow X.l X.N M x3 ev12) rfl mw_X11_isRow wd_1598 rfl rfl rfl rfl rfl rfl rfl dX11_shift_49 (fun z13 => ?_)
            refine a_if_eq (pc := 52) C 70 dX11_shift_52 rfl (fun c14 => ?_) (fun c14 => ?_)
            · replace h := iteT c14 h
              refine a_bipush (pc := 70) C (-12) dX11_shift_70 rfl ?_
              exact a_iret (pc := 72) C E rfl (som1 h) (som2 h) dX11_shift_72
            · replace h := iteF c14 h
              refine a_aload_n (pc := 55) C dX11_shift_55 rfl 0 rfl ?_
              refine gf_11_36 (pc := 56) C wd_1113 dX11_shift_56 ?_
              refine a_iload_n (pc := 59) C dX11_shift_59 rfl 1 rfl ?_
              obtain ⟨v15, ev15, h⟩ := bndS h
              refine a_iald (pc := 60) C rfl ev15 dX11_shift_60 ?_
              refine a_aload_n (pc := 61) C dX11_shift_61 rfl 0 rfl ?_
              refine gf_11_36 (pc := 62) C wd_1113 dX11_shift_62 ?_
              refine a_iload_n (pc := 65) C dX11_shift_65 rfl 3 rfl ?_
              obtain ⟨v16, ev16, h⟩ := bndS h
              refine a_iald (pc := 66) C rfl ev16 dX11_shift_66 ?_
              refine a_icmp_eq (pc := 67) C 73 dX11_shift_67 rfl (fun c17 => ?_) (fun c17 => ?_)
              · replace h := iteT c17 h
                refine a_iload (pc := 73) C dX11_shift_73 5 rfl ?_
                refine a_if_lt (pc := 75) C 122 dX11_shift_75 rfl (fun c18 => ?_) (fun c18 => ?_)
                · replace h := iteT c18 h
                  refine a_bipush (pc := 122) C (-13) dX11_shift_122 rfl ?_
                  exact a_iret (pc := 124) C E rfl (som1 h) (som2 h) dX11_shift_124
                · replace h := iteF c18 h
                  refine a_iload_n (pc := 78) C dX11_shift_78 rfl 2 rfl ?_
                  refine a_if_lt (pc := 79) C 122 dX11_shift_79 rfl (fun c19 => ?_) (fun c19 => ?_)
                  · replace h := iteT c19 h
                    refine a_bipush (pc := 122) C (-13) dX11_shift_122 rfl ?_
                    exact a_iret (pc := 124) C E rfl (som1 h) (som2 h) dX11_shift_124
                  · replace h := iteF c19 h
                    refine a_iload (pc := 82) C dX11_shift_82 4 rfl ?_
                    refine a_if_lt (pc := 84) C 122 dX11_shift_84 rfl (fun c20 => ?_) (fun c20 => ?_)
                    · replace h := iteT c20 h
                      refine a_bipush (pc := 122) C (-13) dX11_shift_122 rfl ?_
                      exact a_iret (pc := 124) C E rfl (som1 h) (som2 h) dX11_shift_124
                    · replace h := iteF c20 h
                      refine a_iload_n (pc := 87) C dX11_shift_87 rfl 2 rfl ?_
                      refine a_i2l (pc := 88) C dX11_shift_88 ?_
                      refine a_iload (pc := 89) C dX11_shift_89 5 rfl ?_
                      refine a_i2l (pc := 91) C dX11_shift_91 ?_
                      refine a_ladd (pc := 92) C dX11_shift_92 ?_
                      refine a_aload_n (pc := 93) C dX11_shift_93 rfl 0 rfl ?_
                      refine gf_11_37 (pc := 94) C wd_1114 dX11_shift_94 ?_
                      refine a_iload_n (pc := 97) C dX11_shift_97 rfl 1 rfl ?_
                      obtain ⟨v21, ev21, h⟩ := bndS h
                      refine a_iald (pc := 98) C rfl ev21 dX11_shift_98 ?_
                      refine a_i2l (pc := 99) C dX11_shift_99 ?_
                      refine a_lcmp (pc := 100) C dX11_shift_100 ?_
                      refine a_if_gt (pc := 101) C 122 dX11_shift_101 rfl (fun c22 => ?_) (fun c22 => ?_)
                      · replace h := iteT c22 h
                        refine a_bipush (pc := 122) C (-13) dX11_shift_122 rfl ?_
                        exact a_iret (pc := 124) C E rfl (som1 h) (som2 h) dX11_shift_124
                      · replace h := iteF c22 h
                        refine a_iload (pc := 104) C dX11_shift_104 4 rfl ?_
                        refine a_i2l (pc := 106) C dX11_shift_106 ?_
                        refine a_iload (pc := 107) C dX11_shift_107 5 rfl ?_
                        refine a_i2l (pc := 109) C dX11_shift_109 ?_
                        refine a_ladd (pc := 110) C dX11_shift_110 ?_
                        refine a_aload_n (pc := 111) C dX11_shift_111 rfl 0 rfl ?_
                        refine gf_11_37 (pc := 112) C wd_1114 dX11_shift_112 ?_
                        refine a_iload_n (pc := 115) C dX11_shift_115 rfl 3 rfl ?_
                        obtain ⟨v23, ev23, h⟩ := bndS h
                        refine a_iald (pc := 116) C rfl ev23 dX11_shift_116 ?_
                        refine a_i2l (pc := 117) C dX11_shift_117 ?_
                        refine a_lcmp (pc := 118) C dX11_shift_118 ?_
                        refine a_if_le (pc := 119) C 125 dX11_shift_119 rfl (fun c24 => ?_) (fun c24 => ?_)
                        · replace h := iteT c24 h
                          refine a_iload_n (pc := 125) C dX11_shift_125 rfl 1 rfl ?_
                          refine a_iload_n (pc := 126) C dX11_shift_126 rfl 3 rfl ?_
                          refine a_icmp_ne (pc := 127) C 185 dX11_shift_127 rfl (fun c25 => ?_) (fun c25 => ?_)
                          · replace h := iteT c25 h
                            refine a_sub (lv2 := [(0, .ref (X.N.2.1 66)), (1, .int x1), (2, .int x2), (3, .int x3), (4, .int x4), (5, .int x5)]) [0, 1, 2, 3, 4, 5] rfl ?_
                            exact ok_fMd_shift_J185 eL C r M0 E M x1 x2 x3 x4 x5 h
                          · replace h := iteF c25 h
                            refine a_iload_n (pc := 130) C dX11_shift_130 rfl 2 rfl ?_
                            refine a_iload (pc := 131) C dX11_shift_131 4 rfl ?_
                            refine a_icmp_ge (pc := 133) C 185 dX11_shift_133 rfl (fun c30 => ?_) (fun c30 => ?_)
                            · replace h := iteT c30 h
                              refine a_sub (lv2 := [(0, .ref (X.N.2.1 66)), (1, .int x1), (2, .int x2), (3, .int x3), (4, .int x4), (5, .int x5)]) [0, 1, 2, 3, 4, 5] rfl ?_
                              exact ok_fMd_shift_J185 eL C r M0 E M x1 x2 x3 x4 x5 h
                            · replace h := iteF c30 h
                              refine a_iload (pc := 136) C dX11_shift_136 5 rfl ?_
                              refine a_iconst (pc := 138) C 1 dX11_shift_138 rfl ?_
                              refine a_isub (pc := 139) C dX11_shift_139 ?_
                              refine a_istore (pc := 140) C [(6, .int (x5 - 1)), (0, .ref (X.N.2.1 66)), (1, .int x1), (2, .int x2), (3, .int x3), (4, .int x4), (5, .int x5)] dX11_shift_140 (nlt eL rfl) rfl ?_
                              refine a_sub (lv2 := [(0, .ref (X.N.2.1 66)), (1, .int x1), (2, .int x2), (3, .int x3), (4, .int x4), (5, .int x5), (6, .int (x5 - 1))]) [1, 2, 3, 4, 5, 6, 0] rfl ?_
                              obtain ⟨o34, eo34, h⟩ := bndS h
                              refine ok_fMd_shift_L142 eL C x5 x1 x2 x3 x4 o34 ?_ FU M (x5 - 1) eo34
                              refine a_goto (pc := 182) C 230 dX11_shift_182 rfl ?_
                              refine a_iload (pc := 230) C dX11_shift_230 0 rfl ?_
                              exact a_iret (pc := 232) C E rfl (som1 h) (som2 h) dX11_shift_232
                        · replace h := iteF c24 h
                          refine a_bipush (pc := 122) C (-13) dX11_shift_122 rfl ?_
                          exact a_iret (pc := 124) C E rfl (som1 h) (som2 h) dX11_shift_124
              · replace h := iteF c17 h
                refine a_bipush (pc := 70) C (-12) dX11_shift_70 rfl ?_
                exact a_iret (pc := 72) C E rfl (som1 h) (som2 h) dX11_shift_72
        · replace h := iteF c8 h
          refine a_bipush (pc := 36) C (-11) dX11_shift_36 rfl ?_
          exact a_iret (pc := 38) C E rfl (som1 h) (som2 h) dX11_shift_38
    · replace h := iteF c4 h
      refine a_iconst (pc := 14) C (-1) dX11_shift_14 rfl ?_
      exact a_iret (pc := 15) C E rfl (som1 h) (som2 h) dX11_shift_15
