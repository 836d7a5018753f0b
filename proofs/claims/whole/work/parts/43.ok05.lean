set_option maxHeartbeats 200000 in
set_option maxRecDepth 100000 in
theorem ok_fMd_taken_L61 {X : Amb} (eL : X.nL = 5) (C : Cx X RX11 cX11_taken 2) (x3 : Int32) (x2 : Int32) (M : Mem) (o : Int32) (K : WA X M [(2, .int x2), (3, .int x3), (4, .int o)] 82 []) : ∀ (n : Nat) (x4 : Int32), fMd_taken_L61 n M x2 x4 = some o → WA X M [(2, .int x2), (3, .int x3), (4, .int x4)] 61 [] := by
  intro n
  induction n with
  | zero => intro _ h; cases h
  | succ n ih =>
    intro x4 h
    replace h : fMd_taken_L61_F (fMd_taken_L61 n) M x2 x4 = some o := h
    unfold fMd_taken_L61_F at h
    refine a_iload (pc := 61) C dX11_taken_61 2 rfl ?_
    refine a_iload_n (pc := 63) C dX11_taken_63 rfl 0 rfl ?_
    refine a_icmp_eq (pc := 64) C 82 dX11_taken_64 rfl (fun c12 => ?_) (fun c12 => ?_)
    · replace h := iteT c12 h
      refine a_sub (lv2 := [(2, .int x2), (3, .int x3), (4, .int x4)]) [0, 1, 2] rfl ?_
      cases somI h
      exact K
    · replace h := iteF c12 h
      refine a_iload (pc := 67) C dX11_taken_67 2 rfl ?_
      refine a_if_le (pc := 69) C 82 dX11_taken_69 rfl (fun c13 => ?_) (fun c13 => ?_)
      · replace h := iteT c13 h
        refine a_sub (lv2 := [(2, .int x2), (3, .int x3), (4, .int x4)]) [0, 1, 2] rfl ?_
        cases somI h
        exact K
      · replace h := iteF c13 h
        refine a_iload (pc := 72) C dX11_taken_72 2 rfl ?_
        refine a_callSI (pc := 74) C [.int x4] (ok_fMd_above_ X.l X.N M x4) rfl mw_X11_above_ wd_1567 rfl rfl rfl dX11_taken_74 (fun z14 => ?_)
        refine a_istore (pc := 77) C [(4, .int (fMd_above_ x4)), (2, .int x2), (3, .int x3)] dX11_taken_77 (nlt eL rfl) rfl ?_
        refine a_goto (pc := 79) C 61 dX11_taken_79 rfl ?_
        refine a_sub [1, 2, 0] rfl ?_
        exact ih (fMd_above_ x4) h
set_option maxHeartbeats 200000 in
set_option maxRecDepth 100000 in
theorem ok_fMd_taken_J82 {X : Amb} (eL : X.nL = 5) (C : Cx X RX11 cX11_taken 2) (M : Mem) (r : Int32) (E : En X (some .int) (QcI X.N (some .int) r M)) (x2 : Int32) (x3 : Int32) (x4 : Int32) (h : fMd_taken_J82 M x2 x3 x4 = some r) : WA X M [(2, .int x2), (3, .int x3), (4, .int x4)] 82 [] := by
  unfold fMd_taken_J82 at h
  refine a_iload (pc := 82) C dX11_taken_82 2 rfl ?_
  refine a_iload_n (pc := 84) C dX11_taken_84 rfl 0 rfl ?_
  refine a_icmp_ne (pc := 85) C 92 dX11_taken_85 rfl (fun c16 => ?_) (fun c16 => ?_)
  · replace h := iteT c16 h
    refine a_bipush (pc := 92) C (-12) dX11_taken_92 rfl ?_
    exact a_iret (pc := 94) C E rfl (somI h) rfl dX11_taken_94
  · replace h := iteF c16 h
    refine a_iload_n (pc := 88) C dX11_taken_88 rfl 1 rfl ?_
    refine a_goto (pc := 89) C 94 dX11_taken_89 rfl ?_
    exact a_iret (pc := 94) C E rfl (somI h) rfl dX11_taken_94
set_option maxHeartbeats 200000 in
set_option maxRecDepth 100000 in
theorem ok_fMd_taken (l : Launch) (N : Rig) (M : Mem) (x1 : Int32) (x2 : Int32) {r : Int32} (h : fMd_taken M x1 x2 = some r) : Ct l N yX11_taken cX11_taken 5 (some .int) 2 [.ref (N.2.1 66), .int x1, .int x2] M (QcI N (some .int) r M) := by
  refine ct_of (by decide) rfl ?_
  intro X el eN eL C E
  subst el
  subst eN
  unfold fMd_taken at h
  show WA X M [(0, .ref (X.N.2.1 66)), (1, .int x1), (2, .int x2)] 0 []
  refine a_iload_n (pc := 0) C dX11_taken_0 rfl 1 rfl ?_
  refine a_callSI (pc := 1) C [.int x1] (ok_fMd_isShelf X.l X.N M x1) rfl mw_X11_isShelf wd_1231 rfl rfl rfl dX11_taken_1 (fun z1 => ?_)
  refine a_if_eq (pc := 4) C 17 dX11_taken_4 rfl (fun c2 => ?_) (fun c2 => ?_)
  · replace h := iteT c2 h
    refine a_iconst (pc := 17) C (-1) dX11_taken_17 rfl ?_
    exact a_iret (pc := 18) C E rfl (somI h) rfl dX11_taken_18
  · replace h := iteF c2 h
    refine a_iload_n (pc := 7) C dX11_taken_7 rfl 2 rfl ?_
    refine a_iconst (pc := 8) C 0 dX11_taken_8 rfl ?_
    refine a_bipush (pc := 9) C 7 dX11_taken_9 rfl ?_
    refine a_callSI (pc := 11) C [.int x2, .int 0, .int 7] (ok_fMd_within X.l X.N M x2 0 7) rfl mw_X11_within wd_1220 rfl rfl rfl dX11_taken_11 (fun z3 => ?_)
    refine a_if_ne (pc := 14) C 19 dX11_taken_14 rfl (fun c4 => ?_) (fun c4 => ?_)
    · replace h := iteT c4 h
      refine a_aload_n (pc := 19) C dX11_taken_19 rfl 0 rfl ?_
      refine gf_11_36 (pc := 20) C wd_1113 dX11_taken_20 ?_
      refine a_iload_n (pc := 23) C dX11_taken_23 rfl 1 rfl ?_
      obtain ⟨v5, ev5, h⟩ := bndS h
      refine a_iald (pc := 24) C rfl ev5 dX11_taken_24 ?_
      refine a_iconst (pc := 25) C (-1) dX11_taken_25 rfl ?_
      refine a_icmp_ne (pc := 26) C 32 dX11_taken_26 rfl (fun c6 => ?_) (fun c6 => ?_)
      · replace h := iteT c6 h
        refine a_aload_n (pc := 32) C dX11_taken_32 rfl 0 rfl ?_
        refine a_iload_n (pc := 33) C dX11_taken_33 rfl 1 rfl ?_
        obtain ⟨v7, ev7, h⟩ := bndS h
        refine a_callVI (pc := 34) C [.int x1] (ok_fMd_isRow X.l X.N M x1 ev7) rfl mw_X11_isRow wd_1598 rfl rfl rfl rfl rfl rfl rfl dX11_taken_34 (fun z8 => ?_)
        refine a_if_eq (pc := 37) C 43 dX11_taken_37 rfl (fun c9 => ?_) (fun c9 => ?_)
        · replace h := iteT c9 h
          refine a_aload_n (pc := 43) C dX11_taken_43 rfl 0 rfl ?_
          refine gf_11_33 (pc := 44) C wd_1110 dX11_taken_44 ?_
          refine a_aload_n (pc := 47) C dX11_taken_47 rfl 0 rfl ?_
          refine gf_11_36 (pc := 48) C wd_1113 dX11_taken_48 ?_
          refine a_iload_n (pc := 51) C dX11_taken_51 rfl 1 rfl ?_
          obtain ⟨v10, ev10, h⟩ := bndS h
          refine a_iald (pc := 52) C rfl ev10 dX11_taken_52 ?_
          refine a_bipush (pc := 53) C 10 dX11_taken_53 rfl ?_
          refine a_isub (pc := 55) C dX11_taken_55 ?_
          obtain ⟨v11, ev11, h⟩ := bndS h
          refine a_iald (pc := 56) C rfl ev11 dX11_taken_56 ?_
          refine a_istore_n (pc := 57) C [(3, .int v11), (0, .ref (X.N.2.1 66)), (1, .int x1), (2, .int x2)] dX11_taken_57 rfl (nlt eL rfl) rfl ?_
          refine a_iload_n (pc := 58) C dX11_taken_58 rfl 0 rfl ?_
          refine a_istore (pc := 59) C [(4, .int v11), (3, .int v11), (0, .ref (X.N.2.1 66)), (1, .int x1), (2, .int x2)] dX11_taken_59 (nlt eL rfl) rfl ?_
          refine a_sub (lv2 := [(2, .int x2), (3, .int v11), (4, .int v11)]) [4, 1, 0] rfl ?_
          obtain ⟨o15, eo15, h⟩ := bndS h
          refine ok_fMd_taken_L61 eL C v11 x2 M o15 ?_ FU v11 eo15
          refine a_sub (lv2 := [(2, .int x2), (3, .int v11), (4, .int o15)]) [0, 1, 2] rfl ?_
          exact ok_fMd_taken_J82 eL C M r E x2 v11 o15 h
        · replace h := iteF c9 h
          refine a_bipush (pc := 40) C (-12) dX11_taken_40 rfl ?_
          exact a_iret (pc := 42) C E rfl (somI h) rfl dX11_taken_42
      · replace h := iteF c6 h
        refine a_bipush (pc := 29) C (-11) dX11_taken_29 rfl ?_
        exact a_iret (pc := 31) C E rfl (somI h) rfl dX11_taken_31
    · replace h := iteF c4 h
      refine a_iconst (pc := 17) C (-1) dX11_taken_17 rfl ?_
      exact a_iret (pc := 18) C E rfl (somI h) rfl dX11_taken_18
set_option maxHeartbeats 200000 in
set_option maxRecDepth 100000 in
theorem ok_fMd_count_L47 {X : Amb} (eL : X.nL = 4) (C : Cx X RX11 cX11_count 0) (M : Mem) (o : Int32) (K : WA X M [(2, .int o)] 71 []) : ∀ (n : Nat) (x2 : Int32) (x3 : Int32), fMd_count_L47 n M x2 x3 = some o → WA X M [(0, .ref (X.N.2.1 66)), (2, .int x2), (3, .int x3)] 47 [] := by
  intro n
  induction n with
  | zero => intro _ _ h; cases h
  | succ n ih =>
    intro x2 x3 h
    replace h : fMd_count_L47_F (fMd_count_L47 n) M x2 x3 = some o := h
    unfold fMd_count_L47_F at h
    refine a_iload_n (pc := 47) C dX11_count_47 rfl 2 rfl ?_
    refine a_bipush (pc := 48) C 36 dX11_count_48 rfl ?_
    refine a_icmp_ge (pc := 50) C 71 dX11_count_50 rfl (fun c3 => ?_) (fun c3 => ?_)
    · replace h := iteT c3 h
      refine a_sub (lv2 := [(2, .int x2)]) [1] rfl ?_
      cases somI h
      exact K
    · replace h := iteF c3 h
      refine a_aload_n (pc := 53) C dX11_count_53 rfl 0 rfl ?_
      refine gf_11_1 (pc := 54) C wd_1078 dX11_count_54 ?_
      refine a_iload_n (pc := 57) C dX11_count_57 rfl 2 rfl ?_
      obtain ⟨v4, ev4, h⟩ := bndS h
      refine a_iald (pc := 58) C rfl ev4 dX11_count_58 ?_
      refine a_if_le (pc := 59) C 65 dX11_count_59 rfl (fun c5 => ?_) (fun c5 => ?_)
      · replace h := iteT c5 h
        refine a_iinc (pc := 65) C 2 (x3 + 1) [(3, .int (x3 + 1)), (0, .ref (X.N.2.1 66)), (2, .int x2)] dX11_count_65 rfl rfl (nlt eL rfl) rfl ?_
        refine a_goto (pc := 68) C 47 dX11_count_68 rfl ?_
        refine a_sub [1, 2, 0] rfl ?_
        exact ih x2 (x3 + 1) h
      · replace h := iteF c5 h
        refine a_iinc (pc := 62) C 1 (x2 + 1) [(2, .int (x2 + 1)), (0, .ref (X.N.2.1 66)), (3, .int x3)] dX11_count_62 rfl rfl (nlt eL rfl) rfl ?_
        refine a_iinc (pc := 65) C 2 (x3 + 1) [(3, .int (x3 + 1)), (2, .int (x2 + 1)), (0, .ref (X.N.2.1 66))] dX11_count_65 rfl rfl (nlt eL rfl) rfl ?_
        refine a_goto (pc := 68) C 47 dX11_count_68 rfl ?_
        refine a_sub [2, 1, 0] rfl ?_
        exact ih (x2 + 1) (x3 + 1) h
set_option maxHeartbeats 200000 in
set_option maxRecDepth 100000 in
theorem ok_fMd_count (l : Launch) (N : Rig) (M : Mem) (x1 : Int32) {r : Int32} (h : fMd_count M x1 = some r) : Ct l N yX11_count cX11_count 4 (some .int) 0 [.ref (N.2.1 66), .int x1] M (QcI N (some .int) r M) := by
  refine ct_of (by decide) rfl ?_
  intro X el eN eL C E
  subst el
  subst eN
  unfold fMd_count at h
  show WA X M [(0, .ref (X.N.2.1 66)), (1, .int x1)] 0 []
  refine a_iconst (pc := 0) C 0 dX11_count_0 rfl ?_
  refine a_istore_n (pc := 1) C [(2, .int 0), (0, .ref (X.N.2.1 66)), (1, .int x1)] dX11_count_1 rfl (nlt eL rfl) rfl ?_
  refine a_iload_n (pc := 2) C dX11_count_2 rfl 2 rfl ?_
  by_cases c1 : x1 = 0
  · replace h := iteT c1 h
    refine a_tsw_in (pc := 3) C 0 40 dX11_count_3 c1 (by decide) (by decide) rfl rfl ?_
    refine a_aload_n (pc := 40) C dX11_count_40 rfl 1 rfl ?_
    refine gf_11_3 (pc := 41) C wd_1080 dX11_count_41 ?_
    exact a_iret (pc := 44) C E rfl (somI h) rfl dX11_count_44
  replace h := iteF c1 h
  by_cases c2 : x1 = 1
  · replace h := iteT c2 h
    refine a_tsw_in (pc := 3) C 1 45 dX11_count_3 c2 (by decide) (by decide) rfl rfl ?_
    refine a_iconst (pc := 45) C 0 dX11_count_45 rfl ?_
    refine a_istore_n (pc := 46) C [(3, .int 0), (2, .int 0), (0, .ref (X.N.2.1 66)), (1, .int x1)] dX11_count_46 rfl (nlt eL rfl) rfl ?_
    refine a_sub (lv2 := [(0, .ref (X.N.2.1 66)), (2, .int 0), (3, .int 0)]) [2, 1, 0] rfl ?_
    obtain ⟨o6, eo6, h⟩ := bndS h
    refine ok_fMd_count_L47 eL C M o6 ?_ FU 0 0 eo6
    refine a_iload_n (pc := 71) C dX11_count_71 rfl 0 rfl ?_
    exact a_iret (pc := 72) C E rfl (somI h) rfl dX11_count_72
  replace h := iteF c2 h
  by_cases c7 : x1 = 2
  · replace h := iteT c7 h
    refine a_tsw_in (pc := 3) C 2 73 dX11_count_3 c7 (by decide) (by decide) rfl rfl ?_
    refine a_aload_n (pc := 73) C dX11_count_73 rfl 1 rfl ?_
    refine gf_11_6 (pc := 74) C wd_1083 dX11_count_74 ?_
    exact a_iret (pc := 77) C E rfl (somI h) rfl dX11_count_77
  replace h := iteF c7 h
  by_cases c8 : x1 = 3
  · replace h := iteT c8 h
    refine a_tsw_in (pc := 3) C 3 78 dX11_count_3 c8 (by decide) (by decide) rfl rfl ?_
    refine a_aload_n (pc := 78) C dX11_count_78 rfl 1 rfl ?_
    refine gf_11_30 (pc := 79) C wd_1107 dX11_count_79 ?_
    exact a_iret (pc := 82) C E rfl (somI h) rfl dX11_count_82
  replace h := iteF c8 h
  by_cases c9 : x1 = 4
  · replace h := iteT c9 h
    refine a_tsw_in (pc := 3) C 4 83 dX11_count_3 c9 (by decide) (by decide) rfl rfl ?_
    refine a_aload_n (pc := 83) C dX11_count_83 rfl 1 rfl ?_
    refine gf_11_32 (pc := 84) C wd_1109 dX11_count_84 ?_
    exact a_iret (pc := 87) C E rfl (somI h) rfl dX11_count_87
  replace h := iteF c9 h
  by_cases c10 : x1 = 5
  · replace h := iteT c10 h
    refine a_tsw_in (pc := 3) C 5 88 dX11_count_3 c10 (by decide) (by decide) rfl rfl ?_
    refine a_aload_n (pc := 88) C dX11_count_88 rfl 1 rfl ?_
    refine gf_11_34 (pc := 89) C wd_1111 dX11_count_89 ?_
    exact a_iret (pc := 92) C E rfl (somI h) rfl dX11_count_92
  replace h := iteF c10 h
  refine a_tsw_out (pc := 3) C 93 dX11_count_3 (by have := neI 0 rfl c1; have := neI 1 rfl c2; have := neI 2 rfl c7; have := neI 3 rfl c8; have := neI 4 rfl c9; have := neI 5 rfl c10; omega) rfl ?_
  refine a_iconst (pc := 93) C (-1) dX11_count_93 rfl ?_
  exact a_iret (pc := 94) C E rfl (somI h) rfl dX11_count_94
