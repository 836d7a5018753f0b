set_option maxHeartbeats 200000 in
set_option maxRecDepth 100000 in
theorem ok_fStreet_layDown_J57_2 {X : Amb} (eL : X.nL = 3) (C : Cx X RX5 cX5_layDown 1) (b0 : Nat) (hb0 : isSt b0) (o : Mem) (K : WA X o [] 81 []) (ihf : Mem → Nat → Int32 → Option (Mem)) (ih : ∀ (M : Mem) (x1 : Int32), ihf M b0 x1 = some o → WA X M [(0, .ref (X.N.2.1 b0)), (1, .int x1)] 2 []) (M : Mem) (x1 : Int32) (x2 : Int32) (s1 : Int32) (s2 : Int32) (h : fStreet_layDown_J57_2 ihf M b0 x1 x2 s1 s2 = some o) : WA X M [(0, .ref (X.N.2.1 b0)), (1, .int x1), (2, .int x2)] 57 [.int s2, .int s1, .ref (X.N.2.1 b0)] := by
  unfold fStreet_layDown_J57_2 at h
  refine a_ior (pc := 57) C dX5_layDown_57 ?_
  obtain ⟨M8, eM8, h⟩ := bndS h
  refine pf_5_7 (pc := 58) C hb0 eM8 wd_178 dX5_layDown_58 ?_
  refine a_aload_n (pc := 61) C dX5_layDown_61 rfl 0 rfl ?_
  refine gf_5_0 (pc := 62) C hb0 wd_153 dX5_layDown_62 ?_
  refine a_iload_n (pc := 65) C dX5_layDown_65 rfl 1 rfl ?_
  refine a_iload_n (pc := 66) C dX5_layDown_66 rfl 2 rfl ?_
  obtain ⟨M9, eM9, h⟩ := bndS h
  refine a_iast (pc := 67) C (st_a1 hb0) eM9 dX5_layDown_67 ?_
  refine a_aload_n (pc := 68) C dX5_layDown_68 rfl 0 rfl ?_
  refine gf_5_8 (pc := 69) C hb0 wd_180 dX5_layDown_69 ?_
  refine a_iload_n (pc := 72) C dX5_layDown_72 rfl 1 rfl ?_
  refine a_iconst (pc := 73) C 0 dX5_layDown_73 rfl ?_
  obtain ⟨M10, eM10, h⟩ := bndS h
  refine a_iast (pc := 74) C (st_a5 hb0) eM10 dX5_layDown_74 ?_
  refine a_iinc (pc := 75) C 1 (x1 + 1) [(1, .int (x1 + 1)), (0, .ref (X.N.2.1 b0)), (2, .int x2)] dX5_layDown_75 rfl rfl (nlt eL rfl) rfl ?_
  refine a_goto (pc := 78) C 2 dX5_layDown_78 rfl ?_
  refine a_sub [1, 0] rfl ?_
  exact ih M10 (x1 + 1) h
set_option maxHeartbeats 200000 in
set_option maxRecDepth 100000 in
theorem ok_fStreet_layDown_L2 {X : Amb} (eL : X.nL = 3) (C : Cx X RX5 cX5_layDown 1) (b0 : Nat) (hb0 : isSt b0) (o : Mem) (K : WA X o [] 81 []) : ∀ (n : Nat) (M : Mem) (x1 : Int32), fStreet_layDown_L2 n M b0 x1 = some o → WA X M [(0, .ref (X.N.2.1 b0)), (1, .int x1)] 2 [] := by
  intro n
  induction n with
  | zero => intro _ _ h; cases h
  | succ n ih =>
    intro M x1 h
    replace h : fStreet_layDown_L2_F (fStreet_layDown_L2 n) M b0 x1 = some o := h
    unfold fStreet_layDown_L2_F at h
    refine a_iload_n (pc := 2) C dX5_layDown_2 rfl 1 rfl ?_
    refine a_bipush (pc := 3) C 36 dX5_layDown_3 rfl ?_
    refine a_icmp_ge (pc := 5) C 81 dX5_layDown_5 rfl (fun c1 => ?_) (fun c1 => ?_)
    · replace h := iteT c1 h
      refine a_sub (lv2 := []) [] rfl ?_
      cases somI h
      exact K
    · replace h := iteF c1 h
      refine a_aload_n (pc := 8) C dX5_layDown_8 rfl 0 rfl ?_
      refine gf_5_8 (pc := 9) C hb0 wd_180 dX5_layDown_9 ?_
      refine a_iload_n (pc := 12) C dX5_layDown_12 rfl 1 rfl ?_
      obtain ⟨v2, ev2, h⟩ := bndS h
      refine a_iald (pc := 13) C (st_a5 hb0) ev2 dX5_layDown_13 ?_
      refine a_if_eq (pc := 14) C 75 dX5_layDown_14 rfl (fun c3 => ?_) (fun c3 => ?_)
      · replace h := iteT c3 h
        refine a_iinc (pc := 75) C 1 (x1 + 1) [(1, .int (x1 + 1)), (0, .ref (X.N.2.1 b0))] dX5_layDown_75 rfl rfl (nlt eL rfl) rfl ?_
        refine a_goto (pc := 78) C 2 dX5_layDown_78 rfl ?_
        refine a_sub [1, 0] rfl ?_
        exact ih M (x1 + 1) h
      · replace h := iteF c3 h
        refine a_aload_n (pc := 17) C dX5_layDown_17 rfl 0 rfl ?_
        refine gf_5_0 (pc := 18) C hb0 wd_153 dX5_layDown_18 ?_
        refine a_iload_n (pc := 21) C dX5_layDown_21 rfl 1 rfl ?_
        obtain ⟨v4, ev4, h⟩ := bndS h
        refine a_iald (pc := 22) C (st_a1 hb0) ev4 dX5_layDown_22 ?_
        refine a_aload_n (pc := 23) C dX5_layDown_23 rfl 0 rfl ?_
        refine gf_5_8 (pc := 24) C hb0 wd_180 dX5_layDown_24 ?_
        refine a_iload_n (pc := 27) C dX5_layDown_27 rfl 1 rfl ?_
        obtain ⟨v5, ev5, h⟩ := bndS h
        refine a_iald (pc := 28) C (st_a5 hb0) ev5 dX5_layDown_28 ?_
        refine a_iadd (pc := 29) C dX5_layDown_29 ?_
        refine a_sipush (pc := 30) C 9999 dX5_layDown_30 rfl ?_
        refine a_mmin (pc := 33) C rfl wd_651 wd_652 wd_94 wd_653 rfl dX5_layDown_33 ?_
        refine a_istore_n (pc := 36) C [(2, .int (mnI (v4 + v5) 9999)), (0, .ref (X.N.2.1 b0)), (1, .int x1)] dX5_layDown_36 rfl (nlt eL rfl) rfl ?_
        refine a_aload_n (pc := 37) C dX5_layDown_37 rfl 1 rfl ?_
        refine a_dup (pc := 38) C dX5_layDown_38 rfl ?_
        refine gf_5_7 (pc := 39) C hb0 wd_178 dX5_layDown_39 ?_
        refine a_iload_n (pc := 42) C dX5_layDown_42 rfl 0 rfl ?_
        refine a_aload_n (pc := 43) C dX5_layDown_43 rfl 1 rfl ?_
        refine gf_5_0 (pc := 44) C hb0 wd_153 dX5_layDown_44 ?_
        refine a_iload_n (pc := 47) C dX5_layDown_47 rfl 2 rfl ?_
        obtain ⟨v6, ev6, h⟩ := bndS h
        refine a_iald (pc := 48) C (st_a1 hb0) ev6 dX5_layDown_48 ?_
        refine a_icmp_eq (pc := 49) C 56 dX5_layDown_49 rfl (fun c7 => ?_) (fun c7 => ?_)
        · replace h := iteT c7 h
          refine a_iconst (pc := 56) C 0 dX5_layDown_56 rfl ?_
          refine a_sub (lv2 := [(0, .ref (X.N.2.1 b0)), (1, .int x1), (2, .int (mnI (v4 + v5) 9999))]) [1, 2, 0] rfl ?_
          exact ok_fStreet_layDown_J57_2 eL C b0 hb0 o K _ ih M x1 (mnI (v4 + v5) 9999) (M.1 b0 7) 0 h
        · replace h := iteF c7 h
          refine a_iconst (pc := 52) C 1 dX5_layDown_52 rfl ?_
          refine a_goto (pc := 53) C 57 dX5_layDown_53 rfl ?_
          refine a_sub (lv2 := [(0, .ref (X.N.2.1 b0)), (1, .int x1), (2, .int (mnI (v4 + v5) 9999))]) [1, 2, 0] rfl ?_
          exact ok_fStreet_layDown_J57_2 eL C b0 hb0 o K _ ih M x1 (mnI (v4 + v5) 9999) (M.1 b0 7) 1 h
set_option maxHeartbeats 200000 in
set_option maxRecDepth 100000 in
theorem ok_fStreet_layDown (l : Launch) (N : Rig) (M : Mem) (b0 : Nat) (hb0 : isSt b0) {M0 : Mem} (h : fStreet_layDown M b0 = some M0) : Ct l N yX5_layDown cX5_layDown 3 none 1 [.ref (N.2.1 b0)] M (QcV N M0) := by
  refine ct_of (by decide) rfl ?_
  intro X el eN eL C E
  subst el
  subst eN
  unfold fStreet_layDown at h
  show WA X M [(0, .ref (X.N.2.1 b0))] 0 []
  refine a_iconst (pc := 0) C 0 dX5_layDown_0 rfl ?_
  refine a_istore_n (pc := 1) C [(1, .int 0), (0, .ref (X.N.2.1 b0))] dX5_layDown_1 rfl (nlt eL rfl) rfl ?_
  refine a_sub (lv2 := [(0, .ref (X.N.2.1 b0)), (1, .int 0)]) [1, 0] rfl ?_
  obtain ⟨o11, eo11, h⟩ := bndS h
  refine ok_fStreet_layDown_L2 eL C b0 hb0 o11 ?_ FU M 0 eo11
  exact a_vret (pc := 81) C E (somI h) dX5_layDown_81
set_option maxHeartbeats 200000 in
set_option maxRecDepth 100000 in
theorem ok_fStreet_pass_J46_12 {X : Amb} (eL : X.nL = 5) (C : Cx X RX5 cX5_pass 3) (b0 : Nat) (hb0 : isSt b0) (o : Mem) (K : WA X o [(0, .ref (X.N.2.1 b0))] 97 []) (ihf : Mem → Nat → Int32 → Option (Mem)) (ih : ∀ (M : Mem) (x3 : Int32), ihf M b0 x3 = some o → WA X M [(0, .ref (X.N.2.1 b0)), (1, .ref (X.N.2.1 2)), (2, .ref (X.N.2.1 7)), (3, .int x3)] 12 []) (M : Mem) (x3 : Int32) (s0 : Int32) (h : fStreet_pass_J46_12 ihf M b0 x3 s0 = some o) : WA X M [(0, .ref (X.N.2.1 b0)), (1, .ref (X.N.2.1 2)), (2, .ref (X.N.2.1 7)), (3, .int x3)] 46 [.int s0] := by
  unfold fStreet_pass_J46_12 at h
  refine a_istore (pc := 46) C [(4, .int s0), (0, .ref (X.N.2.1 b0)), (1, .ref (X.N.2.1 2)), (2, .ref (X.N.2.1 7)), (3, .int x3)] dX5_pass_46 (nlt eL rfl) rfl ?_
  refine a_iload (pc := 48) C dX5_pass_48 0 rfl ?_
  refine a_if_le (pc := 50) C 91 dX5_pass_50 rfl (fun c5 => ?_) (fun c5 => ?_)
  · replace h := iteT c5 h
    refine a_iinc (pc := 91) C 4 (x3 + 1) [(3, .int (x3 + 1)), (4, .int s0), (0, .ref (X.N.2.1 b0)), (1, .ref (X.N.2.1 2)), (2, .ref (X.N.2.1 7))] dX5_pass_91 rfl rfl (nlt eL rfl) rfl ?_
    refine a_goto (pc := 94) C 12 dX5_pass_94 rfl ?_
    refine a_sub [2, 3, 4, 0] rfl ?_
    exact ih M (x3 + 1) h
  · replace h := iteF c5 h
    refine a_aload_n (pc := 53) C dX5_pass_53 rfl 1 rfl ?_
    refine gf_5_8 (pc := 54) C hb0 wd_180 dX5_pass_54 ?_
    refine a_iload_n (pc := 57) C dX5_pass_57 rfl 4 rfl ?_
    refine a_dup2 (pc := 58) C dX5_pass_58 rfl rfl ?_
    obtain ⟨v6, ev6, h⟩ := bndS h
    refine a_iald (pc := 59) C (st_a5 hb0) ev6 dX5_pass_59 ?_
    refine a_iload (pc := 60) C dX5_pass_60 0 rfl ?_
    refine a_isub (pc := 62) C dX5_pass_62 ?_
    obtain ⟨M7, eM7, h⟩ := bndS h
    refine a_iast (pc := 63) C (st_a5 hb0) eM7 dX5_pass_63 ?_
    refine a_aload_n (pc := 64) C dX5_pass_64 rfl 1 rfl ?_
    refine gf_5_8 (pc := 65) C hb0 wd_180 dX5_pass_65 ?_
    refine a_aload_n (pc := 68) C dX5_pass_68 rfl 2 rfl ?_
    refine gf_7_1 (pc := 69) C wd_122 dX5_pass_69 ?_
    refine a_iload_n (pc := 72) C dX5_pass_72 rfl 4 rfl ?_
    obtain ⟨v8, ev8, h⟩ := bndS h
    refine a_iald (pc := 73) C rfl ev8 dX5_pass_73 ?_
    refine a_dup2 (pc := 74) C dX5_pass_74 rfl rfl ?_
    obtain ⟨v9, ev9, h⟩ := bndS h
    refine a_iald (pc := 75) C (st_a5 hb0) ev9 dX5_pass_75 ?_
    refine a_iload (pc := 76) C dX5_pass_76 0 rfl ?_
    refine a_iadd (pc := 78) C dX5_pass_78 ?_
    obtain ⟨M10, eM10, h⟩ := bndS h
    refine a_iast (pc := 79) C (st_a5 hb0) eM10 dX5_pass_79 ?_
    refine a_aload_n (pc := 80) C dX5_pass_80 rfl 1 rfl ?_
    refine a_dup (pc := 81) C dX5_pass_81 rfl ?_
    refine gf_5_6 (pc := 82) C hb0 wd_176 dX5_pass_82 ?_
    refine a_iload (pc := 85) C dX5_pass_85 0 rfl ?_
    refine a_iadd (pc := 87) C dX5_pass_87 ?_
    refine pf_5_6 (pc := 88) C hb0 wd_176 dX5_pass_88 ?_
    refine a_iinc (pc := 91) C 4 (x3 + 1) [(3, .int (x3 + 1)), (4, .int s0), (0, .ref (X.N.2.1 b0)), (1, .ref (X.N.2.1 2)), (2, .ref (X.N.2.1 7))] dX5_pass_91 rfl rfl (nlt eL rfl) rfl ?_
    refine a_goto (pc := 94) C 12 dX5_pass_94 rfl ?_
    refine a_sub [2, 3, 4, 0] rfl ?_
    exact ih (wI M10 b0 6 ((M10.1 b0 6) + s0)) (x3 + 1) h
set_option maxHeartbeats 200000 in
set_option maxRecDepth 100000 in
theorem ok_fStreet_pass_J45_12 {X : Amb} (eL : X.nL = 5) (C : Cx X RX5 cX5_pass 3) (b0 : Nat) (hb0 : isSt b0) (o : Mem) (K : WA X o [(0, .ref (X.N.2.1 b0))] 97 []) (ihf : Mem → Nat → Int32 → Option (Mem)) (ih : ∀ (M : Mem) (x3 : Int32), ihf M b0 x3 = some o → WA X M [(0, .ref (X.N.2.1 b0)), (1, .ref (X.N.2.1 2)), (2, .ref (X.N.2.1 7)), (3, .int x3)] 12 []) (M : Mem) (x3 : Int32) (h : fStreet_pass_J45_12 ihf M b0 x3 = some o) : WA X M [(0, .ref (X.N.2.1 b0)), (1, .ref (X.N.2.1 2)), (2, .ref (X.N.2.1 7)), (3, .int x3)] 45 [] := by
  unfold fStreet_pass_J45_12 at h
  refine a_iconst (pc := 45) C 0 dX5_pass_45 rfl ?_
  refine a_sub (lv2 := [(0, .ref (X.N.2.1 b0)), (1, .ref (X.N.2.1 2)), (2, .ref (X.N.2.1 7)), (3, .int x3)]) [0, 1, 2, 3] rfl ?_
  exact ok_fStreet_pass_J46_12 eL C b0 hb0 o K _ ih M x3 0 h
set_option maxHeartbeats 200000 in
set_option maxRecDepth 100000 in
theorem ok_fStreet_pass_L12 {X : Amb} (eL : X.nL = 5) (C : Cx X RX5 cX5_pass 3) (b0 : Nat) (hb0 : isSt b0) (o : Mem) (K : WA X o [(0, .ref (X.N.2.1 b0))] 97 []) : ∀ (n : Nat) (M : Mem) (x3 : Int32), fStreet_pass_L12 n M b0 x3 = some o → WA X M [(0, .ref (X.N.2.1 b0)), (1, .ref (X.N.2.1 2)), (2, .ref (X.N.2.1 7)), (3, .int x3)] 12 [] := by
  intro n
  induction n with
  | zero => intro _ _ h; cases h
  | succ n ih =>
    intro M x3 h
    replace h : fStreet_pass_L12_F (fStreet_pass_L12 n) M b0 x3 = some o := h
    unfold fStreet_pass_L12_F at h
    refine a_iload_n (pc := 12) C dX5_pass_12 rfl 3 rfl ?_
    refine a_bipush (pc := 13) C 36 dX5_pass_13 rfl ?_
    refine a_icmp_ge (pc := 15) C 97 dX5_pass_15 rfl (fun c2 => ?_) (fun c2 => ?_)
    · replace h := iteT c2 h
      refine a_sub (lv2 := [(0, .ref (X.N.2.1 b0))]) [0] rfl ?_
      cases somI h
      exact K
    · replace h := iteF c2 h
      refine a_aload_n (pc := 18) C dX5_pass_18 rfl 0 rfl ?_
      refine gf_5_0 (pc := 19) C hb0 wd_153 dX5_pass_19 ?_
      refine a_iload_n (pc := 22) C dX5_pass_22 rfl 3 rfl ?_
      obtain ⟨v3, ev3, h⟩ := bndS h
      refine a_iald (pc := 23) C (st_a1 hb0) ev3 dX5_pass_23 ?_
      refine a_if_le (pc := 24) C 45 dX5_pass_24 rfl (fun c4 => ?_) (fun c4 => ?_)
      · replace h := iteT c4 h
        refine a_sub (lv2 := [(0, .ref (X.N.2.1 b0)), (1, .ref (X.N.2.1 2)), (2, .ref (X.N.2.1 7)), (3, .int x3)]) [0, 1, 2, 3] rfl ?_
        exact ok_fStreet_pass_J45_12 eL C b0 hb0 o K _ ih M x3 h
      · replace h := iteF c4 h
        refine a_aload_n (pc := 27) C dX5_pass_27 rfl 1 rfl ?_
        refine a_iload_n (pc := 28) C dX5_pass_28 rfl 3 rfl ?_
        obtain ⟨v11, ev11, h⟩ := bndS h
        refine a_callVI (pc := 29) C [.int x3] (ok_fTown_isSink X.l X.N M x3 ev11) rfl mw_X7_isSink wd_622 rfl rfl rfl rfl rfl rfl rfl dX5_pass_29 (fun z12 => ?_)
        refine a_if_ne (pc := 32) C 45 dX5_pass_32 rfl (fun c13 => ?_) (fun c13 => ?_)
        · replace h := iteT c13 h
          refine a_sub (lv2 := [(0, .ref (X.N.2.1 b0)), (1, .ref (X.N.2.1 2)), (2, .ref (X.N.2.1 7)), (3, .int x3)]) [0, 1, 2, 3] rfl ?_
          exact ok_fStreet_pass_J45_12 eL C b0 hb0 o K _ ih M x3 h
        · replace h := iteF c13 h
          refine a_aload_n (pc := 35) C dX5_pass_35 rfl 0 rfl ?_
          refine a_aload_n (pc := 36) C dX5_pass_36 rfl 1 rfl ?_
          refine a_aload_n (pc := 37) C dX5_pass_37 rfl 2 rfl ?_
          refine a_iload_n (pc := 38) C dX5_pass_38 rfl 3 rfl ?_
          obtain ⟨q14, eq14, h⟩ := bndS h
          refine a_callVI (pc := 39) C [.ref (X.N.2.1 2), .ref (X.N.2.1 7), .int x3] (ok_fStreet_outOf X.l X.N M b0 hb0 x3 eq14) rfl mw_X5_outOf wd_686 (st_shp hb0) (st_blt hb0) rfl rfl rfl rfl rfl dX5_pass_39 (fun z15 => ?_)
          refine a_goto (pc := 42) C 46 dX5_pass_42 rfl ?_
          refine a_sub (lv2 := [(0, .ref (X.N.2.1 b0)), (1, .ref (X.N.2.1 2)), (2, .ref (X.N.2.1 7)), (3, .int x3)]) [0, 1, 2, 3] rfl ?_
          exact ok_fStreet_pass_J46_12 eL C b0 hb0 o K _ ih q14.2 x3 q14.1 h
set_option maxHeartbeats 200000 in
set_option maxRecDepth 100000 in
theorem ok_fStreet_pass_J108 {X : Amb} (eL : X.nL = 5) (C : Cx X RX5 cX5_pass 3) (b0 : Nat) (hb0 : isSt b0) (M0 : Mem) (E : En X none (QcV X.N M0)) (M : Mem) (h : fStreet_pass_J108 M b0 = some M0) : WA X M [(0, .ref (X.N.2.1 b0))] 108 [] := by
  unfold fStreet_pass_J108 at h
  refine a_aload_n (pc := 108) C dX5_pass_108 rfl 0 rfl ?_
  refine a_aload_n (pc := 109) C dX5_pass_109 rfl 0 rfl ?_
  refine gf_5_4 (pc := 110) C hb0 wd_172 dX5_pass_110 ?_
  refine a_iconst (pc := 113) C 1 dX5_pass_113 rfl ?_
  refine a_iadd (pc := 114) C dX5_pass_114 ?_
  refine a_bipush (pc := 115) C 24 dX5_pass_115 rfl ?_
  refine a_icmp_ge (pc := 117) C 129 dX5_pass_117 rfl (fun c18 => ?_) (fun c18 => ?_)
  · replace h := iteT c18 h
    refine a_iconst (pc := 129) C 0 dX5_pass_129 rfl ?_
    refine pf_5_4 (pc := 130) C hb0 wd_172 dX5_pass_130 ?_
    exact a_vret (pc := 133) C E (somI h) dX5_pass_133
  · replace h := iteF c18 h
    refine a_aload_n (pc := 120) C dX5_pass_120 rfl 0 rfl ?_
    refine gf_5_4 (pc := 121) C hb0 wd_172 dX5_pass_121 ?_
    refine a_iconst (pc := 124) C 1 dX5_pass_124 rfl ?_
    refine a_iadd (pc := 125) C dX5_pass_125 ?_
    refine a_goto (pc := 126) C 130 dX5_pass_126 rfl ?_
    refine pf_5_4 (pc := 130) C hb0 wd_172 dX5_pass_130 ?_
    exact a_vret (pc := 133) C E (somI h) dX5_pass_133
set_option maxHeartbeats 200000 in
set_option maxRecDepth 100000 in
theorem ok_fStreet_pass (l : Launch) (N : Rig) (M : Mem) (b0 : Nat) (hb0 : isSt b0) {M0 : Mem} (h : fStreet_pass M b0 = some M0) : Ct l N yX5_pass cX5_pass 5 none 3 [.ref (N.2.1 b0), .ref (N.2.1 2), .ref (N.2.1 7)] M (QcV N M0) := by
  refine ct_of (by decide) rfl ?_
  intro X el eN eL C E
  subst el
  subst eN
  unfold fStreet_pass at h
  show WA X M [(0, .ref (X.N.2.1 b0)), (1, .ref (X.N.2.1 2)), (2, .ref (X.N.2.1 7))] 0 []
  refine a_aload_n (pc := 0) C dX5_pass_0 rfl 0 rfl ?_
  refine a_aload_n (pc := 1) C dX5_pass_1 rfl 1 rfl ?_
  obtain ⟨q1, eq1, h⟩ := bndS h
  refine a_callVV (pc := 2) C [.ref (X.N.2.1 2)] (ok_fStreet_drink X.l X.N M b0 hb0 eq1) rfl mw_X5_drink wd_682 (st_shp hb0) (st_blt hb0) rfl rfl rfl rfl rfl dX5_pass_2 ?_
  refine a_aload_n (pc := 5) C dX5_pass_5 rfl 0 rfl ?_
  refine a_iconst (pc := 6) C 0 dX5_pass_6 rfl ?_
  refine pf_5_6 (pc := 7) C hb0 wd_176 dX5_pass_7 ?_
  refine a_iconst (pc := 10) C 0 dX5_pass_10 rfl ?_
  refine a_istore_n (pc := 11) C [(3, .int 0), (0, .ref (X.N.2.1 b0)), (1, .ref (X.N.2.1 2)), (2, .ref (X.N.2.1 7))] dX5_pass_11 rfl (nlt eL rfl) rfl ?_
  refine a_sub (lv2 := [(0, .ref (X.N.2.1 b0)), (1, .ref (X.N.2.1 2)), (2, .ref (X.N.2.1 7)), (3, .int 0)]) [1, 2, 3, 0] rfl ?_
  obtain ⟨o16, eo16, h⟩ := bndS h
  refine ok_fStreet_pass_L12 eL C b0 hb0 o16 ?_ FU (wI q1 b0 6 0) 0 eo16
  refine a_aload_n (pc := 97) C dX5_pass_97 rfl 0 rfl ?_
  refine gf_5_6 (pc := 98) C hb0 wd_176 dX5_pass_98 ?_
  refine a_if_le (pc := 101) C 108 dX5_pass_101 rfl (fun c17 => ?_) (fun c17 => ?_)
  · replace h := iteT c17 h
    refine a_sub (lv2 := [(0, .ref (X.N.2.1 b0))]) [0] rfl ?_
    exact ok_fStreet_pass_J108 eL C b0 hb0 M0 E o16 h
  · replace h := iteF c17 h
    refine a_aload_n (pc := 104) C dX5_pass_104 rfl 0 rfl ?_
    obtain ⟨q19, eq19, h⟩ := bndS h
    refine a_callVV (pc := 105) C [] (ok_fStreet_layDown X.l X.N o16 b0 hb0 eq19) rfl mw_X5_layDown wd_687 (st_shp hb0) (st_blt hb0) rfl rfl rfl rfl rfl dX5_pass_105 ?_
    refine a_sub (lv2 := [(0, .ref (X.N.2.1 b0))]) [0] rfl ?_
    exact ok_fStreet_pass_J108 eL C b0 hb0 M0 E q19 h
set_option maxHeartbeats 200000 in
set_option maxRecDepth 100000 in
theorem ok_fStreet_wholeLuck_L4 {X : Amb} (eL : X.nL = 3) (C : Cx X RX5 cX5_wholeLuck 0) (b0 : Nat) (hb0 : isSt b0) (M : Mem) (o : Int32) (K : WA X M [(1, .int o)] 25 []) : ∀ (n : Nat) (x1 : Int32) (x2 : Int32), fStreet_wholeLuck_L4 n M b0 x1 x2 = some o → WA X M [(0, .ref (X.N.2.1 b0)), (1, .int x1), (2, .int x2)] 4 [] := by
  intro n
  induction n with
  | zero => intro _ _ h; cases h
  | succ n ih =>
    intro x1 x2 h
    replace h : fStreet_wholeLuck_L4_F (fStreet_wholeLuck_L4 n) M b0 x1 x2 = some o := h
    unfold fStreet_wholeLuck_L4_F at h
    refine a_iload_n (pc := 4) C dX5_wholeLuck_4 rfl 2 rfl ?_
    refine a_bipush (pc := 5) C 36 dX5_wholeLuck_5 rfl ?_
    refine a_icmp_ge (pc := 7) C 25 dX5_wholeLuck_7 rfl (fun c1 => ?_) (fun c1 => ?_)
    · replace h := iteT c1 h
      refine a_sub (lv2 := [(1, .int x1)]) [1] rfl ?_
      cases somI h
      exact K
    · replace h := iteF c1 h
      refine a_iload_n (pc := 10) C dX5_wholeLuck_10 rfl 1 rfl ?_
      refine a_aload_n (pc := 11) C dX5_wholeLuck_11 rfl 0 rfl ?_
      refine gf_5_0 (pc := 12) C hb0 wd_153 dX5_wholeLuck_12 ?_
      refine a_iload_n (pc := 15) C dX5_wholeLuck_15 rfl 2 rfl ?_
      obtain ⟨v2, ev2, h⟩ := bndS h
      refine a_iald (pc := 16) C (st_a1 hb0) ev2 dX5_wholeLuck_16 ?_
      refine a_iadd (pc := 17) C dX5_wholeLuck_17 ?_
      refine a_istore_n (pc := 18) C [(1, .int (x1 + v2)), (0, .ref (X.N.2.1 b0)), (2, .int x2)] dX5_wholeLuck_18 rfl (nlt eL rfl) rfl ?_
      refine a_iinc (pc := 19) C 2 (x2 + 1) [(2, .int (x2 + 1)), (1, .int (x1 + v2)), (0, .ref (X.N.2.1 b0))] dX5_wholeLuck_19 rfl rfl (nlt eL rfl) rfl ?_
      refine a_goto (pc := 22) C 4 dX5_wholeLuck_22 rfl ?_
      refine a_sub [2, 1, 0] rfl ?_
      exact ih (x1 + v2) (x2 + 1) h
set_option maxHeartbeats 200000 in
set_option maxRecDepth 100000 in
theorem ok_fStreet_wholeLuck (l : Launch) (N : Rig) (M : Mem) (b0 : Nat) (hb0 : isSt b0) {r : Int32} (h : fStreet_wholeLuck M b0 = some r) : Ct l N yX5_wholeLuck cX5_wholeLuck 3 (some .int) 0 [.ref (N.2.1 b0)] M (QcI N (some .int) r M) := by
  refine ct_of (by decide) rfl ?_
  intro X el eN eL C E
  subst el
  subst eN
  unfold fStreet_wholeLuck at h
  show WA X M [(0, .ref (X.N.2.1 b0))] 0 []
  refine a_iconst (pc := 0) C 0 dX5_wholeLuck_0 rfl ?_
  refine a_istore_n (pc := 1) C [(1, .int 0), (0, .ref (X.N.2.1 b0))] dX5_wholeLuck_1 rfl (nlt eL rfl) rfl ?_
  refine a_iconst (pc := 2) C 0 dX5_wholeLuck_2 rfl ?_
  refine a_istore_n (pc := 3) C [(2, .int 0), (1, .int 0), (0, .ref (X.N.2.1 b0))] dX5_wholeLuck_3 rfl (nlt eL rfl) rfl ?_
  refine a_sub (lv2 := [(0, .ref (X.N.2.1 b0)), (1, .int 0), (2, .int 0)]) [2, 1, 0] rfl ?_
  obtain ⟨o3, eo3, h⟩ := bndS h
  refine ok_fStreet_wholeLuck_L4 eL C b0 hb0 M o3 ?_ FU 0 0 eo3
  refine a_iload_n (pc := 25) C dX5_wholeLuck_25 rfl 0 rfl ?_
  exact a_iret (pc := 26) C E rfl (somI h) rfl dX5_wholeLuck_26
set_option maxHeartbeats 200000 in
set_option maxRecDepth 100000 in
theorem ok_fStreet_luckiest_L4 {X : Amb} (eL : X.nL = 3) (C : Cx X RX5 cX5_luckiest 0) (b0 : Nat) (hb0 : isSt b0) (M : Mem) (o : Int32) (K : WA X M [(1, .int o)] 33 []) : ∀ (n : Nat) (x1 : Int32) (x2 : Int32), fStreet_luckiest_L4 n M b0 x1 x2 = some o → WA X M [(0, .ref (X.N.2.1 b0)), (1, .int x1), (2, .int x2)] 4 [] := by
  intro n
  induction n with
  | zero => intro _ _ h; cases h
  | succ n ih =>
    intro x1 x2 h
    replace h : fStreet_luckiest_L4_F (fStreet_luckiest_L4 n) M b0 x1 x2 = some o := h
    unfold fStreet_luckiest_L4_F at h
    refine a_iload_n (pc := 4) C dX5_luckiest_4 rfl 2 rfl ?_
    refine a_bipush (pc := 5) C 36 dX5_luckiest_5 rfl ?_
    refine a_icmp_ge (pc := 7) C 33 dX5_luckiest_7 rfl (fun c1 => ?_) (fun c1 => ?_)
    · replace h := iteT c1 h
      refine a_sub (lv2 := [(1, .int x1)]) [1] rfl ?_
      cases somI h
      exact K
    · replace h := iteF c1 h
      refine a_aload_n (pc := 10) C dX5_luckiest_10 rfl 0 rfl ?_
      refine gf_5_0 (pc := 11) C hb0 wd_153 dX5_luckiest_11 ?_
      refine a_iload_n (pc := 14) C dX5_luckiest_14 rfl 2 rfl ?_
      obtain ⟨v2, ev2, h⟩ := bndS h
      refine a_iald (pc := 15) C (st_a1 hb0) ev2 dX5_luckiest_15 ?_
      refine a_aload_n (pc := 16) C dX5_luckiest_16 rfl 0 rfl ?_
      refine gf_5_0 (pc := 17) C hb0 wd_153 dX5_luckiest_17 ?_
      refine a_iload_n (pc := 20) C dX5_luckiest_20 rfl 1 rfl ?_
      obtain ⟨v3, ev3, h⟩ := bndS h
      refine a_iald (pc := 21) C (st_a1 hb0) ev3 dX5_luckiest_21 ?_
      refine a_icmp_le (pc := 22) C 27 dX5_luckiest_22 rfl (fun c4 => ?_) (fun c4 => ?_)
      · replace h := iteT c4 h
        refine a_iinc (pc := 27) C 2 (x2 + 1) [(2, .int (x2 + 1)), (0, .ref (X.N.2.1 b0)), (1, .int x1)] dX5_luckiest_27 rfl rfl (nlt eL rfl) rfl ?_
        refine a_goto (pc := 30) C 4 dX5_luckiest_30 rfl ?_
        refine a_sub [1, 2, 0] rfl ?_
        exact ih x1 (x2 + 1) h
      · replace h := iteF c4 h
        refine a_iload_n (pc := 25) C dX5_luckiest_25 rfl 2 rfl ?_
        refine a_istore_n (pc := 26) C [(1, .int x2), (0, .ref (X.N.2.1 b0)), (2, .int x2)] dX5_luckiest_26 rfl (nlt eL rfl) rfl ?_
        refine a_iinc (pc := 27) C 2 (x2 + 1) [(2, .int (x2 + 1)), (1, .int x2), (0, .ref (X.N.2.1 b0))] dX5_luckiest_27 rfl rfl (nlt eL rfl) rfl ?_
        refine a_goto (pc := 30) C 4 dX5_luckiest_30 rfl ?_
        refine a_sub [2, 1, 0] rfl ?_
        exact ih x2 (x2 + 1) h
set_option maxHeartbeats 200000 in
set_option maxRecDepth 100000 in
theorem ok_fStreet_luckiest (l : Launch) (N : Rig) (M : Mem) (b0 : Nat) (hb0 : isSt b0) {r : Int32} (h : fStreet_luckiest M b0 = some r) : Ct l N yX5_luckiest cX5_luckiest 3 (some .int) 0 [.ref (N.2.1 b0)] M (QcI N (some .int) r M) := by
  refine ct_of (by decide) rfl ?_
  intro X el eN eL C E
  subst el
  subst eN
  unfold fStreet_luckiest at h
  show WA X M [(0, .ref (X.N.2.1 b0))] 0 []
  refine a_iconst (pc := 0) C 0 dX5_luckiest_0 rfl ?_
  refine a_istore_n (pc := 1) C [(1, .int 0), (0, .ref (X.N.2.1 b0))] dX5_luckiest_1 rfl (nlt eL rfl) rfl ?_
  refine a_iconst (pc := 2) C 1 dX5_luckiest_2 rfl ?_
  refine a_istore_n (pc := 3) C [(2, .int 1), (1, .int 0), (0, .ref (X.N.2.1 b0))] dX5_luckiest_3 rfl (nlt eL rfl) rfl ?_
  refine a_sub (lv2 := [(0, .ref (X.N.2.1 b0)), (1, .int 0), (2, .int 1)]) [2, 1, 0] rfl ?_
  obtain ⟨o5, eo5, h⟩ := bndS h
  refine ok_fStreet_luckiest_L4 eL C b0 hb0 M o5 ?_ FU 0 1 eo5
  refine a_iload_n (pc := 33) C dX5_luckiest_33 rfl 0 rfl ?_
  exact a_iret (pc := 34) C E rfl (somI h) rfl dX5_luckiest_34
set_option maxHeartbeats 200000 in
set_option maxRecDepth 100000 in
theorem ok_fStreet_luckyCells_L4 {X : Amb} (eL : X.nL = 3) (C : Cx X RX5 cX5_luckyCells 0) (b0 : Nat) (hb0 : isSt b0) (M : Mem) (o : Int32) (K : WA X M [(1, .int o)] 28 []) : ∀ (n : Nat) (x1 : Int32) (x2 : Int32), fStreet_luckyCells_L4 n M b0 x1 x2 = some o → WA X M [(0, .ref (X.N.2.1 b0)), (1, .int x1), (2, .int x2)] 4 [] := by
  intro n
  induction n with
  | zero => intro _ _ h; cases h
  | succ n ih =>
    intro x1 x2 h
    replace h : fStreet_luckyCells_L4_F (fStreet_luckyCells_L4 n) M b0 x1 x2 = some o := h
    unfold fStreet_luckyCells_L4_F at h
    refine a_iload_n (pc := 4) C dX5_luckyCells_4 rfl 2 rfl ?_
    refine a_bipush (pc := 5) C 36 dX5_luckyCells_5 rfl ?_
    refine a_icmp_ge (pc := 7) C 28 dX5_luckyCells_7 rfl (fun c1 => ?_) (fun c1 => ?_)
    · replace h := iteT c1 h
      refine a_sub (lv2 := [(1, .int x1)]) [1] rfl ?_
      cases somI h
      exact K
    · replace h := iteF c1 h
      refine a_aload_n (pc := 10) C dX5_luckyCells_10 rfl 0 rfl ?_
      refine gf_5_0 (pc := 11) C hb0 wd_153 dX5_luckyCells_11 ?_
      refine a_iload_n (pc := 14) C dX5_luckyCells_14 rfl 2 rfl ?_
      obtain ⟨v2, ev2, h⟩ := bndS h
      refine a_iald (pc := 15) C (st_a1 hb0) ev2 dX5_luckyCells_15 ?_
      refine a_if_le (pc := 16) C 22 dX5_luckyCells_16 rfl (fun c3 => ?_) (fun c3 => ?_)
      · replace h := iteT c3 h
        refine a_iinc (pc := 22) C 2 (x2 + 1) [(2, .int (x2 + 1)), (0, .ref (X.N.2.1 b0)), (1, .int x1)] dX5_luckyCells_22 rfl rfl (nlt eL rfl) rfl ?_
        refine a_goto (pc := 25) C 4 dX5_luckyCells_25 rfl ?_
        refine a_sub [1, 2, 0] rfl ?_
        exact ih x1 (x2 + 1) h
      · replace h := iteF c3 h
        refine a_iinc (pc := 19) C 1 (x1 + 1) [(1, .int (x1 + 1)), (0, .ref (X.N.2.1 b0)), (2, .int x2)] dX5_luckyCells_19 rfl rfl (nlt eL rfl) rfl ?_
        refine a_iinc (pc := 22) C 2 (x2 + 1) [(2, .int (x2 + 1)), (1, .int (x1 + 1)), (0, .ref (X.N.2.1 b0))] dX5_luckyCells_22 rfl rfl (nlt eL rfl) rfl ?_
        refine a_goto (pc := 25) C 4 dX5_luckyCells_25 rfl ?_
        refine a_sub [2, 1, 0] rfl ?_
        exact ih (x1 + 1) (x2 + 1) h
set_option maxHeartbeats 200000 in
set_option maxRecDepth 100000 in
theorem ok_fStreet_luckyCells (l : Launch) (N : Rig) (M : Mem) (b0 : Nat) (hb0 : isSt b0) {r : Int32} (h : fStreet_luckyCells M b0 = some r) : Ct l N yX5_luckyCells cX5_luckyCells 3 (some .int) 0 [.ref (N.2.1 b0)] M (QcI N (some .int) r M) := by
  refine ct_of (by decide) rfl ?_
  intro X el eN eL C E
  subst el
  subst eN
  unfold fStreet_luckyCells at h
  show WA X M [(0, .ref (X.N.2.1 b0))] 0 []
  refine a_iconst (pc := 0) C 0 dX5_luckyCells_0 rfl ?_
  refine a_istore_n (pc := 1) C [(1, .int 0), (0, .ref (X.N.2.1 b0))] dX5_luckyCells_1 rfl (nlt eL rfl) rfl ?_
  refine a_iconst (pc := 2) C 0 dX5_luckyCells_2 rfl ?_
  refine a_istore_n (pc := 3) C [(2, .int 0), (1, .int 0), (0, .ref (X.N.2.1 b0))] dX5_luckyCells_3 rfl (nlt eL rfl) rfl ?_
  refine a_sub (lv2 := [(0, .ref (X.N.2.1 b0)), (1, .int 0), (2, .int 0)]) [2, 1, 0] rfl ?_
  obtain ⟨o4, eo4, h⟩ := bndS h
  refine ok_fStreet_luckyCells_L4 eL C b0 hb0 M o4 ?_ FU 0 0 eo4
  refine a_iload_n (pc := 28) C dX5_luckyCells_28 rfl 0 rfl ?_
  exact a_iret (pc := 29) C E rfl (somI h) rfl dX5_luckyCells_29
set_option maxHeartbeats 200000 in
set_option maxRecDepth 100000 in
theorem ok_fStreet_halve_L2 {X : Amb} (eL : X.nL = 4) (C : Cx X RX5 cX5_halve 0) (b0 : Nat) (hb0 : isSt b0) (x1 : Int32) (x2 : Int32) (o : Mem) (K : WA X o [] 33 []) : ∀ (n : Nat) (M : Mem) (x3 : Int32), fStreet_halve_L2 n M b0 x1 x2 x3 = some o → WA X M [(0, .ref (X.N.2.1 b0)), (1, .int x1), (2, .int x2), (3, .int x3)] 2 [] := by
  intro n
  induction n with
  | zero => intro _ _ h; cases h
  | succ n ih =>
    intro M x3 h
    replace h : fStreet_halve_L2_F (fStreet_halve_L2 n) M b0 x1 x2 x3 = some o := h
    unfold fStreet_halve_L2_F at h
    refine a_iload_n (pc := 2) C dX5_halve_2 rfl 3 rfl ?_
    refine a_iload_n (pc := 3) C dX5_halve_3 rfl 1 rfl ?_
    refine a_icmp_ge (pc := 4) C 33 dX5_halve_4 rfl (fun c1 => ?_) (fun c1 => ?_)
    · replace h := iteT c1 h
      refine a_sub (lv2 := []) [] rfl ?_
      cases somI h
      exact K
    · replace h := iteF c1 h
      refine a_aload_n (pc := 7) C dX5_halve_7 rfl 0 rfl ?_
      refine gf_5_2 (pc := 8) C hb0 wd_162 dX5_halve_8 ?_
      refine a_iload_n (pc := 11) C dX5_halve_11 rfl 3 rfl ?_
      obtain ⟨v2, ev2, h⟩ := bndS h
      refine a_iald (pc := 12) C (st_a3 hb0) ev2 dX5_halve_12 ?_
      refine a_iload_n (pc := 13) C dX5_halve_13 rfl 2 rfl ?_
      refine a_icmp_ne (pc := 14) C 27 dX5_halve_14 rfl (fun c3 => ?_) (fun c3 => ?_)
      · replace h := iteT c3 h
        refine a_iinc (pc := 27) C 3 (x3 + 1) [(3, .int (x3 + 1)), (0, .ref (X.N.2.1 b0)), (1, .int x1), (2, .int x2)] dX5_halve_27 rfl rfl (nlt eL rfl) rfl ?_
        refine a_goto (pc := 30) C 2 dX5_halve_30 rfl ?_
        refine a_sub [1, 2, 3, 0] rfl ?_
        exact ih M (x3 + 1) h
      · replace h := iteF c3 h
        refine a_aload_n (pc := 17) C dX5_halve_17 rfl 0 rfl ?_
        refine gf_5_3 (pc := 18) C hb0 wd_167 dX5_halve_18 ?_
        refine a_iload_n (pc := 21) C dX5_halve_21 rfl 3 rfl ?_
        refine a_dup2 (pc := 22) C dX5_halve_22 rfl rfl ?_
        obtain ⟨v4, ev4, h⟩ := bndS h
        refine a_iald (pc := 23) C (st_a4 hb0) ev4 dX5_halve_23 ?_
        refine a_iconst (pc := 24) C 2 dX5_halve_24 rfl ?_
        refine a_idiv (pc := 25) C dX5_halve_25 (by decide) ?_
        obtain ⟨M5, eM5, h⟩ := bndS h
        refine a_iast (pc := 26) C (st_a4 hb0) eM5 dX5_halve_26 ?_
        refine a_iinc (pc := 27) C 3 (x3 + 1) [(3, .int (x3 + 1)), (0, .ref (X.N.2.1 b0)), (1, .int x1), (2, .int x2)] dX5_halve_27 rfl rfl (nlt eL rfl) rfl ?_
        refine a_goto (pc := 30) C 2 dX5_halve_30 rfl ?_
        refine a_sub [1, 2, 3, 0] rfl ?_
        exact ih M5 (x3 + 1) h
set_option maxHeartbeats 200000 in
set_option maxRecDepth 100000 in
theorem ok_fStreet_halve (l : Launch) (N : Rig) (M : Mem) (b0 : Nat) (hb0 : isSt b0) (x1 : Int32) (x2 : Int32) {M0 : Mem} (h : fStreet_halve M b0 x1 x2 = some M0) : Ct l N yX5_halve cX5_halve 4 none 0 [.ref (N.2.1 b0), .int x1, .int x2] M (QcV N M0) := by
  refine ct_of (by decide) rfl ?_
  intro X el eN eL C E
  subst el
  subst eN
  unfold fStreet_halve at h
  show WA X M [(0, .ref (X.N.2.1 b0)), (1, .int x1), (2, .int x2)] 0 []
  refine a_iconst (pc := 0) C 0 dX5_halve_0 rfl ?_
  refine a_istore_n (pc := 1) C [(3, .int 0), (0, .ref (X.N.2.1 b0)), (1, .int x1), (2, .int x2)] dX5_halve_1 rfl (nlt eL rfl) rfl ?_
  refine a_sub (lv2 := [(0, .ref (X.N.2.1 b0)), (1, .int x1), (2, .int x2), (3, .int 0)]) [1, 2, 3, 0] rfl ?_
  obtain ⟨o6, eo6, h⟩ := bndS h
  refine ok_fStreet_halve_L2 eL C b0 hb0 x1 x2 o6 ?_ FU M 0 eo6
  exact a_vret (pc := 33) C E (somI h) dX5_halve_33
set_option maxHeartbeats 200000 in
set_option maxRecDepth 100000 in
theorem ok_fStreet_wealth_L17 {X : Amb} (eL : X.nL = 5) (C : Cx X RX5 cX5_wealth 0) (b0 : Nat) (hb0 : isSt b0) (x2 : Int32) (M : Mem) (o : Int32) (K : WA X M [(3, .int o)] 39 []) : ∀ (n : Nat) (x3 : Int32) (x4 : Int32), fStreet_wealth_L17 n M b0 x2 x3 x4 = some o → WA X M [(0, .ref (X.N.2.1 b0)), (2, .int x2), (3, .int x3), (4, .int x4)] 17 [] := by
  intro n
  induction n with
  | zero => intro _ _ h; cases h
  | succ n ih =>
    intro x3 x4 h
    replace h : fStreet_wealth_L17_F (fStreet_wealth_L17 n) M b0 x2 x3 x4 = some o := h
    unfold fStreet_wealth_L17_F at h
    refine a_iload (pc := 17) C dX5_wealth_17 3 rfl ?_
    refine a_iload_n (pc := 19) C dX5_wealth_19 rfl 1 rfl ?_
    refine a_icmp_ge (pc := 20) C 39 dX5_wealth_20 rfl (fun c2 => ?_) (fun c2 => ?_)
    · replace h := iteT c2 h
      refine a_sub (lv2 := [(3, .int x3)]) [2] rfl ?_
      cases somI h
      exact K
    · replace h := iteF c2 h
      refine a_iload_n (pc := 23) C dX5_wealth_23 rfl 2 rfl ?_
      refine a_aload_n (pc := 24) C dX5_wealth_24 rfl 0 rfl ?_
      refine gf_5_3 (pc := 25) C hb0 wd_167 dX5_wealth_25 ?_
      refine a_iload (pc := 28) C dX5_wealth_28 3 rfl ?_
      obtain ⟨v3, ev3, h⟩ := bndS h
      refine a_iald (pc := 30) C (st_a4 hb0) ev3 dX5_wealth_30 ?_
      refine a_iadd (pc := 31) C dX5_wealth_31 ?_
      refine a_istore_n (pc := 32) C [(3, .int (x3 + v3)), (0, .ref (X.N.2.1 b0)), (2, .int x2), (4, .int x4)] dX5_wealth_32 rfl (nlt eL rfl) rfl ?_
      refine a_iinc (pc := 33) C 3 (x4 + 1) [(4, .int (x4 + 1)), (3, .int (x3 + v3)), (0, .ref (X.N.2.1 b0)), (2, .int x2)] dX5_wealth_33 rfl rfl (nlt eL rfl) rfl ?_
      refine a_goto (pc := 36) C 17 dX5_wealth_36 rfl ?_
      refine a_sub [2, 3, 1, 0] rfl ?_
      exact ih (x3 + v3) (x4 + 1) h
set_option maxHeartbeats 200000 in
set_option maxRecDepth 100000 in
theorem ok_fStreet_wealth (l : Launch) (N : Rig) (M : Mem) (b0 : Nat) (hb0 : isSt b0) (x1 : Int32) (x2 : Int32) {r : Int32} (h : fStreet_wealth M b0 x1 x2 = some r) : Ct l N yX5_wealth cX5_wealth 5 (some .int) 0 [.ref (N.2.1 b0), .int x1, .int x2] M (QcI N (some .int) r M) := by
  refine ct_of (by decide) rfl ?_
  intro X el eN eL C E
  subst el
  subst eN
  unfold fStreet_wealth at h
  show WA X M [(0, .ref (X.N.2.1 b0)), (1, .int x1), (2, .int x2)] 0 []
  refine a_iload_n (pc := 0) C dX5_wealth_0 rfl 1 rfl ?_
  refine a_iconst (pc := 1) C (-1) dX5_wealth_1 rfl ?_
  refine a_icmp_eq (pc := 2) C 12 dX5_wealth_2 rfl (fun c1 => ?_) (fun c1 => ?_)
  · replace h := iteT c1 h
    refine a_iconst (pc := 12) C 0 dX5_wealth_12 rfl ?_
    refine a_istore_n (pc := 13) C [(3, .int 0), (0, .ref (X.N.2.1 b0)), (1, .int x1), (2, .int x2)] dX5_wealth_13 rfl (nlt eL rfl) rfl ?_
    refine a_iconst (pc := 14) C 0 dX5_wealth_14 rfl ?_
    refine a_istore (pc := 15) C [(4, .int 0), (3, .int 0), (0, .ref (X.N.2.1 b0)), (1, .int x1), (2, .int x2)] dX5_wealth_15 (nlt eL rfl) rfl ?_
    refine a_sub (lv2 := [(0, .ref (X.N.2.1 b0)), (2, .int x2), (3, .int 0), (4, .int 0)]) [2, 4, 1, 0] rfl ?_
    obtain ⟨o4, eo4, h⟩ := bndS h
    refine ok_fStreet_wealth_L17 eL C b0 hb0 x2 M o4 ?_ FU 0 0 eo4
    refine a_iload_n (pc := 39) C dX5_wealth_39 rfl 0 rfl ?_
    exact a_iret (pc := 40) C E rfl (somI h) rfl dX5_wealth_40
  · replace h := iteF c1 h
    refine a_aload_n (pc := 5) C dX5_wealth_5 rfl 0 rfl ?_
    refine gf_5_3 (pc := 6) C hb0 wd_167 dX5_wealth_6 ?_
    refine a_iload_n (pc := 9) C dX5_wealth_9 rfl 1 rfl ?_
    obtain ⟨v5, ev5, h⟩ := bndS h
    refine a_iald (pc := 10) C (st_a4 hb0) ev5 dX5_wealth_10 ?_
    exact a_iret (pc := 11) C E rfl (somI h) rfl dX5_wealth_11
set_option maxHeartbeats 200000 in
set_option maxRecDepth 100000 in
theorem ok_fThought_begin (l : Launch) (N : Rig) (M : Mem) {M0 : Mem} (h : fThought_begin M = some M0) : Ct l N yX6_begin cX6_begin 2 none 2 [.ref (N.2.1 12), .ref (N.2.1 1)] M (QcV N M0) := by
  refine ct_of (by decide) rfl ?_
  intro X el eN eL C E
  subst el
  subst eN
  unfold fThought_begin at h
  show WA X M [(0, .ref (X.N.2.1 12)), (1, .ref (X.N.2.1 1))] 0 []
  refine a_aload_n (pc := 0) C dX6_begin_0 rfl 0 rfl ?_
  refine gf_6_0 (pc := 1) C wd_277 dX6_begin_1 ?_
  refine a_aload_n (pc := 4) C dX6_begin_4 rfl 1 rfl ?_
  refine gf_9_1 (pc := 5) C wd_255 dX6_begin_5 ?_
  refine a_aload_n (pc := 8) C dX6_begin_8 rfl 1 rfl ?_
  refine gf_9_0 (pc := 9) C wd_251 dX6_begin_9 ?_
  refine gf_7_4 (pc := 12) C wd_131 dX6_begin_12 ?_
  obtain ⟨q1, eq1, h⟩ := bndS h
  refine a_callVV (pc := 15) C [.ref (X.N.2.1 36), .int (M.1 2 4)] (ok_fStreet_become X.l X.N M 42 36 st42 st36 (M.1 2 4) eq1) rfl mw_X5_become wd_669 (st_shp st42) (st_blt st42) rfl rfl rfl rfl rfl dX6_begin_15 ?_
  exact a_vret (pc := 18) C E (somI h) dX6_begin_18
set_option maxHeartbeats 200000 in
set_option maxRecDepth 100000 in
theorem ok_fThought_spend_L2 {X : Amb} (eL : X.nL = 4) (C : Cx X RX6 cX6_spend 4) (x2 : Int32) (o : Mem) (K : WA X o [] 28 []) : ∀ (n : Nat) (M : Mem) (x3 : Int32), fThought_spend_L2 n M x2 x3 = some o → WA X M [(0, .ref (X.N.2.1 12)), (1, .ref (X.N.2.1 1)), (2, .int x2), (3, .int x3)] 2 [] := by
  intro n
  induction n with
  | zero => intro _ _ h; cases h
  | succ n ih =>
    intro M x3 h
    replace h : fThought_spend_L2_F (fThought_spend_L2 n) M x2 x3 = some o := h
    unfold fThought_spend_L2_F at h
    refine a_iload_n (pc := 2) C dX6_spend_2 rfl 3 rfl ?_
    refine a_iload_n (pc := 3) C dX6_spend_3 rfl 2 rfl ?_
    refine a_icmp_ge (pc := 4) C 28 dX6_spend_4 rfl (fun c1 => ?_) (fun c1 => ?_)
    · replace h := iteT c1 h
      refine a_sub (lv2 := []) [] rfl ?_
      cases somI h
      exact K
    · replace h := iteF c1 h
      refine a_aload_n (pc := 7) C dX6_spend_7 rfl 0 rfl ?_
      refine gf_6_0 (pc := 8) C wd_277 dX6_spend_8 ?_
      refine a_aload_n (pc := 11) C dX6_spend_11 rfl 1 rfl ?_
      refine gf_9_0 (pc := 12) C wd_251 dX6_spend_12 ?_
      refine a_aload_n (pc := 15) C dX6_spend_15 rfl 1 rfl ?_
      refine gf_9_2 (pc := 16) C wd_259 dX6_spend_16 ?_
      obtain ⟨q2, eq2, h⟩ := bndS h
      refine a_callVV (pc := 19) C [.ref (X.N.2.1 2), .ref (X.N.2.1 7)] (ok_fStreet_pass X.l X.N M 42 st42 eq2) rfl mw_X5_pass wd_678 (st_shp st42) (st_blt st42) rfl rfl rfl rfl rfl dX6_spend_19 ?_
      refine a_iinc (pc := 22) C 3 (x3 + 1) [(3, .int (x3 + 1)), (0, .ref (X.N.2.1 12)), (1, .ref (X.N.2.1 1)), (2, .int x2)] dX6_spend_22 rfl rfl (nlt eL rfl) rfl ?_
      refine a_goto (pc := 25) C 2 dX6_spend_25 rfl ?_
      refine a_sub [1, 2, 3, 0] rfl ?_
      exact ih q2 (x3 + 1) h
set_option maxHeartbeats 200000 in
set_option maxRecDepth 100000 in
theorem ok_fThought_spend (l : Launch) (N : Rig) (M : Mem) (x2 : Int32) {M0 : Mem} (h : fThought_spend M x2 = some M0) : Ct l N yX6_spend cX6_spend 4 none 4 [.ref (N.2.1 12), .ref (N.2.1 1), .int x2] M (QcV N M0) := by
  refine ct_of (by decide) rfl ?_
  intro X el eN eL C E
  subst el
  subst eN
  unfold fThought_spend at h
  show WA X M [(0, .ref (X.N.2.1 12)), (1, .ref (X.N.2.1 1)), (2, .int x2)] 0 []
  refine a_iconst (pc := 0) C 0 dX6_spend_0 rfl ?_
  refine a_istore_n (pc := 1) C [(3, .int 0), (0, .ref (X.N.2.1 12)), (1, .ref (X.N.2.1 1)), (2, .int x2)] dX6_spend_1 rfl (nlt eL rfl) rfl ?_
  refine a_sub (lv2 := [(0, .ref (X.N.2.1 12)), (1, .ref (X.N.2.1 1)), (2, .int x2), (3, .int 0)]) [1, 2, 3, 0] rfl ?_
  obtain ⟨o3, eo3, h⟩ := bndS h
  refine ok_fThought_spend_L2 eL C x2 o3 ?_ FU M 0 eo3
  exact a_vret (pc := 28) C E (somI h) dX6_spend_28
set_option maxHeartbeats 200000 in
set_option maxRecDepth 100000 in
theorem ok_fThought_behind (l : Launch) (N : Rig) (M : Mem) (x2 : Int32) {M0 : Mem} (h : fThought_behind M x2 = some M0) : Ct l N yX6_behind cX6_behind 3 (some (.object "LuckShoes$Street")) 5 [.ref (N.2.1 12), .ref (N.2.1 1), .int x2] M (QcR N 42 M0) := by
  refine ct_of (by decide) rfl ?_
  intro X el eN eL C E
  subst el
  subst eN
  unfold fThought_behind at h
  show WA X M [(0, .ref (X.N.2.1 12)), (1, .ref (X.N.2.1 1)), (2, .int x2)] 0 []
  refine a_aload_n (pc := 0) C dX6_behind_0 rfl 0 rfl ?_
  refine a_aload_n (pc := 1) C dX6_behind_1 rfl 1 rfl ?_
  obtain ⟨q1, eq1, h⟩ := bndS h
  refine a_callVV (pc := 2) C [.ref (X.N.2.1 1)] (ok_fThought_begin X.l X.N M eq1) rfl mw_X6_begin wd_665 rfl rfl rfl rfl rfl rfl rfl dX6_behind_2 ?_
  refine a_aload_n (pc := 5) C dX6_behind_5 rfl 0 rfl ?_
  refine a_aload_n (pc := 6) C dX6_behind_6 rfl 1 rfl ?_
  refine a_iload_n (pc := 7) C dX6_behind_7 rfl 2 rfl ?_
  obtain ⟨q2, eq2, h⟩ := bndS h
  refine a_callVV (pc := 8) C [.ref (X.N.2.1 1), .int x2] (ok_fThought_spend X.l X.N q1 x2 eq2) rfl mw_X6_spend wd_674 rfl rfl rfl rfl rfl rfl rfl dX6_behind_8 ?_
  refine a_aload_n (pc := 11) C dX6_behind_11 rfl 0 rfl ?_
  refine gf_6_0 (pc := 12) C wd_277 dX6_behind_12 ?_
  exact a_aret (pc := 15) C E (somI h) dX6_behind_15
set_option maxHeartbeats 200000 in
set_option maxRecDepth 100000 in
theorem ok_fThought_whenStill_L7 {X : Amb} (eL : X.nL = 3) (C : Cx X RX6 cX6_whenStill 4) (r : Int32) (M0 : Mem) (E : En X (some .int) (QcI X.N (some .int) r M0)) : ∀ (n : Nat) (M : Mem) (x2 : Int32), fThought_whenStill_L7 n M x2 = some (r, M0) → WA X M [(0, .ref (X.N.2.1 12)), (1, .ref (X.N.2.1 1)), (2, .int x2)] 7 [] := by
  intro n
  induction n with
  | zero => intro _ _ h; cases h
  | succ n ih =>
    intro M x2 h
    replace h : fThought_whenStill_L7_F (fThought_whenStill_L7 n) M x2 = some (r, M0) := h
    unfold fThought_whenStill_L7_F at h
    refine a_iload_n (pc := 7) C dX6_whenStill_7 rfl 2 rfl ?_
    refine a_bipush (pc := 8) C 48 dX6_whenStill_8 rfl ?_
    refine a_icmp_gt (pc := 10) C 46 dX6_whenStill_10 rfl (fun c2 => ?_) (fun c2 => ?_)
    · replace h := iteT c2 h
      refine a_bipush (pc := 46) C (-2) dX6_whenStill_46 rfl ?_
      exact a_iret (pc := 48) C E rfl (som1 h) (som2 h) dX6_whenStill_48
    · replace h := iteF c2 h
      refine a_aload_n (pc := 13) C dX6_whenStill_13 rfl 0 rfl ?_
      refine gf_6_0 (pc := 14) C wd_277 dX6_whenStill_14 ?_
      refine a_aload_n (pc := 17) C dX6_whenStill_17 rfl 1 rfl ?_
      refine gf_9_0 (pc := 18) C wd_251 dX6_whenStill_18 ?_
      refine a_aload_n (pc := 21) C dX6_whenStill_21 rfl 1 rfl ?_
      refine gf_9_2 (pc := 22) C wd_259 dX6_whenStill_22 ?_
      obtain ⟨q3, eq3, h⟩ := bndS h
      refine a_callVV (pc := 25) C [.ref (X.N.2.1 2), .ref (X.N.2.1 7)] (ok_fStreet_pass X.l X.N M 42 st42 eq3) rfl mw_X5_pass wd_678 (st_shp st42) (st_blt st42) rfl rfl rfl rfl rfl dX6_whenStill_25 ?_
      refine a_aload_n (pc := 28) C dX6_whenStill_28 rfl 0 rfl ?_
      refine gf_6_0 (pc := 29) C wd_277 dX6_whenStill_29 ?_
      refine gf_5_7 (pc := 32) C st42 wd_179 dX6_whenStill_32 ?_
      refine a_if_ne (pc := 35) C 40 dX6_whenStill_35 rfl (fun c4 => ?_) (fun c4 => ?_)
      · replace h := iteT c4 h
        refine a_iinc (pc := 40) C 2 (x2 + 1) [(2, .int (x2 + 1)), (0, .ref (X.N.2.1 12)), (1, .ref (X.N.2.1 1))] dX6_whenStill_40 rfl rfl (nlt eL rfl) rfl ?_
        refine a_goto (pc := 43) C 7 dX6_whenStill_43 rfl ?_
        refine a_sub [1, 2, 0] rfl ?_
        exact ih q3 (x2 + 1) h
      · replace h := iteF c4 h
        refine a_iload_n (pc := 38) C dX6_whenStill_38 rfl 2 rfl ?_
        exact a_iret (pc := 39) C E rfl (som1 h) (som2 h) dX6_whenStill_39
set_option maxHeartbeats 200000 in
set_option maxRecDepth 100000 in
theorem ok_fThought_whenStill (l : Launch) (N : Rig) (M : Mem) {r : Int32} {M0 : Mem} (h : fThought_whenStill M = some (r, M0)) : Ct l N yX6_whenStill cX6_whenStill 3 (some .int) 4 [.ref (N.2.1 12), .ref (N.2.1 1)] M (QcI N (some .int) r M0) := by
  refine ct_of (by decide) rfl ?_
  intro X el eN eL C E
  subst el
  subst eN
  unfold fThought_whenStill at h
  show WA X M [(0, .ref (X.N.2.1 12)), (1, .ref (X.N.2.1 1))] 0 []
  refine a_aload_n (pc := 0) C dX6_whenStill_0 rfl 0 rfl ?_
  refine a_aload_n (pc := 1) C dX6_whenStill_1 rfl 1 rfl ?_
  obtain ⟨q1, eq1, h⟩ := bndS h
  refine a_callVV (pc := 2) C [.ref (X.N.2.1 1)] (ok_fThought_begin X.l X.N M eq1) rfl mw_X6_begin wd_665 rfl rfl rfl rfl rfl rfl rfl dX6_whenStill_2 ?_
  refine a_iconst (pc := 5) C 0 dX6_whenStill_5 rfl ?_
  refine a_istore_n (pc := 6) C [(2, .int 0), (0, .ref (X.N.2.1 12)), (1, .ref (X.N.2.1 1))] dX6_whenStill_6 rfl (nlt eL rfl) rfl ?_
  refine a_sub (lv2 := [(0, .ref (X.N.2.1 12)), (1, .ref (X.N.2.1 1)), (2, .int 0)]) [1, 2, 0] rfl ?_
  exact ok_fThought_whenStill_L7 eL C r M0 E FU q1 0 h
set_option maxHeartbeats 200000 in
set_option maxRecDepth 100000 in
theorem ok_fThought_whenRich_L8 {X : Amb} (eL : X.nL = 5) (C : Cx X RX6 cX6_whenRich 4) (x2 : Int32) (x3 : Int32) (r : Int32) (M0 : Mem) (E : En X (some .int) (QcI X.N (some .int) r M0)) : ∀ (n : Nat) (M : Mem) (x4 : Int32), fThought_whenRich_L8 n M x2 x3 x4 = some (r, M0) → WA X M [(0, .ref (X.N.2.1 12)), (1, .ref (X.N.2.1 1)), (2, .int x2), (3, .int x3), (4, .int x4)] 8 [] := by
  intro n
  induction n with
  | zero => intro _ _ h; cases h
  | succ n ih =>
    intro M x4 h
    replace h : fThought_whenRich_L8_F (fThought_whenRich_L8 n) M x2 x3 x4 = some (r, M0) := h
    unfold fThought_whenRich_L8_F at h
    refine a_iload (pc := 8) C dX6_whenRich_8 4 rfl ?_
    refine a_bipush (pc := 10) C 48 dX6_whenRich_10 rfl ?_
    refine a_icmp_ge (pc := 12) C 52 dX6_whenRich_12 rfl (fun c2 => ?_) (fun c2 => ?_)
    · replace h := iteT c2 h
      refine a_aload_n (pc := 52) C dX6_whenRich_52 rfl 0 rfl ?_
      refine gf_6_0 (pc := 53) C wd_277 dX6_whenRich_53 ?_
      refine gf_5_3 (pc := 56) C st42 wd_169 dX6_whenRich_56 ?_
      refine a_iload_n (pc := 59) C dX6_whenRich_59 rfl 2 rfl ?_
      obtain ⟨v3, ev3, h⟩ := bndS h
      refine a_iald (pc := 60) C (st_a4 st42) ev3 dX6_whenRich_60 ?_
      refine a_iload_n (pc := 61) C dX6_whenRich_61 rfl 3 rfl ?_
      refine a_icmp_lt (pc := 62) C 70 dX6_whenRich_62 rfl (fun c4 => ?_) (fun c4 => ?_)
      · replace h := iteT c4 h
        refine a_bipush (pc := 70) C (-2) dX6_whenRich_70 rfl ?_
        exact a_iret (pc := 72) C E rfl (som1 h) (som2 h) dX6_whenRich_72
      · replace h := iteF c4 h
        refine a_bipush (pc := 65) C 48 dX6_whenRich_65 rfl ?_
        refine a_goto (pc := 67) C 72 dX6_whenRich_67 rfl ?_
        exact a_iret (pc := 72) C E rfl (som1 h) (som2 h) dX6_whenRich_72
    · replace h := iteF c2 h
      refine a_aload_n (pc := 15) C dX6_whenRich_15 rfl 0 rfl ?_
      refine gf_6_0 (pc := 16) C wd_277 dX6_whenRich_16 ?_
      refine gf_5_3 (pc := 19) C st42 wd_169 dX6_whenRich_19 ?_
      refine a_iload_n (pc := 22) C dX6_whenRich_22 rfl 2 rfl ?_
      obtain ⟨v5, ev5, h⟩ := bndS h
      refine a_iald (pc := 23) C (st_a4 st42) ev5 dX6_whenRich_23 ?_
      refine a_iload_n (pc := 24) C dX6_whenRich_24 rfl 3 rfl ?_
      refine a_icmp_lt (pc := 25) C 31 dX6_whenRich_25 rfl (fun c6 => ?_) (fun c6 => ?_)
      · replace h := iteT c6 h
        refine a_aload_n (pc := 31) C dX6_whenRich_31 rfl 0 rfl ?_
        refine gf_6_0 (pc := 32) C wd_277 dX6_whenRich_32 ?_
        refine a_aload_n (pc := 35) C dX6_whenRich_35 rfl 1 rfl ?_
        refine gf_9_0 (pc := 36) C wd_251 dX6_whenRich_36 ?_
        refine a_aload_n (pc := 39) C dX6_whenRich_39 rfl 1 rfl ?_
        refine gf_9_2 (pc := 40) C wd_259 dX6_whenRich_40 ?_
        obtain ⟨q7, eq7, h⟩ := bndS h
        refine a_callVV (pc := 43) C [.ref (X.N.2.1 2), .ref (X.N.2.1 7)] (ok_fStreet_pass X.l X.N M 42 st42 eq7) rfl mw_X5_pass wd_678 (st_shp st42) (st_blt st42) rfl rfl rfl rfl rfl dX6_whenRich_43 ?_
        refine a_iinc (pc := 46) C 4 (x4 + 1) [(4, .int (x4 + 1)), (0, .ref (X.N.2.1 12)), (1, .ref (X.N.2.1 1)), (2, .int x2), (3, .int x3)] dX6_whenRich_46 rfl rfl (nlt eL rfl) rfl ?_
        refine a_goto (pc := 49) C 8 dX6_whenRich_49 rfl ?_
        refine a_sub [1, 2, 3, 4, 0] rfl ?_
        exact ih q7 (x4 + 1) h
      · replace h := iteF c6 h
        refine a_iload (pc := 28) C dX6_whenRich_28 4 rfl ?_
        exact a_iret (pc := 30) C E rfl (som1 h) (som2 h) dX6_whenRich_30
set_option maxHeartbeats 200000 in
set_option maxRecDepth 100000 in
theorem ok_fThought_whenRich (l : Launch) (N : Rig) (M : Mem) (x2 : Int32) (x3 : Int32) {r : Int32} {M0 : Mem} (h : fThought_whenRich M x2 x3 = some (r, M0)) : Ct l N yX6_whenRich cX6_whenRich 5 (some .int) 4 [.ref (N.2.1 12), .ref (N.2.1 1), .int x2, .int x3] M (QcI N (some .int) r M0) := by
  refine ct_of (by decide) rfl ?_
  intro X el eN eL C E
  subst el
  subst eN
  unfold fThought_whenRich at h
  show WA X M [(0, .ref (X.N.2.1 12)), (1, .ref (X.N.2.1 1)), (2, .int x2), (3, .int x3)] 0 []
  refine a_aload_n (pc := 0) C dX6_whenRich_0 rfl 0 rfl ?_
  refine a_aload_n (pc := 1) C dX6_whenRich_1 rfl 1 rfl ?_
  obtain ⟨q1, eq1, h⟩ := bndS h
  refine a_callVV (pc := 2) C [.ref (X.N.2.1 1)] (ok_fThought_begin X.l X.N M eq1) rfl mw_X6_begin wd_665 rfl rfl rfl rfl rfl rfl rfl dX6_whenRich_2 ?_
  refine a_iconst (pc := 5) C 0 dX6_whenRich_5 rfl ?_
  refine a_istore (pc := 6) C [(4, .int 0), (0, .ref (X.N.2.1 12)), (1, .ref (X.N.2.1 1)), (2, .int x2), (3, .int x3)] dX6_whenRich_6 (nlt eL rfl) rfl ?_
  refine a_sub (lv2 := [(0, .ref (X.N.2.1 12)), (1, .ref (X.N.2.1 1)), (2, .int x2), (3, .int x3), (4, .int 0)]) [1, 2, 3, 4, 0] rfl ?_
  exact ok_fThought_whenRich_L8 eL C x2 x3 r M0 E FU q1 0 h
set_option maxHeartbeats 200000 in
set_option maxRecDepth 100000 in
theorem ok_fThought_luckOrHas (l : Launch) (N : Rig) (M : Mem) (x1 : Int32) {r : Int32} (h : fThought_luckOrHas M x1 = some r) : Ct l N yX6_luckOrHas cX6_luckOrHas 2 (some .int) 1 [.ref (N.2.1 12), .int x1] M (QcI N (some .int) r M) := by
  refine ct_of (by decide) rfl ?_
  intro X el eN eL C E
  subst el
  subst eN
  unfold fThought_luckOrHas at h
  show WA X M [(0, .ref (X.N.2.1 12)), (1, .int x1)] 0 []
  refine a_iload_n (pc := 0) C dX6_luckOrHas_0 rfl 1 rfl ?_
  refine a_iconst (pc := 1) C (-1) dX6_luckOrHas_1 rfl ?_
  refine a_icmp_ne (pc := 2) C 15 dX6_luckOrHas_2 rfl (fun c1 => ?_) (fun c1 => ?_)
  · replace h := iteT c1 h
    refine a_aload_n (pc := 15) C dX6_luckOrHas_15 rfl 0 rfl ?_
    refine gf_6_0 (pc := 16) C wd_277 dX6_luckOrHas_16 ?_
    refine gf_5_3 (pc := 19) C st42 wd_169 dX6_luckOrHas_19 ?_
    refine a_iload_n (pc := 22) C dX6_luckOrHas_22 rfl 1 rfl ?_
    obtain ⟨v2, ev2, h⟩ := bndS h
    refine a_iald (pc := 23) C (st_a4 st42) ev2 dX6_luckOrHas_23 ?_
    exact a_iret (pc := 24) C E rfl (somI h) rfl dX6_luckOrHas_24
  · replace h := iteF c1 h
    refine a_aload_n (pc := 5) C dX6_luckOrHas_5 rfl 0 rfl ?_
    refine gf_6_0 (pc := 6) C wd_277 dX6_luckOrHas_6 ?_
    obtain ⟨v3, ev3, h⟩ := bndS h
    refine a_callVI (pc := 9) C [] (ok_fStreet_wholeLuck X.l X.N M 42 st42 ev3) rfl mw_X5_wholeLuck wd_764 (st_shp st42) (st_blt st42) rfl rfl rfl rfl rfl dX6_luckOrHas_9 (fun z4 => ?_)
    refine a_goto (pc := 12) C 24 dX6_luckOrHas_12 rfl ?_
    exact a_iret (pc := 24) C E rfl (somI h) rfl dX6_luckOrHas_24
set_option maxHeartbeats 200000 in
set_option maxRecDepth 100000 in
theorem ok_fThought_more (l : Launch) (N : Rig) (M : Mem) (x2 : Int32) (x3 : Int32) (x4 : Int32) (x5 : Int32) {r : Int32} {M0 : Mem} (h : fThought_more M x2 x3 x4 x5 = some (r, M0)) : Ct l N yX6_more cX6_more 7 (some .int) 6 [.ref (N.2.1 12), .ref (N.2.1 1), .int x2, .int x3, .int x4, .int x5] M (QcI N (some .int) r M0) := by
  refine ct_of (by decide) rfl ?_
  intro X el eN eL C E
  subst el
  subst eN
  unfold fThought_more at h
  show WA X M [(0, .ref (X.N.2.1 12)), (1, .ref (X.N.2.1 1)), (2, .int x2), (3, .int x3), (4, .int x4), (5, .int x5)] 0 []
  refine a_aload_n (pc := 0) C dX6_more_0 rfl 0 rfl ?_
  refine a_aload_n (pc := 1) C dX6_more_1 rfl 1 rfl ?_
  refine a_iload_n (pc := 2) C dX6_more_2 rfl 3 rfl ?_
  obtain ⟨q1, eq1, h⟩ := bndS h
  refine a_callVR (pc := 3) C [.ref (X.N.2.1 1), .int x3] (ok_fThought_behind X.l X.N M x3 eq1) rfl mw_X6_behind wd_759 rfl rfl rfl rfl rfl rfl rfl dX6_more_3 ?_
  refine a_pop (pc := 6) C dX6_more_6 rfl ?_
  refine a_aload_n (pc := 7) C dX6_more_7 rfl 0 rfl ?_
  refine a_iload (pc := 8) C dX6_more_8 5 rfl ?_
  obtain ⟨v2, ev2, h⟩ := bndS h
  refine a_callVI (pc := 10) C [.int x5] (ok_fThought_luckOrHas X.l X.N q1 x5 ev2) rfl mw_X6_luckOrHas wd_760 rfl rfl rfl rfl rfl rfl rfl dX6_more_10 (fun z3 => ?_)
  refine a_istore (pc := 13) C [(6, .int v2), (0, .ref (X.N.2.1 12)), (1, .ref (X.N.2.1 1)), (2, .int x2), (3, .int x3), (4, .int x4), (5, .int x5)] dX6_more_13 (nlt eL rfl) rfl ?_
  refine a_aload_n (pc := 15) C dX6_more_15 rfl 1 rfl ?_
  refine a_aload_n (pc := 16) C dX6_more_16 rfl 2 rfl ?_
  obtain ⟨q4, eq4, h⟩ := bndS h
  refine a_callVV (pc := 17) C [.ref (X.N.2.1 1)] (ok_fThought_begin X.l X.N q1 eq4) rfl mw_X6_begin wd_665 rfl rfl rfl rfl rfl rfl rfl dX6_more_17 ?_
  refine a_aload_n (pc := 20) C dX6_more_20 rfl 1 rfl ?_
  refine gf_6_0 (pc := 21) C wd_277 dX6_more_21 ?_
  refine a_iload_n (pc := 24) C dX6_more_24 rfl 3 rfl ?_
  refine a_iload (pc := 25) C dX6_more_25 5 rfl ?_
  obtain ⟨q5, eq5, h⟩ := bndS h
  refine a_callVI (pc := 27) C [.int x2, .int x4] (ok_fStreet_poured X.l X.N q4 42 st42 x2 x4 eq5) rfl mw_X5_poured wd_765 (st_shp st42) (st_blt st42) rfl rfl rfl rfl rfl dX6_more_27 (fun z6 => ?_)
  refine a_pop (pc := 30) C dX6_more_30 rfl ?_
  refine a_aload_n (pc := 31) C dX6_more_31 rfl 1 rfl ?_
  refine a_aload_n (pc := 32) C dX6_more_32 rfl 2 rfl ?_
  refine a_iload_n (pc := 33) C dX6_more_33 rfl 4 rfl ?_
  obtain ⟨q7, eq7, h⟩ := bndS h
  refine a_callVV (pc := 34) C [.ref (X.N.2.1 1), .int x3] (ok_fThought_spend X.l X.N q5.2 x3 eq7) rfl mw_X6_spend wd_674 rfl rfl rfl rfl rfl rfl rfl dX6_more_34 ?_
  refine a_aload_n (pc := 37) C dX6_more_37 rfl 1 rfl ?_
  refine a_iload (pc := 38) C dX6_more_38 6 rfl ?_
  obtain ⟨v8, ev8, h⟩ := bndS h
  refine a_callVI (pc := 40) C [.int x5] (ok_fThought_luckOrHas X.l X.N q7 x5 ev8) rfl mw_X6_luckOrHas wd_760 rfl rfl rfl rfl rfl rfl rfl dX6_more_40 (fun z9 => ?_)
  refine a_iload (pc := 43) C dX6_more_43 0 rfl ?_
  refine a_isub (pc := 45) C dX6_more_45 ?_
  exact a_iret (pc := 46) C E rfl (som1 h) (som2 h) dX6_more_46
set_option maxHeartbeats 200000 in
set_option maxRecDepth 100000 in
theorem ok_fThought_hasBy_J35 {X : Amb} (eL : X.nL = 6) (C : Cx X RX6 cX6_hasBy 5) (r : Int32) (M0 : Mem) (E : En X (some .int) (QcI X.N (some .int) r M0)) (M : Mem) (x4 : Int32) (x5 : Int32) (h : fThought_hasBy_J35 M x4 x5 = some (r, M0)) : WA X M [(0, .ref (X.N.2.1 12)), (1, .ref (X.N.2.1 1)), (4, .int x4), (5, .int x5)] 35 [] := by
  unfold fThought_hasBy_J35 at h
  refine a_aload_n (pc := 35) C dX6_hasBy_35 rfl 0 rfl ?_
  refine a_aload_n (pc := 36) C dX6_hasBy_36 rfl 1 rfl ?_
  refine a_iload (pc := 37) C dX6_hasBy_37 3 rfl ?_
  obtain ⟨q4, eq4, h⟩ := bndS h
  refine a_callVV (pc := 39) C [.ref (X.N.2.1 1), .int x5] (ok_fThought_spend X.l X.N M x5 eq4) rfl mw_X6_spend wd_674 rfl rfl rfl rfl rfl rfl rfl dX6_hasBy_39 ?_
  refine a_aload_n (pc := 42) C dX6_hasBy_42 rfl 0 rfl ?_
  refine gf_6_0 (pc := 43) C wd_277 dX6_hasBy_43 ?_
  refine gf_5_3 (pc := 46) C st42 wd_169 dX6_hasBy_46 ?_
  refine a_iload (pc := 49) C dX6_hasBy_49 2 rfl ?_
  obtain ⟨v5, ev5, h⟩ := bndS h
  refine a_iald (pc := 51) C (st_a4 st42) ev5 dX6_hasBy_51 ?_
  exact a_iret (pc := 52) C E rfl (som1 h) (som2 h) dX6_hasBy_52
set_option maxHeartbeats 200000 in
set_option maxRecDepth 100000 in
theorem ok_fThought_hasBy_J20 {X : Amb} (eL : X.nL = 6) (C : Cx X RX6 cX6_hasBy 5) (r : Int32) (M0 : Mem) (E : En X (some .int) (QcI X.N (some .int) r M0)) (M : Mem) (x3 : Int32) (x4 : Int32) (x5 : Int32) (h : fThought_hasBy_J20 M x3 x4 x5 = some (r, M0)) : WA X M [(0, .ref (X.N.2.1 12)), (1, .ref (X.N.2.1 1)), (3, .int x3), (4, .int x4), (5, .int x5)] 20 [] := by
  unfold fThought_hasBy_J20 at h
  refine a_iload_n (pc := 20) C dX6_hasBy_20 rfl 2 rfl ?_
  refine a_iconst (pc := 21) C (-1) dX6_hasBy_21 rfl ?_
  refine a_icmp_eq (pc := 22) C 35 dX6_hasBy_22 rfl (fun c3 => ?_) (fun c3 => ?_)
  · replace h := iteT c3 h
    refine a_sub (lv2 := [(0, .ref (X.N.2.1 12)), (1, .ref (X.N.2.1 1)), (4, .int x4), (5, .int x5)]) [0, 1, 3, 4] rfl ?_
    exact ok_fThought_hasBy_J35 eL C r M0 E M x4 x5 h
  · replace h := iteF c3 h
    refine a_aload_n (pc := 25) C dX6_hasBy_25 rfl 0 rfl ?_
    refine gf_6_0 (pc := 26) C wd_277 dX6_hasBy_26 ?_
    refine gf_5_1 (pc := 29) C st42 wd_160 dX6_hasBy_29 ?_
    refine a_iload_n (pc := 32) C dX6_hasBy_32 rfl 2 rfl ?_
    refine a_iconst (pc := 33) C 1 dX6_hasBy_33 rfl ?_
    obtain ⟨M6, eM6, h⟩ := bndS h
    refine a_iast (pc := 34) C (st_a2 st42) eM6 dX6_hasBy_34 ?_
    refine a_sub (lv2 := [(0, .ref (X.N.2.1 12)), (1, .ref (X.N.2.1 1)), (4, .int x4), (5, .int x5)]) [0, 1, 3, 4] rfl ?_
    exact ok_fThought_hasBy_J35 eL C r M0 E M6 x4 x5 h
set_option maxHeartbeats 200000 in
set_option maxRecDepth 100000 in
theorem ok_fThought_hasBy (l : Launch) (N : Rig) (M : Mem) (x2 : Int32) (x3 : Int32) (x4 : Int32) (x5 : Int32) {r : Int32} {M0 : Mem} (h : fThought_hasBy M x2 x3 x4 x5 = some (r, M0)) : Ct l N yX6_hasBy cX6_hasBy 6 (some .int) 5 [.ref (N.2.1 12), .ref (N.2.1 1), .int x2, .int x3, .int x4, .int x5] M (QcI N (some .int) r M0) := by
  refine ct_of (by decide) rfl ?_
  intro X el eN eL C E
  subst el
  subst eN
  unfold fThought_hasBy at h
  show WA X M [(0, .ref (X.N.2.1 12)), (1, .ref (X.N.2.1 1)), (2, .int x2), (3, .int x3), (4, .int x4), (5, .int x5)] 0 []
  refine a_aload_n (pc := 0) C dX6_hasBy_0 rfl 0 rfl ?_
  refine a_aload_n (pc := 1) C dX6_hasBy_1 rfl 1 rfl ?_
  obtain ⟨q1, eq1, h⟩ := bndS h
  refine a_callVV (pc := 2) C [.ref (X.N.2.1 1)] (ok_fThought_begin X.l X.N M eq1) rfl mw_X6_begin wd_665 rfl rfl rfl rfl rfl rfl rfl dX6_hasBy_2 ?_
  refine a_iload_n (pc := 5) C dX6_hasBy_5 rfl 2 rfl ?_
  refine a_iconst (pc := 6) C (-1) dX6_hasBy_6 rfl ?_
  refine a_icmp_eq (pc := 7) C 20 dX6_hasBy_7 rfl (fun c2 => ?_) (fun c2 => ?_)
  · replace h := iteT c2 h
    refine a_sub (lv2 := [(0, .ref (X.N.2.1 12)), (1, .ref (X.N.2.1 1)), (3, .int x3), (4, .int x4), (5, .int x5)]) [0, 1, 3, 4, 5] rfl ?_
    exact ok_fThought_hasBy_J20 eL C r M0 E q1 x3 x4 x5 h
  · replace h := iteF c2 h
    refine a_aload_n (pc := 10) C dX6_hasBy_10 rfl 0 rfl ?_
    refine gf_6_0 (pc := 11) C wd_277 dX6_hasBy_11 ?_
    refine gf_5_1 (pc := 14) C st42 wd_160 dX6_hasBy_14 ?_
    refine a_iload_n (pc := 17) C dX6_hasBy_17 rfl 2 rfl ?_
    refine a_iconst (pc := 18) C 1 dX6_hasBy_18 rfl ?_
    obtain ⟨M7, eM7, h⟩ := bndS h
    refine a_iast (pc := 19) C (st_a2 st42) eM7 dX6_hasBy_19 ?_
    refine a_sub (lv2 := [(0, .ref (X.N.2.1 12)), (1, .ref (X.N.2.1 1)), (3, .int x3), (4, .int x4), (5, .int x5)]) [0, 1, 3, 4, 5] rfl ?_
    exact ok_fThought_hasBy_J20 eL C r M0 E M7 x3 x4 x5 h
set_option maxHeartbeats 200000 in
set_option maxRecDepth 100000 in
theorem ok_fTown_comesThrough_L5 {X : Amb} (eL : X.nL = 5) (C : Cx X RX7 cX7_comesThrough 1) (x2 : Int32) (M : Mem) (o : Int32) (K : WA X M [(2, .int x2), (3, .int o)] 38 []) : ∀ (n : Nat) (x3 : Int32) (x4 : Int32), fTown_comesThrough_L5 n M x2 x3 x4 = some o → WA X M [(0, .ref (X.N.2.1 2)), (2, .int x2), (3, .int x3), (4, .int x4)] 5 [] := by
  intro n
  induction n with
  | zero => intro _ _ h; cases h
  | succ n ih =>
    intro x3 x4 h
    replace h : fTown_comesThrough_L5_F (fTown_comesThrough_L5 n) M x2 x3 x4 = some o := h
    unfold fTown_comesThrough_L5_F at h
    refine a_iload (pc := 5) C dX7_comesThrough_5 3 rfl ?_
    refine a_bipush (pc := 7) C 36 dX7_comesThrough_7 rfl ?_
    refine a_icmp_ge (pc := 9) C 38 dX7_comesThrough_9 rfl (fun c1 => ?_) (fun c1 => ?_)
    · replace h := iteT c1 h
      refine a_sub (lv2 := [(2, .int x2), (3, .int x3)]) [1, 2] rfl ?_
      cases somI h
      exact K
    · replace h := iteF c1 h
      refine a_iload_n (pc := 12) C dX7_comesThrough_12 rfl 2 rfl ?_
      refine a_iload_n (pc := 13) C dX7_comesThrough_13 rfl 1 rfl ?_
      refine a_icmp_eq (pc := 14) C 38 dX7_comesThrough_14 rfl (fun c2 => ?_) (fun c2 => ?_)
      · replace h := iteT c2 h
        refine a_sub (lv2 := [(2, .int x2), (3, .int x3)]) [1, 2] rfl ?_
        cases somI h
        exact K
      · replace h := iteF c2 h
        refine a_aload_n (pc := 17) C dX7_comesThrough_17 rfl 0 rfl ?_
        refine a_iload_n (pc := 18) C dX7_comesThrough_18 rfl 2 rfl ?_
        obtain ⟨v3, ev3, h⟩ := bndS h
        refine a_callVI (pc := 19) C [.int x3] (ok_fTown_isSink X.l X.N M x3 ev3) rfl mw_X7_isSink wd_728 rfl rfl rfl rfl rfl rfl rfl dX7_comesThrough_19 (fun z4 => ?_)
        refine a_if_ne (pc := 22) C 38 dX7_comesThrough_22 rfl (fun c5 => ?_) (fun c5 => ?_)
        · replace h := iteT c5 h
          refine a_sub (lv2 := [(2, .int x2), (3, .int x3)]) [1, 2] rfl ?_
          cases somI h
          exact K
        · replace h := iteF c5 h
          refine a_aload_n (pc := 25) C dX7_comesThrough_25 rfl 0 rfl ?_
          refine gf_7_1 (pc := 26) C wd_121 dX7_comesThrough_26 ?_
          refine a_iload_n (pc := 29) C dX7_comesThrough_29 rfl 2 rfl ?_
          obtain ⟨v6, ev6, h⟩ := bndS h
          refine a_iald (pc := 30) C rfl ev6 dX7_comesThrough_30 ?_
          refine a_istore_n (pc := 31) C [(3, .int v6), (0, .ref (X.N.2.1 2)), (2, .int x2), (4, .int x4)] dX7_comesThrough_31 rfl (nlt eL rfl) rfl ?_
          refine a_iinc (pc := 32) C 3 (x4 + 1) [(4, .int (x4 + 1)), (3, .int v6), (0, .ref (X.N.2.1 2)), (2, .int x2)] dX7_comesThrough_32 rfl rfl (nlt eL rfl) rfl ?_
          refine a_goto (pc := 35) C 5 dX7_comesThrough_35 rfl ?_
          refine a_sub [2, 3, 1, 0] rfl ?_
          exact ih v6 (x4 + 1) h
set_option maxHeartbeats 200000 in
set_option maxRecDepth 100000 in
theorem ok_fTown_comesThrough_J38 {X : Amb} (eL : X.nL = 5) (C : Cx X RX7 cX7_comesThrough 1) (M : Mem) (r : Int32) (E : En X (some .boolean) (QcI X.N (some .boolean) r M)) (x2 : Int32) (x3 : Int32) (h : fTown_comesThrough_J38 M x2 x3 = some r) : WA X M [(2, .int x2), (3, .int x3)] 38 [] := by
  unfold fTown_comesThrough_J38 at h
  refine a_iload_n (pc := 38) C dX7_comesThrough_38 rfl 1 rfl ?_
  refine a_iload_n (pc := 39) C dX7_comesThrough_39 rfl 0 rfl ?_
  refine a_icmp_ne (pc := 40) C 47 dX7_comesThrough_40 rfl (fun c8 => ?_) (fun c8 => ?_)
  · replace h := iteT c8 h
    refine a_iconst (pc := 47) C 0 dX7_comesThrough_47 rfl ?_
    exact a_iret (pc := 48) C E rfl (somI h) rfl dX7_comesThrough_48
  · replace h := iteF c8 h
    refine a_iconst (pc := 43) C 1 dX7_comesThrough_43 rfl ?_
    refine a_goto (pc := 44) C 48 dX7_comesThrough_44 rfl ?_
    exact a_iret (pc := 48) C E rfl (somI h) rfl dX7_comesThrough_48
set_option maxHeartbeats 200000 in
set_option maxRecDepth 100000 in
theorem ok_fTown_comesThrough (l : Launch) (N : Rig) (M : Mem) (x1 : Int32) (x2 : Int32) {r : Int32} (h : fTown_comesThrough M x1 x2 = some r) : Ct l N yX7_comesThrough cX7_comesThrough 5 (some .boolean) 1 [.ref (N.2.1 2), .int x1, .int x2] M (QcI N (some .boolean) r M) := by
  refine ct_of (by decide) rfl ?_
  intro X el eN eL C E
  subst el
  subst eN
  unfold fTown_comesThrough at h
  show WA X M [(0, .ref (X.N.2.1 2)), (1, .int x1), (2, .int x2)] 0 []
  refine a_iload_n (pc := 0) C dX7_comesThrough_0 rfl 1 rfl ?_
  refine a_istore_n (pc := 1) C [(3, .int x1), (0, .ref (X.N.2.1 2)), (1, .int x1), (2, .int x2)] dX7_comesThrough_1 rfl (nlt eL rfl) rfl ?_
  refine a_iconst (pc := 2) C 0 dX7_comesThrough_2 rfl ?_
  refine a_istore (pc := 3) C [(4, .int 0), (3, .int x1), (0, .ref (X.N.2.1 2)), (1, .int x1), (2, .int x2)] dX7_comesThrough_3 (nlt eL rfl) rfl ?_
  refine a_sub (lv2 := [(0, .ref (X.N.2.1 2)), (2, .int x2), (3, .int x1), (4, .int 0)]) [2, 4, 1, 0] rfl ?_
  obtain ⟨o7, eo7, h⟩ := bndS h
  refine ok_fTown_comesThrough_L5 eL C x2 M o7 ?_ FU x1 0 eo7
  refine a_sub (lv2 := [(2, .int x2), (3, .int o7)]) [0, 1] rfl ?_
  exact ok_fTown_comesThrough_J38 eL C M r E x2 o7 h
set_option maxHeartbeats 200000 in
set_option maxRecDepth 100000 in
theorem ok_fTown_steers (l : Launch) (N : Rig) (M : Mem) (x1 : Int32) (x2 : Int32) {r : Int32} (h : fTown_steers M x1 x2 = some r) : Ct l N yX7_steers cX7_steers 3 (some .boolean) 2 [.ref (N.2.1 2), .int x1, .int x2] M (QcI N (some .boolean) r M) := by
  refine ct_of (by decide) rfl ?_
  intro X el eN eL C E
  subst el
  subst eN
  unfold fTown_steers at h
  show WA X M [(0, .ref (X.N.2.1 2)), (1, .int x1), (2, .int x2)] 0 []
  refine a_aload_n (pc := 0) C dX7_steers_0 rfl 0 rfl ?_
  refine a_iload_n (pc := 1) C dX7_steers_1 rfl 1 rfl ?_
  obtain ⟨v1, ev1, h⟩ := bndS h
  refine a_callVI (pc := 2) C [.int x1] (ok_fTown_isSink X.l X.N M x1 ev1) rfl mw_X7_isSink wd_728 rfl rfl rfl rfl rfl rfl rfl dX7_steers_2 (fun z2 => ?_)
  refine a_if_ne (pc := 5) C 21 dX7_steers_5 rfl (fun c3 => ?_) (fun c3 => ?_)
  · replace h := iteT c3 h
    refine a_iconst (pc := 21) C 0 dX7_steers_21 rfl ?_
    exact a_iret (pc := 22) C E rfl (somI h) rfl dX7_steers_22
  · replace h := iteF c3 h
    refine a_aload_n (pc := 8) C dX7_steers_8 rfl 0 rfl ?_
    refine a_iload_n (pc := 9) C dX7_steers_9 rfl 1 rfl ?_
    refine a_iload_n (pc := 10) C dX7_steers_10 rfl 2 rfl ?_
    obtain ⟨v4, ev4, h⟩ := bndS h
    refine a_callVI (pc := 11) C [.int x1, .int x2] (ok_fTown_comesThrough X.l X.N M x1 x2 ev4) rfl mw_X7_comesThrough wd_745 rfl rfl rfl rfl rfl rfl rfl dX7_steers_11 (fun z5 => ?_)
    refine a_if_eq (pc := 14) C 21 dX7_steers_14 rfl (fun c6 => ?_) (fun c6 => ?_)
    · replace h := iteT c6 h
      refine a_iconst (pc := 21) C 0 dX7_steers_21 rfl ?_
      exact a_iret (pc := 22) C E rfl (somI h) rfl dX7_steers_22
    · replace h := iteF c6 h
      refine a_iconst (pc := 17) C 1 dX7_steers_17 rfl ?_
      refine a_goto (pc := 18) C 22 dX7_steers_18 rfl ?_
      exact a_iret (pc := 22) C E rfl (somI h) rfl dX7_steers_22
set_option maxHeartbeats 200000 in
set_option maxRecDepth 100000 in
theorem ok_fThought_candidatesFor_L5 {X : Amb} (eL : X.nL = 5) (C : Cx X RX6 cX6_candidatesFor 3) (x2 : Int32) (o : Mem × Int32) (K : WA X o.1 [(3, .int o.2)] 56 []) : ∀ (n : Nat) (M : Mem) (x3 : Int32) (x4 : Int32), fThought_candidatesFor_L5 n M x2 x3 x4 = some o → WA X M [(0, .ref (X.N.2.1 12)), (1, .ref (X.N.2.1 1)), (2, .int x2), (3, .int x3), (4, .int x4)] 5 [] := by
  intro n
  induction n with
  | zero => intro _ _ _ h; cases h
  | succ n ih =>
    intro M x3 x4 h
    replace h : fThought_candidatesFor_L5_F (fThought_candidatesFor_L5 n) M x2 x3 x4 = some o := h
    unfold fThought_candidatesFor_L5_F at h
    refine a_iload (pc := 5) C dX6_candidatesFor_5 4 rfl ?_
    refine a_bipush (pc := 7) C 36 dX6_candidatesFor_7 rfl ?_
    refine a_icmp_ge (pc := 9) C 56 dX6_candidatesFor_9 rfl (fun c1 => ?_) (fun c1 => ?_)
    · replace h := iteT c1 h
      refine a_sub (lv2 := [(3, .int x3)]) [3] rfl ?_
      cases somI h
      exact K
    · replace h := iteF c1 h
      refine a_aload_n (pc := 12) C dX6_candidatesFor_12 rfl 1 rfl ?_
      refine gf_9_1 (pc := 13) C wd_255 dX6_candidatesFor_13 ?_
      refine gf_5_1 (pc := 16) C st36 wd_160 dX6_candidatesFor_16 ?_
      refine a_iload (pc := 19) C dX6_candidatesFor_19 4 rfl ?_
      obtain ⟨v2, ev2, h⟩ := bndS h
      refine a_iald (pc := 21) C (st_a2 st36) ev2 dX6_candidatesFor_21 ?_
      refine a_iconst (pc := 22) C 1 dX6_candidatesFor_22 rfl ?_
      refine a_icmp_eq (pc := 23) C 50 dX6_candidatesFor_23 rfl (fun c3 => ?_) (fun c3 => ?_)
      · replace h := iteT c3 h
        refine a_iinc (pc := 50) C 4 (x4 + 1) [(4, .int (x4 + 1)), (0, .ref (X.N.2.1 12)), (1, .ref (X.N.2.1 1)), (2, .int x2), (3, .int x3)] dX6_candidatesFor_50 rfl rfl (nlt eL rfl) rfl ?_
        refine a_goto (pc := 53) C 5 dX6_candidatesFor_53 rfl ?_
        refine a_sub [1, 2, 3, 4, 0] rfl ?_
        exact ih M x3 (x4 + 1) h
      · replace h := iteF c3 h
        refine a_aload_n (pc := 26) C dX6_candidatesFor_26 rfl 1 rfl ?_
        refine gf_9_0 (pc := 27) C wd_251 dX6_candidatesFor_27 ?_
        refine a_iload (pc := 30) C dX6_candidatesFor_30 4 rfl ?_
        refine a_iload_n (pc := 32) C dX6_candidatesFor_32 rfl 2 rfl ?_
        obtain ⟨v4, ev4, h⟩ := bndS h
        refine a_callVI (pc := 33) C [.int x4, .int x2] (ok_fTown_steers X.l X.N M x4 x2 ev4) rfl mw_X7_steers wd_785 rfl rfl rfl rfl rfl rfl rfl dX6_candidatesFor_33 (fun z5 => ?_)
        refine a_if_eq (pc := 36) C 50 dX6_candidatesFor_36 rfl (fun c6 => ?_) (fun c6 => ?_)
        · replace h := iteT c6 h
          refine a_iinc (pc := 50) C 4 (x4 + 1) [(4, .int (x4 + 1)), (0, .ref (X.N.2.1 12)), (1, .ref (X.N.2.1 1)), (2, .int x2), (3, .int x3)] dX6_candidatesFor_50 rfl rfl (nlt eL rfl) rfl ?_
          refine a_goto (pc := 53) C 5 dX6_candidatesFor_53 rfl ?_
          refine a_sub [1, 2, 3, 4, 0] rfl ?_
          exact ih M x3 (x4 + 1) h
        · replace h := iteF c6 h
          refine a_aload_n (pc := 39) C dX6_candidatesFor_39 rfl 0 rfl ?_
          refine gf_6_1 (pc := 40) C wd_278 dX6_candidatesFor_40 ?_
          refine a_iload_n (pc := 43) C dX6_candidatesFor_43 rfl 3 rfl ?_
          refine a_iload (pc := 44) C dX6_candidatesFor_44 4 rfl ?_
          obtain ⟨M7, eM7, h⟩ := bndS h
          refine a_iast (pc := 46) C rfl eM7 dX6_candidatesFor_46 ?_
          refine a_iinc (pc := 47) C 3 (x3 + 1) [(3, .int (x3 + 1)), (0, .ref (X.N.2.1 12)), (1, .ref (X.N.2.1 1)), (2, .int x2), (4, .int x4)] dX6_candidatesFor_47 rfl rfl (nlt eL rfl) rfl ?_
          refine a_iinc (pc := 50) C 4 (x4 + 1) [(4, .int (x4 + 1)), (3, .int (x3 + 1)), (0, .ref (X.N.2.1 12)), (1, .ref (X.N.2.1 1)), (2, .int x2)] dX6_candidatesFor_50 rfl rfl (nlt eL rfl) rfl ?_
          refine a_goto (pc := 53) C 5 dX6_candidatesFor_53 rfl ?_
          refine a_sub [2, 3, 4, 1, 0] rfl ?_
          exact ih M7 (x3 + 1) (x4 + 1) h
set_option maxHeartbeats 200000 in
set_option maxRecDepth 100000 in
theorem ok_fThought_candidatesFor (l : Launch) (N : Rig) (M : Mem) (x2 : Int32) {r : Int32} {M0 : Mem} (h : fThought_candidatesFor M x2 = some (r, M0)) : Ct l N yX6_candidatesFor cX6_candidatesFor 5 (some .int) 3 [.ref (N.2.1 12), .ref (N.2.1 1), .int x2] M (QcI N (some .int) r M0) := by
  refine ct_of (by decide) rfl ?_
  intro X el eN eL C E
  subst el
  subst eN
  unfold fThought_candidatesFor at h
  show WA X M [(0, .ref (X.N.2.1 12)), (1, .ref (X.N.2.1 1)), (2, .int x2)] 0 []
  refine a_iconst (pc := 0) C 0 dX6_candidatesFor_0 rfl ?_
  refine a_istore_n (pc := 1) C [(3, .int 0), (0, .ref (X.N.2.1 12)), (1, .ref (X.N.2.1 1)), (2, .int x2)] dX6_candidatesFor_1 rfl (nlt eL rfl) rfl ?_
  refine a_iconst (pc := 2) C 0 dX6_candidatesFor_2 rfl ?_
  refine a_istore (pc := 3) C [(4, .int 0), (3, .int 0), (0, .ref (X.N.2.1 12)), (1, .ref (X.N.2.1 1)), (2, .int x2)] dX6_candidatesFor_3 (nlt eL rfl) rfl ?_
  refine a_sub (lv2 := [(0, .ref (X.N.2.1 12)), (1, .ref (X.N.2.1 1)), (2, .int x2), (3, .int 0), (4, .int 0)]) [2, 3, 4, 1, 0] rfl ?_
  obtain ⟨o8, eo8, h⟩ := bndS h
  refine ok_fThought_candidatesFor_L5 eL C x2 o8 ?_ FU M 0 0 eo8
  refine a_iload_n (pc := 56) C dX6_candidatesFor_56 rfl 0 rfl ?_
  exact a_iret (pc := 57) C E rfl (som1 h) (som2 h) dX6_candidatesFor_57
set_option maxHeartbeats 200000 in
set_option maxRecDepth 100000 in
theorem ok_fThought_fewestShoes_L41 {X : Amb} (eL : X.nL = 8) (C : Cx X RX6 cX6_fewestShoes 6) (x2 : Int32) (x3 : Int32) (x4 : Int32) (x5 : Int32) (r : Int32) (M0 : Mem) (E : En X (some .int) (QcI X.N (some .int) r M0)) (t : (Int32 × Mem) ⊕ (Mem)) (KR : ∀ r0, t = Sum.inl r0 → r0 = (r, M0)) (KX : ∀ o, t = Sum.inr o → WA X o [(0, .ref (X.N.2.1 12)), (1, .ref (X.N.2.1 1)), (2, .int x2), (3, .int x3), (4, .int x4), (5, .int x5)] 87 []) : ∀ (n : Nat) (M : Mem) (x6 : Int32), fThought_fewestShoes_L41 n M x2 x3 x4 x5 x6 = some t → WA X M [(0, .ref (X.N.2.1 12)), (1, .ref (X.N.2.1 1)), (2, .int x2), (3, .int x3), (4, .int x4), (5, .int x5), (6, .int x6)] 41 [] := by
  intro n
  induction n with
  | zero => intro _ _ h; cases h
  | succ n ih =>
    intro M x6 h
    replace h : fThought_fewestShoes_L41_F (fThought_fewestShoes_L41 n) M x2 x3 x4 x5 x6 = some t := h
    unfold fThought_fewestShoes_L41_F at h
    refine a_iload (pc := 41) C dX6_fewestShoes_41 6 rfl ?_
    refine a_iload (pc := 43) C dX6_fewestShoes_43 5 rfl ?_
    refine a_icmp_ge (pc := 45) C 87 dX6_fewestShoes_45 rfl (fun c7 => ?_) (fun c7 => ?_)
    · replace h := iteT c7 h
      refine a_sub (lv2 := [(0, .ref (X.N.2.1 12)), (1, .ref (X.N.2.1 1)), (2, .int x2), (3, .int x3), (4, .int x4), (5, .int x5)]) [0, 1, 2, 3, 4, 5] rfl ?_
      exact KX M (somI h).symm
    · replace h := iteF c7 h
      refine a_aload_n (pc := 48) C dX6_fewestShoes_48 rfl 0 rfl ?_
      refine a_aload_n (pc := 49) C dX6_fewestShoes_49 rfl 1 rfl ?_
      refine a_aload_n (pc := 50) C dX6_fewestShoes_50 rfl 0 rfl ?_
      refine gf_6_1 (pc := 51) C wd_278 dX6_fewestShoes_51 ?_
      refine a_iload (pc := 54) C dX6_fewestShoes_54 6 rfl ?_
      obtain ⟨v8, ev8, h⟩ := bndS h
      refine a_iald (pc := 56) C rfl ev8 dX6_fewestShoes_56 ?_
      refine a_iconst (pc := 57) C (-1) dX6_fewestShoes_57 rfl ?_
      refine a_iload_n (pc := 58) C dX6_fewestShoes_58 rfl 2 rfl ?_
      refine a_iload_n (pc := 59) C dX6_fewestShoes_59 rfl 3 rfl ?_
      obtain ⟨q9, eq9, h⟩ := bndS h
      refine a_callVI (pc := 60) C [.ref (X.N.2.1 1), .int v8, .int (-1), .int x2, .int x3] (ok_fThought_hasBy X.l X.N M v8 (-1) x2 x3 eq9) rfl mw_X6_hasBy wd_777 rfl rfl rfl rfl rfl rfl rfl dX6_fewestShoes_60 (fun z10 => ?_)
      refine a_iload (pc := 63) C dX6_fewestShoes_63 4 rfl ?_
      refine a_icmp_lt (pc := 65) C 81 dX6_fewestShoes_65 rfl (fun c11 => ?_) (fun c11 => ?_)
      · replace h := iteT c11 h
        refine a_iinc (pc := 81) C 6 (x6 + 1) [(6, .int (x6 + 1)), (0, .ref (X.N.2.1 12)), (1, .ref (X.N.2.1 1)), (2, .int x2), (3, .int x3), (4, .int x4), (5, .int x5)] dX6_fewestShoes_81 rfl rfl (nlt eL rfl) rfl ?_
        refine a_goto (pc := 84) C 41 dX6_fewestShoes_84 rfl ?_
        refine a_sub [1, 2, 3, 4, 5, 6, 0] rfl ?_
        exact ih q9.2 (x6 + 1) h
      · replace h := iteF c11 h
        refine a_aload_n (pc := 68) C dX6_fewestShoes_68 rfl 0 rfl ?_
        refine a_aload_n (pc := 69) C dX6_fewestShoes_69 rfl 0 rfl ?_
        refine gf_6_1 (pc := 70) C wd_278 dX6_fewestShoes_70 ?_
        refine a_iload (pc := 73) C dX6_fewestShoes_73 6 rfl ?_
        obtain ⟨v12, ev12, h⟩ := bndS h
        refine a_iald (pc := 75) C rfl ev12 dX6_fewestShoes_75 ?_
        refine pf_6_2 (pc := 76) C wd_279 dX6_fewestShoes_76 ?_
        refine a_iconst (pc := 79) C 1 dX6_fewestShoes_79 rfl ?_
        exact a_iret (pc := 80) C E rfl (congrArg Prod.fst (KR _ (somI h).symm)) (congrArg Prod.snd (KR _ (somI h).symm)) dX6_fewestShoes_80
set_option maxHeartbeats 200000 in
set_option maxRecDepth 100000 in
theorem ok_fThought_fewestShoes_L103 {X : Amb} (eL : X.nL = 8) (C : Cx X RX6 cX6_fewestShoes 6) (x2 : Int32) (x3 : Int32) (x4 : Int32) (x5 : Int32) (x6 : Int32) (r : Int32) (M0 : Mem) (E : En X (some .int) (QcI X.N (some .int) r M0)) (t : (Int32 × Mem) ⊕ (Mem)) (KR : ∀ r0, t = Sum.inl r0 → r0 = (r, M0)) (KX : ∀ o, t = Sum.inr o → WA X o [(0, .ref (X.N.2.1 12)), (1, .ref (X.N.2.1 1)), (2, .int x2), (3, .int x3), (4, .int x4), (5, .int x5), (6, .int x6)] 166 []) : ∀ (n : Nat) (M : Mem) (x7 : Int32), fThought_fewestShoes_L103 n M x2 x3 x4 x5 x6 x7 = some t → WA X M [(0, .ref (X.N.2.1 12)), (1, .ref (X.N.2.1 1)), (2, .int x2), (3, .int x3), (4, .int x4), (5, .int x5), (6, .int x6), (7, .int x7)] 103 [] := by
  intro n
  induction n with
  | zero => intro _ _ h; cases h
  | succ n ih =>
    intro M x7 h
    replace h : fThought_fewestShoes_L103_F (fThought_fewestShoes_L103 n) M x2 x3 x4 x5 x6 x7 = some t := h
    unfold fThought_fewestShoes_L103_F at h
    refine a_iload (pc := 103) C dX6_fewestShoes_103 7 rfl ?_
    refine a_iload (pc := 105) C dX6_fewestShoes_105 5 rfl ?_
    refine a_icmp_ge (pc := 107) C 166 dX6_fewestShoes_107 rfl (fun c16 => ?_) (fun c16 => ?_)
    · replace h := iteT c16 h
      refine a_sub (lv2 := [(0, .ref (X.N.2.1 12)), (1, .ref (X.N.2.1 1)), (2, .int x2), (3, .int x3), (4, .int x4), (5, .int x5), (6, .int x6)]) [0, 1, 2, 3, 4, 5, 6] rfl ?_
      exact KX M (somI h).symm
    · replace h := iteF c16 h
      refine a_aload_n (pc := 110) C dX6_fewestShoes_110 rfl 0 rfl ?_
      refine a_aload_n (pc := 111) C dX6_fewestShoes_111 rfl 1 rfl ?_
      refine a_aload_n (pc := 112) C dX6_fewestShoes_112 rfl 0 rfl ?_
      refine gf_6_1 (pc := 113) C wd_278 dX6_fewestShoes_113 ?_
      refine a_iload (pc := 116) C dX6_fewestShoes_116 6 rfl ?_
      obtain ⟨v17, ev17, h⟩ := bndS h
      refine a_iald (pc := 118) C rfl ev17 dX6_fewestShoes_118 ?_
      refine a_aload_n (pc := 119) C dX6_fewestShoes_119 rfl 0 rfl ?_
      refine gf_6_1 (pc := 120) C wd_278 dX6_fewestShoes_120 ?_
      refine a_iload (pc := 123) C dX6_fewestShoes_123 7 rfl ?_
      obtain ⟨v18, ev18, h⟩ := bndS h
      refine a_iald (pc := 125) C rfl ev18 dX6_fewestShoes_125 ?_
      refine a_iload_n (pc := 126) C dX6_fewestShoes_126 rfl 2 rfl ?_
      refine a_iload_n (pc := 127) C dX6_fewestShoes_127 rfl 3 rfl ?_
      obtain ⟨q19, eq19, h⟩ := bndS h
      refine a_callVI (pc := 128) C [.ref (X.N.2.1 1), .int v17, .int v18, .int x2, .int x3] (ok_fThought_hasBy X.l X.N M v17 v18 x2 x3 eq19) rfl mw_X6_hasBy wd_777 rfl rfl rfl rfl rfl rfl rfl dX6_fewestShoes_128 (fun z20 => ?_)
      refine a_iload (pc := 131) C dX6_fewestShoes_131 4 rfl ?_
      refine a_icmp_lt (pc := 133) C 160 dX6_fewestShoes_133 rfl (fun c21 => ?_) (fun c21 => ?_)
      · replace h := iteT c21 h
        refine a_iinc (pc := 160) C 7 (x7 + 1) [(7, .int (x7 + 1)), (0, .ref (X.N.2.1 12)), (1, .ref (X.N.2.1 1)), (2, .int x2), (3, .int x3), (4, .int x4), (5, .int x5), (6, .int x6)] dX6_fewestShoes_160 rfl rfl (nlt eL rfl) rfl ?_
        refine a_goto (pc := 163) C 103 dX6_fewestShoes_163 rfl ?_
        refine a_sub [1, 2, 3, 4, 5, 6, 7, 0] rfl ?_
        exact ih q19.2 (x7 + 1) h
      · replace h := iteF c21 h
        refine a_aload_n (pc := 136) C dX6_fewestShoes_136 rfl 0 rfl ?_
        refine a_bipush (pc := 137) C 36 dX6_fewestShoes_137 rfl ?_
        refine a_aload_n (pc := 139) C dX6_fewestShoes_139 rfl 0 rfl ?_
        refine gf_6_1 (pc := 140) C wd_278 dX6_fewestShoes_140 ?_
        refine a_iload (pc := 143) C dX6_fewestShoes_143 6 rfl ?_
        obtain ⟨v22, ev22, h⟩ := bndS h
        refine a_iald (pc := 145) C rfl ev22 dX6_fewestShoes_145 ?_
        refine a_imul (pc := 146) C dX6_fewestShoes_146 ?_
        refine a_aload_n (pc := 147) C dX6_fewestShoes_147 rfl 0 rfl ?_
        refine gf_6_1 (pc := 148) C wd_278 dX6_fewestShoes_148 ?_
        refine a_iload (pc := 151) C dX6_fewestShoes_151 7 rfl ?_
        obtain ⟨v23, ev23, h⟩ := bndS h
        refine a_iald (pc := 153) C rfl ev23 dX6_fewestShoes_153 ?_
        refine a_iadd (pc := 154) C dX6_fewestShoes_154 ?_
        refine pf_6_2 (pc := 155) C wd_279 dX6_fewestShoes_155 ?_
        refine a_iconst (pc := 158) C 2 dX6_fewestShoes_158 rfl ?_
        exact a_iret (pc := 159) C E rfl (congrArg Prod.fst (KR _ (somI h).symm)) (congrArg Prod.snd (KR _ (somI h).symm)) dX6_fewestShoes_159
set_option maxHeartbeats 200000 in
set_option maxRecDepth 100000 in
theorem ok_fThought_fewestShoes_L90 {X : Amb} (eL : X.nL = 8) (C : Cx X RX6 cX6_fewestShoes 6) (x2 : Int32) (x3 : Int32) (x4 : Int32) (x5 : Int32) (r : Int32) (M0 : Mem) (E : En X (some .int) (QcI X.N (some .int) r M0)) (t : (Int32 × Mem) ⊕ (Mem)) (KR : ∀ r0, t = Sum.inl r0 → r0 = (r, M0)) (KX : ∀ o, t = Sum.inr o → WA X o [] 172 []) : ∀ (n : Nat) (M : Mem) (x6 : Int32), fThought_fewestShoes_L90 n M x2 x3 x4 x5 x6 = some t → WA X M [(0, .ref (X.N.2.1 12)), (1, .ref (X.N.2.1 1)), (2, .int x2), (3, .int x3), (4, .int x4), (5, .int x5), (6, .int x6)] 90 [] := by
  intro n
  induction n with
  | zero => intro _ _ h; cases h
  | succ n ih =>
    intro M x6 h
    replace h : fThought_fewestShoes_L90_F (fThought_fewestShoes_L90 n) M x2 x3 x4 x5 x6 = some t := h
    unfold fThought_fewestShoes_L90_F at h
    refine a_iload (pc := 90) C dX6_fewestShoes_90 6 rfl ?_
    refine a_iload (pc := 92) C dX6_fewestShoes_92 5 rfl ?_
    refine a_icmp_ge (pc := 94) C 172 dX6_fewestShoes_94 rfl (fun c15 => ?_) (fun c15 => ?_)
    · replace h := iteT c15 h
      refine a_sub (lv2 := []) [] rfl ?_
      exact KX M (somI h).symm
    · replace h := iteF c15 h
      refine a_iload (pc := 97) C dX6_fewestShoes_97 6 rfl ?_
      refine a_iconst (pc := 99) C 1 dX6_fewestShoes_99 rfl ?_
      refine a_iadd (pc := 100) C dX6_fewestShoes_100 ?_
      refine a_istore (pc := 101) C [(7, .int (x6 + 1)), (0, .ref (X.N.2.1 12)), (1, .ref (X.N.2.1 1)), (2, .int x2), (3, .int x3), (4, .int x4), (5, .int x5), (6, .int x6)] dX6_fewestShoes_101 (nlt eL rfl) rfl ?_
      refine a_sub (lv2 := [(0, .ref (X.N.2.1 12)), (1, .ref (X.N.2.1 1)), (2, .int x2), (3, .int x3), (4, .int x4), (5, .int x5), (6, .int x6), (7, .int (x6 + 1))]) [1, 2, 3, 4, 5, 6, 7, 0] rfl ?_
      obtain ⟨t25, et25, h⟩ := bndS h
      refine ok_fThought_fewestShoes_L103 eL C x2 x3 x4 x5 x6 r M0 E t25 (fun r0 er => ?_) (fun o24 eo => ?_) FU M (x6 + 1) et25
      · subst er; exact KR _ (somI h).symm
      · subst eo
        refine a_iinc (pc := 166) C 6 (x6 + 1) [(6, .int (x6 + 1)), (0, .ref (X.N.2.1 12)), (1, .ref (X.N.2.1 1)), (2, .int x2), (3, .int x3), (4, .int x4), (5, .int x5)] dX6_fewestShoes_166 rfl rfl (nlt eL rfl) rfl ?_
        refine a_goto (pc := 169) C 90 dX6_fewestShoes_169 rfl ?_
        refine a_sub [1, 2, 3, 4, 5, 6, 0] rfl ?_
        exact ih o24 (x6 + 1) h
set_option maxHeartbeats 200000 in
set_option maxRecDepth 100000 in
theorem ok_fThought_fewestShoes (l : Launch) (N : Rig) (M : Mem) (x2 : Int32) (x3 : Int32) (x4 : Int32) {r : Int32} {M0 : Mem} (h : fThought_fewestShoes M x2 x3 x4 = some (r, M0)) : Ct l N yX6_fewestShoes cX6_fewestShoes 8 (some .int) 6 [.ref (N.2.1 12), .ref (N.2.1 1), .int x2, .int x3, .int x4] M (QcI N (some .int) r M0) := by
  refine ct_of (by decide) rfl ?_
  intro X el eN eL C E
  subst el
  subst eN
  unfold fThought_fewestShoes at h
  show WA X M [(0, .ref (X.N.2.1 12)), (1, .ref (X.N.2.1 1)), (2, .int x2), (3, .int x3), (4, .int x4)] 0 []
  refine a_aload_n (pc := 0) C dX6_fewestShoes_0 rfl 0 rfl ?_
  refine a_bipush (pc := 1) C (-9) dX6_fewestShoes_1 rfl ?_
  refine pf_6_2 (pc := 3) C wd_279 dX6_fewestShoes_3 ?_
  refine a_aload_n (pc := 6) C dX6_fewestShoes_6 rfl 0 rfl ?_
  refine a_aload_n (pc := 7) C dX6_fewestShoes_7 rfl 1 rfl ?_
  refine a_iconst (pc := 8) C (-1) dX6_fewestShoes_8 rfl ?_
  refine a_iconst (pc := 9) C (-1) dX6_fewestShoes_9 rfl ?_
  refine a_iload_n (pc := 10) C dX6_fewestShoes_10 rfl 2 rfl ?_
  refine a_iload_n (pc := 11) C dX6_fewestShoes_11 rfl 3 rfl ?_
  obtain ⟨q1, eq1, h⟩ := bndS h
  refine a_callVI (pc := 12) C [.ref (X.N.2.1 1), .int (-1), .int (-1), .int x2, .int x3] (ok_fThought_hasBy X.l X.N (wI M 12 2 (-9)) (-1) (-1) x2 x3 eq1) rfl mw_X6_hasBy wd_777 rfl rfl rfl rfl rfl rfl rfl dX6_fewestShoes_12 (fun z2 => ?_)
  refine a_iload (pc := 15) C dX6_fewestShoes_15 4 rfl ?_
  refine a_icmp_lt (pc := 17) C 22 dX6_fewestShoes_17 rfl (fun c3 => ?_) (fun c3 => ?_)
  · replace h := iteT c3 h
    refine a_aload_n (pc := 22) C dX6_fewestShoes_22 rfl 0 rfl ?_
    refine a_aload_n (pc := 23) C dX6_fewestShoes_23 rfl 1 rfl ?_
    refine a_aload_n (pc := 24) C dX6_fewestShoes_24 rfl 1 rfl ?_
    refine gf_9_1 (pc := 25) C wd_255 dX6_fewestShoes_25 ?_
    refine gf_5_2 (pc := 28) C st36 wd_165 dX6_fewestShoes_28 ?_
    refine a_iload_n (pc := 31) C dX6_fewestShoes_31 rfl 2 rfl ?_
    obtain ⟨v4, ev4, h⟩ := bndS h
    refine a_iald (pc := 32) C (st_a3 st36) ev4 dX6_fewestShoes_32 ?_
    obtain ⟨q5, eq5, h⟩ := bndS h
    refine a_callVI (pc := 33) C [.ref (X.N.2.1 1), .int v4] (ok_fThought_candidatesFor X.l X.N q1.2 v4 eq5) rfl mw_X6_candidatesFor wd_781 rfl rfl rfl rfl rfl rfl rfl dX6_fewestShoes_33 (fun z6 => ?_)
    refine a_istore (pc := 36) C [(5, .int q5.1), (0, .ref (X.N.2.1 12)), (1, .ref (X.N.2.1 1)), (2, .int x2), (3, .int x3), (4, .int x4)] dX6_fewestShoes_36 (nlt eL rfl) rfl ?_
    refine a_iconst (pc := 38) C 0 dX6_fewestShoes_38 rfl ?_
    refine a_istore (pc := 39) C [(6, .int 0), (5, .int q5.1), (0, .ref (X.N.2.1 12)), (1, .ref (X.N.2.1 1)), (2, .int x2), (3, .int x3), (4, .int x4)] dX6_fewestShoes_39 (nlt eL rfl) rfl ?_
    refine a_sub (lv2 := [(0, .ref (X.N.2.1 12)), (1, .ref (X.N.2.1 1)), (2, .int x2), (3, .int x3), (4, .int x4), (5, .int q5.1), (6, .int 0)]) [2, 3, 4, 5, 6, 1, 0] rfl ?_
    obtain ⟨t14, et14, h⟩ := bndS h
    refine ok_fThought_fewestShoes_L41 eL C x2 x3 x4 q5.1 r M0 E t14 (fun r0 er => ?_) (fun o13 eo => ?_) FU q5.2 0 et14
    · subst er; exact somI h
    · subst eo
      refine a_iconst (pc := 87) C 0 dX6_fewestShoes_87 rfl ?_
      refine a_istore (pc := 88) C [(6, .int 0), (0, .ref (X.N.2.1 12)), (1, .ref (X.N.2.1 1)), (2, .int x2), (3, .int x3), (4, .int x4), (5, .int q5.1)] dX6_fewestShoes_88 (nlt eL rfl) rfl ?_
      refine a_sub (lv2 := [(0, .ref (X.N.2.1 12)), (1, .ref (X.N.2.1 1)), (2, .int x2), (3, .int x3), (4, .int x4), (5, .int q5.1), (6, .int 0)]) [1, 2, 3, 4, 5, 6, 0] rfl ?_
      obtain ⟨t27, et27, h⟩ := bndS h
      refine ok_fThought_fewestShoes_L90 eL C x2 x3 x4 q5.1 r M0 E t27 (fun r0 er => ?_) (fun o26 eo => ?_) FU o13 0 et27
      · subst er; exact somI h
      · subst eo
        refine a_bipush (pc := 172) C (-2) dX6_fewestShoes_172 rfl ?_
        exact a_iret (pc := 174) C E rfl (som1 h) (som2 h) dX6_fewestShoes_174
  · replace h := iteF c3 h
    refine a_iconst (pc := 20) C 0 dX6_fewestShoes_20 rfl ?_
    exact a_iret (pc := 21) C E rfl (som1 h) (som2 h) dX6_fewestShoes_21
set_option maxHeartbeats 200000 in
set_option maxRecDepth 100000 in
theorem ok_fThought_bestSeat_J57_6 {X : Amb} (eL : X.nL = 6) (C : Cx X RX6 cX6_bestSeat 5) (x2 : Int32) (x3 : Int32) (o : Mem × Int32) (K : WA X o.1 [(4, .int o.2)] 80 []) (ihf : Mem → Int32 → Int32 → Int32 → Int32 → Option (Mem × Int32)) (ih : ∀ (M : Mem) (x4 : Int32) (x5 : Int32), ihf M x2 x3 x4 x5 = some o → WA X M [(0, .ref (X.N.2.1 12)), (1, .ref (X.N.2.1 1)), (2, .int x2), (3, .int x3), (4, .int x4), (5, .int x5)] 6 []) (M : Mem) (x5 : Int32) (h : fThought_bestSeat_J57_6 ihf M x2 x3 x5 = some o) : WA X M [(0, .ref (X.N.2.1 12)), (1, .ref (X.N.2.1 1)), (2, .int x2), (3, .int x3), (5, .int x5)] 57 [] := by
  unfold fThought_bestSeat_J57_6 at h
  refine a_iload (pc := 57) C dX6_bestSeat_57 4 rfl ?_
  refine a_istore (pc := 59) C [(4, .int x5), (0, .ref (X.N.2.1 12)), (1, .ref (X.N.2.1 1)), (2, .int x2), (3, .int x3), (5, .int x5)] dX6_bestSeat_59 (nlt eL rfl) rfl ?_
  refine a_aload_n (pc := 61) C dX6_bestSeat_61 rfl 1 rfl ?_
  refine a_aload_n (pc := 62) C dX6_bestSeat_62 rfl 1 rfl ?_
  refine gf_6_0 (pc := 63) C wd_277 dX6_bestSeat_63 ?_
  refine gf_5_3 (pc := 66) C st42 wd_169 dX6_bestSeat_66 ?_
  refine a_iload_n (pc := 69) C dX6_bestSeat_69 rfl 3 rfl ?_
  obtain ⟨v6, ev6, h⟩ := bndS h
  refine a_iald (pc := 70) C (st_a4 st42) ev6 dX6_bestSeat_70 ?_
  refine pf_6_3 (pc := 71) C wd_281 dX6_bestSeat_71 ?_
  refine a_iinc (pc := 74) C 5 (x5 + 1) [(5, .int (x5 + 1)), (4, .int x5), (0, .ref (X.N.2.1 12)), (1, .ref (X.N.2.1 1)), (2, .int x2), (3, .int x3)] dX6_bestSeat_74 rfl rfl (nlt eL rfl) rfl ?_
  refine a_goto (pc := 77) C 6 dX6_bestSeat_77 rfl ?_
  refine a_sub [2, 3, 4, 5, 1, 0] rfl ?_
  exact ih (wI M 12 3 v6) x5 (x5 + 1) h
set_option maxHeartbeats 200000 in
set_option maxRecDepth 100000 in
theorem ok_fThought_bestSeat_L6 {X : Amb} (eL : X.nL = 6) (C : Cx X RX6 cX6_bestSeat 5) (x2 : Int32) (x3 : Int32) (o : Mem × Int32) (K : WA X o.1 [(4, .int o.2)] 80 []) : ∀ (n : Nat) (M : Mem) (x4 : Int32) (x5 : Int32), fThought_bestSeat_L6 n M x2 x3 x4 x5 = some o → WA X M [(0, .ref (X.N.2.1 12)), (1, .ref (X.N.2.1 1)), (2, .int x2), (3, .int x3), (4, .int x4), (5, .int x5)] 6 [] := by
  intro n
  induction n with
  | zero => intro _ _ _ h; cases h
  | succ n ih =>
    intro M x4 x5 h
    replace h : fThought_bestSeat_L6_F (fThought_bestSeat_L6 n) M x2 x3 x4 x5 = some o := h
    unfold fThought_bestSeat_L6_F at h
    refine a_iload (pc := 6) C dX6_bestSeat_6 5 rfl ?_
    refine a_bipush (pc := 8) C 36 dX6_bestSeat_8 rfl ?_
    refine a_icmp_ge (pc := 10) C 80 dX6_bestSeat_10 rfl (fun c1 => ?_) (fun c1 => ?_)
    · replace h := iteT c1 h
      refine a_sub (lv2 := [(4, .int x4)]) [4] rfl ?_
      cases somI h
      exact K
    · replace h := iteF c1 h
      refine a_aload_n (pc := 13) C dX6_bestSeat_13 rfl 0 rfl ?_
      refine a_aload_n (pc := 14) C dX6_bestSeat_14 rfl 1 rfl ?_
      obtain ⟨q2, eq2, h⟩ := bndS h
      refine a_callVV (pc := 15) C [.ref (X.N.2.1 1)] (ok_fThought_begin X.l X.N M eq2) rfl mw_X6_begin wd_665 rfl rfl rfl rfl rfl rfl rfl dX6_bestSeat_15 ?_
      refine a_aload_n (pc := 18) C dX6_bestSeat_18 rfl 0 rfl ?_
      refine gf_6_0 (pc := 19) C wd_277 dX6_bestSeat_19 ?_
      refine gf_5_2 (pc := 22) C st42 wd_165 dX6_bestSeat_22 ?_
      refine a_iload_n (pc := 25) C dX6_bestSeat_25 rfl 2 rfl ?_
      refine a_iload (pc := 26) C dX6_bestSeat_26 5 rfl ?_
      obtain ⟨M3, eM3, h⟩ := bndS h
      refine a_iast (pc := 28) C (st_a3 st42) eM3 dX6_bestSeat_28 ?_
      refine a_aload_n (pc := 29) C dX6_bestSeat_29 rfl 0 rfl ?_
      refine a_aload_n (pc := 30) C dX6_bestSeat_30 rfl 1 rfl ?_
      refine a_iload_n (pc := 31) C dX6_bestSeat_31 rfl 3 rfl ?_
      obtain ⟨q4, eq4, h⟩ := bndS h
      refine a_callVV (pc := 32) C [.ref (X.N.2.1 1), .int x3] (ok_fThought_spend X.l X.N M3 x3 eq4) rfl mw_X6_spend wd_674 rfl rfl rfl rfl rfl rfl rfl dX6_bestSeat_32 ?_
      refine a_iload (pc := 35) C dX6_bestSeat_35 4 rfl ?_
      refine a_iconst (pc := 37) C (-1) dX6_bestSeat_37 rfl ?_
      refine a_icmp_eq (pc := 38) C 57 dX6_bestSeat_38 rfl (fun c5 => ?_) (fun c5 => ?_)
      · replace h := iteT c5 h
        refine a_sub (lv2 := [(0, .ref (X.N.2.1 12)), (1, .ref (X.N.2.1 1)), (2, .int x2), (3, .int x3), (5, .int x5)]) [0, 1, 2, 3, 5] rfl ?_
        exact ok_fThought_bestSeat_J57_6 eL C x2 x3 o K _ ih q4 x5 h
      · replace h := iteF c5 h
        refine a_aload_n (pc := 41) C dX6_bestSeat_41 rfl 0 rfl ?_
        refine gf_6_0 (pc := 42) C wd_277 dX6_bestSeat_42 ?_
        refine gf_5_3 (pc := 45) C st42 wd_169 dX6_bestSeat_45 ?_
        refine a_iload_n (pc := 48) C dX6_bestSeat_48 rfl 2 rfl ?_
        obtain ⟨v7, ev7, h⟩ := bndS h
        refine a_iald (pc := 49) C (st_a4 st42) ev7 dX6_bestSeat_49 ?_
        refine a_aload_n (pc := 50) C dX6_bestSeat_50 rfl 0 rfl ?_
        refine gf_6_3 (pc := 51) C wd_281 dX6_bestSeat_51 ?_
        refine a_icmp_le (pc := 54) C 74 dX6_bestSeat_54 rfl (fun c8 => ?_) (fun c8 => ?_)
        · replace h := iteT c8 h
          refine a_iinc (pc := 74) C 5 (x5 + 1) [(5, .int (x5 + 1)), (0, .ref (X.N.2.1 12)), (1, .ref (X.N.2.1 1)), (2, .int x2), (3, .int x3), (4, .int x4)] dX6_bestSeat_74 rfl rfl (nlt eL rfl) rfl ?_
          refine a_goto (pc := 77) C 6 dX6_bestSeat_77 rfl ?_
          refine a_sub [1, 2, 3, 4, 5, 0] rfl ?_
          exact ih q4 x4 (x5 + 1) h
        · replace h := iteF c8 h
          refine a_sub (lv2 := [(0, .ref (X.N.2.1 12)), (1, .ref (X.N.2.1 1)), (2, .int x2), (3, .int x3), (5, .int x5)]) [0, 1, 2, 3, 5] rfl ?_
          exact ok_fThought_bestSeat_J57_6 eL C x2 x3 o K _ ih q4 x5 h
set_option maxHeartbeats 200000 in
set_option maxRecDepth 100000 in
theorem ok_fThought_bestSeat (l : Launch) (N : Rig) (M : Mem) (x2 : Int32) (x3 : Int32) {r : Int32} {M0 : Mem} (h : fThought_bestSeat M x2 x3 = some (r, M0)) : Ct l N yX6_bestSeat cX6_bestSeat 6 (some .int) 5 [.ref (N.2.1 12), .ref (N.2.1 1), .int x2, .int x3] M (QcI N (some .int) r M0) := by
  refine ct_of (by decide) rfl ?_
  intro X el eN eL C E
  subst el
  subst eN
  unfold fThought_bestSeat at h
  show WA X M [(0, .ref (X.N.2.1 12)), (1, .ref (X.N.2.1 1)), (2, .int x2), (3, .int x3)] 0 []
  refine a_iconst (pc := 0) C (-1) dX6_bestSeat_0 rfl ?_
  refine a_istore (pc := 1) C [(4, .int (-1)), (0, .ref (X.N.2.1 12)), (1, .ref (X.N.2.1 1)), (2, .int x2), (3, .int x3)] dX6_bestSeat_1 (nlt eL rfl) rfl ?_
  refine a_iconst (pc := 3) C 0 dX6_bestSeat_3 rfl ?_
  refine a_istore (pc := 4) C [(5, .int 0), (4, .int (-1)), (0, .ref (X.N.2.1 12)), (1, .ref (X.N.2.1 1)), (2, .int x2), (3, .int x3)] dX6_bestSeat_4 (nlt eL rfl) rfl ?_
  refine a_sub (lv2 := [(0, .ref (X.N.2.1 12)), (1, .ref (X.N.2.1 1)), (2, .int x2), (3, .int x3), (4, .int (-1)), (5, .int 0)]) [2, 3, 4, 5, 1, 0] rfl ?_
  obtain ⟨o9, eo9, h⟩ := bndS h
  refine ok_fThought_bestSeat_L6 eL C x2 x3 o9 ?_ FU M (-1) 0 eo9
  refine a_iload (pc := 80) C dX6_bestSeat_80 0 rfl ?_
  exact a_iret (pc := 82) C E rfl (som1 h) (som2 h) dX6_bestSeat_82
set_option maxHeartbeats 200000 in
set_option maxRecDepth 100000 in
theorem ok_fThought_firstWrongFromThen_J38_11 {X : Amb} (eL : X.nL = 7) (C : Cx X RX6 cX6_firstWrongFromThen 4) (a2 : Nat) (ha2 : isRw a2) (x4 : Int32) (x5 : Int32) (r : Int32) (M0 : Mem) (E : En X (some .int) (QcI X.N (some .int) r M0)) (ihf : Mem → Nat → Int32 → Int32 → Int32 → Option (Int32 × Mem)) (ih : ∀ (M : Mem) (x6 : Int32), ihf M a2 x4 x5 x6 = some (r, M0) → WA X M [(0, .ref (X.N.2.1 12)), (1, .ref (X.N.2.1 1)), (2, .ref (X.N.2.1 a2)), (4, .int x4), (5, .int x5), (6, .int x6)] 11 []) (M : Mem) (x6 : Int32) (h : fThought_firstWrongFromThen_J38_11 ihf M a2 x4 x5 x6 = some (r, M0)) : WA X M [(0, .ref (X.N.2.1 12)), (1, .ref (X.N.2.1 1)), (2, .ref (X.N.2.1 a2)), (4, .int x4), (5, .int x5), (6, .int x6)] 38 [] := by
  unfold fThought_firstWrongFromThen_J38_11 at h
  refine a_aload_n (pc := 38) C dX6_firstWrongFromThen_38 rfl 0 rfl ?_
  refine gf_6_0 (pc := 39) C wd_277 dX6_firstWrongFromThen_39 ?_
  refine gf_5_0 (pc := 42) C st42 wd_156 dX6_firstWrongFromThen_42 ?_
  refine a_iload (pc := 45) C dX6_firstWrongFromThen_45 3 rfl ?_
  obtain ⟨v3, ev3, h⟩ := bndS h
  refine a_iald (pc := 47) C (st_a1 st42) ev3 dX6_firstWrongFromThen_47 ?_
  refine a_i2l (pc := 48) C dX6_firstWrongFromThen_48 ?_
  refine a_aload_n (pc := 49) C dX6_firstWrongFromThen_49 rfl 2 rfl ?_
  refine a_iload (pc := 50) C dX6_firstWrongFromThen_50 5 rfl ?_
  obtain ⟨v4, ev4, h⟩ := bndS h
  refine a_lald (pc := 52) C (rw_shp ha2) ev4 dX6_firstWrongFromThen_52 ?_
  refine a_lcmp (pc := 53) C dX6_firstWrongFromThen_53 ?_
  refine a_if_eq (pc := 54) C 60 dX6_firstWrongFromThen_54 rfl (fun c5 => ?_) (fun c5 => ?_)
  · replace h := iteT c5 h
    refine a_iinc (pc := 60) C 5 (x6 + 1) [(6, .int (x6 + 1)), (0, .ref (X.N.2.1 12)), (1, .ref (X.N.2.1 1)), (2, .ref (X.N.2.1 a2)), (4, .int x4), (5, .int x5)] dX6_firstWrongFromThen_60 rfl rfl (nlt eL rfl) rfl ?_
    refine a_goto (pc := 63) C 11 dX6_firstWrongFromThen_63 rfl ?_
    refine a_sub [1, 2, 3, 4, 5, 0] rfl ?_
    exact ih M (x6 + 1) h
  · replace h := iteF c5 h
    refine a_iload (pc := 57) C dX6_firstWrongFromThen_57 5 rfl ?_
    exact a_iret (pc := 59) C E rfl (som1 h) (som2 h) dX6_firstWrongFromThen_59
set_option maxHeartbeats 200000 in
set_option maxRecDepth 100000 in
theorem ok_fThought_firstWrongFromThen_L11 {X : Amb} (eL : X.nL = 7) (C : Cx X RX6 cX6_firstWrongFromThen 4) (a2 : Nat) (ha2 : isRw a2) (x4 : Int32) (x5 : Int32) (r : Int32) (M0 : Mem) (E : En X (some .int) (QcI X.N (some .int) r M0)) : ∀ (n : Nat) (M : Mem) (x6 : Int32), fThought_firstWrongFromThen_L11 n M a2 x4 x5 x6 = some (r, M0) → WA X M [(0, .ref (X.N.2.1 12)), (1, .ref (X.N.2.1 1)), (2, .ref (X.N.2.1 a2)), (4, .int x4), (5, .int x5), (6, .int x6)] 11 [] := by
  intro n
  induction n with
  | zero => intro _ _ h; cases h
  | succ n ih =>
    intro M x6 h
    replace h : fThought_firstWrongFromThen_L11_F (fThought_firstWrongFromThen_L11 n) M a2 x4 x5 x6 = some (r, M0) := h
    unfold fThought_firstWrongFromThen_L11_F at h
    refine a_iload (pc := 11) C dX6_firstWrongFromThen_11 5 rfl ?_
    refine a_iload (pc := 13) C dX6_firstWrongFromThen_13 4 rfl ?_
    refine a_icmp_ge (pc := 15) C 66 dX6_firstWrongFromThen_15 rfl (fun c1 => ?_) (fun c1 => ?_)
    · replace h := iteT c1 h
      refine a_bipush (pc := 66) C (-2) dX6_firstWrongFromThen_66 rfl ?_
      exact a_iret (pc := 68) C E rfl (som1 h) (som2 h) dX6_firstWrongFromThen_68
    · replace h := iteF c1 h
      refine a_iload (pc := 18) C dX6_firstWrongFromThen_18 5 rfl ?_
      refine a_if_le (pc := 20) C 38 dX6_firstWrongFromThen_20 rfl (fun c2 => ?_) (fun c2 => ?_)
      · replace h := iteT c2 h
        refine a_sub (lv2 := [(0, .ref (X.N.2.1 12)), (1, .ref (X.N.2.1 1)), (2, .ref (X.N.2.1 a2)), (4, .int x4), (5, .int x5), (6, .int x6)]) [0, 1, 2, 3, 4, 5] rfl ?_
        exact ok_fThought_firstWrongFromThen_J38_11 eL C a2 ha2 x4 x5 r M0 E _ ih M x6 h
      · replace h := iteF c2 h
        refine a_aload_n (pc := 23) C dX6_firstWrongFromThen_23 rfl 0 rfl ?_
        refine gf_6_0 (pc := 24) C wd_277 dX6_firstWrongFromThen_24 ?_
        refine a_aload_n (pc := 27) C dX6_firstWrongFromThen_27 rfl 1 rfl ?_
        refine gf_9_0 (pc := 28) C wd_251 dX6_firstWrongFromThen_28 ?_
        refine a_aload_n (pc := 31) C dX6_firstWrongFromThen_31 rfl 1 rfl ?_
        refine gf_9_2 (pc := 32) C wd_259 dX6_firstWrongFromThen_32 ?_
        obtain ⟨q6, eq6, h⟩ := bndS h
        refine a_callVV (pc := 35) C [.ref (X.N.2.1 2), .ref (X.N.2.1 7)] (ok_fStreet_pass X.l X.N M 42 st42 eq6) rfl mw_X5_pass wd_678 (st_shp st42) (st_blt st42) rfl rfl rfl rfl rfl dX6_firstWrongFromThen_35 ?_
        refine a_sub (lv2 := [(0, .ref (X.N.2.1 12)), (1, .ref (X.N.2.1 1)), (2, .ref (X.N.2.1 a2)), (4, .int x4), (5, .int x5), (6, .int x6)]) [0, 1, 2, 3, 4, 5] rfl ?_
        exact ok_fThought_firstWrongFromThen_J38_11 eL C a2 ha2 x4 x5 r M0 E _ ih q6 x6 h
set_option maxHeartbeats 200000 in
set_option maxRecDepth 100000 in
theorem ok_fThought_firstWrongFromThen (l : Launch) (N : Rig) (M : Mem) (a2 : Nat) (ha2 : isRw a2) (x3 : Int32) (x4 : Int32) {r : Int32} {M0 : Mem} (h : fThought_firstWrongFromThen M a2 x3 x4 = some (r, M0)) : Ct l N yX6_firstWrongFromThen cX6_firstWrongFromThen 7 (some .int) 4 [.ref (N.2.1 12), .ref (N.2.1 1), .ref (N.2.1 a2), .int x3, .int x4] M (QcI N (some .int) r M0) := by
  refine ct_of (by decide) rfl ?_
  intro X el eN eL C E
  subst el
  subst eN
  unfold fThought_firstWrongFromThen at h
  show WA X M [(0, .ref (X.N.2.1 12)), (1, .ref (X.N.2.1 1)), (2, .ref (X.N.2.1 a2)), (3, .int x3), (4, .int x4)] 0 []
  refine a_iload_n (pc := 0) C dX6_firstWrongFromThen_0 rfl 3 rfl ?_
  refine a_bipush (pc := 1) C 49 dX6_firstWrongFromThen_1 rfl ?_
  refine a_mmin (pc := 3) C rfl wd_815 wd_652 wd_94 wd_653 rfl dX6_firstWrongFromThen_3 ?_
  refine a_istore (pc := 6) C [(5, .int (mnI x3 49)), (0, .ref (X.N.2.1 12)), (1, .ref (X.N.2.1 1)), (2, .ref (X.N.2.1 a2)), (3, .int x3), (4, .int x4)] dX6_firstWrongFromThen_6 (nlt eL rfl) rfl ?_
  refine a_iconst (pc := 8) C 0 dX6_firstWrongFromThen_8 rfl ?_
  refine a_istore (pc := 9) C [(6, .int 0), (5, .int (mnI x3 49)), (0, .ref (X.N.2.1 12)), (1, .ref (X.N.2.1 1)), (2, .ref (X.N.2.1 a2)), (3, .int x3), (4, .int x4)] dX6_firstWrongFromThen_9 (nlt eL rfl) rfl ?_
  refine a_sub (lv2 := [(0, .ref (X.N.2.1 12)), (1, .ref (X.N.2.1 1)), (2, .ref (X.N.2.1 a2)), (4, .int x4), (5, .int (mnI x3 49)), (6, .int 0)]) [2, 3, 4, 6, 1, 0] rfl ?_
  exact ok_fThought_firstWrongFromThen_L11 eL C a2 ha2 x4 (mnI x3 49) r M0 E FU M 0 h
set_option maxHeartbeats 200000 in
set_option maxRecDepth 100000 in
theorem ok_fThought_firstWrong (l : Launch) (N : Rig) (M : Mem) (a2 : Nat) (ha2 : isRw a2) (x3 : Int32) (x4 : Int32) {r : Int32} {M0 : Mem} (h : fThought_firstWrong M a2 x3 x4 = some (r, M0)) : Ct l N yX6_firstWrong cX6_firstWrong 5 (some .int) 5 [.ref (N.2.1 12), .ref (N.2.1 1), .ref (N.2.1 a2), .int x3, .int x4] M (QcI N (some .int) r M0) := by
  refine ct_of (by decide) rfl ?_
  intro X el eN eL C E
  subst el
  subst eN
  unfold fThought_firstWrong at h
  show WA X M [(0, .ref (X.N.2.1 12)), (1, .ref (X.N.2.1 1)), (2, .ref (X.N.2.1 a2)), (3, .int x3), (4, .int x4)] 0 []
  refine a_aload_n (pc := 0) C dX6_firstWrong_0 rfl 0 rfl ?_
  refine a_aload_n (pc := 1) C dX6_firstWrong_1 rfl 1 rfl ?_
  obtain ⟨q1, eq1, h⟩ := bndS h
  refine a_callVV (pc := 2) C [.ref (X.N.2.1 1)] (ok_fThought_begin X.l X.N M eq1) rfl mw_X6_begin wd_665 rfl rfl rfl rfl rfl rfl rfl dX6_firstWrong_2 ?_
  refine a_aload_n (pc := 5) C dX6_firstWrong_5 rfl 0 rfl ?_
  refine a_aload_n (pc := 6) C dX6_firstWrong_6 rfl 1 rfl ?_
  refine a_aload_n (pc := 7) C dX6_firstWrong_7 rfl 2 rfl ?_
  refine a_iload_n (pc := 8) C dX6_firstWrong_8 rfl 3 rfl ?_
  refine a_iload (pc := 9) C dX6_firstWrong_9 4 rfl ?_
  obtain ⟨q2, eq2, h⟩ := bndS h
  refine a_callVI (pc := 11) C [.ref (X.N.2.1 1), .ref (X.N.2.1 a2), .int x3, .int x4] (ok_fThought_firstWrongFromThen X.l X.N q1 a2 ha2 x3 x4 eq2) rfl mw_X6_firstWrongFromThen wd_811 rfl rfl rfl rfl rfl rfl rfl dX6_firstWrong_11 (fun z3 => ?_)
  exact a_iret (pc := 14) C E rfl (som1 h) (som2 h) dX6_firstWrong_14
set_option maxHeartbeats 200000 in
set_option maxRecDepth 100000 in
theorem ok_fThought_fittingShoes_L6 {X : Amb} (eL : X.nL = 8) (C : Cx X RX6 cX6_fittingShoes 5) (a2 : Nat) (ha2 : isRw a2) (x3 : Int32) (x4 : Int32) (x5 : Int32) (o : Mem × Int32) (K : WA X o.1 [(6, .int o.2)] 58 []) : ∀ (n : Nat) (M : Mem) (x6 : Int32) (x7 : Int32), fThought_fittingShoes_L6 n M a2 x3 x4 x5 x6 x7 = some o → WA X M [(0, .ref (X.N.2.1 12)), (1, .ref (X.N.2.1 1)), (2, .ref (X.N.2.1 a2)), (3, .int x3), (4, .int x4), (5, .int x5), (6, .int x6), (7, .int x7)] 6 [] := by
  intro n
  induction n with
  | zero => intro _ _ _ h; cases h
  | succ n ih =>
    intro M x6 x7 h
    replace h : fThought_fittingShoes_L6_F (fThought_fittingShoes_L6 n) M a2 x3 x4 x5 x6 x7 = some o := h
    unfold fThought_fittingShoes_L6_F at h
    refine a_iload (pc := 6) C dX6_fittingShoes_6 7 rfl ?_
    refine a_iconst (pc := 8) C 3 dX6_fittingShoes_8 rfl ?_
    refine a_icmp_ge (pc := 9) C 58 dX6_fittingShoes_9 rfl (fun c1 => ?_) (fun c1 => ?_)
    · replace h := iteT c1 h
      refine a_sub (lv2 := [(6, .int x6)]) [6] rfl ?_
      cases somI h
      exact K
    · replace h := iteF c1 h
      refine a_aload_n (pc := 12) C dX6_fittingShoes_12 rfl 0 rfl ?_
      refine a_aload_n (pc := 13) C dX6_fittingShoes_13 rfl 1 rfl ?_
      obtain ⟨q2, eq2, h⟩ := bndS h
      refine a_callVV (pc := 14) C [.ref (X.N.2.1 1)] (ok_fThought_begin X.l X.N M eq2) rfl mw_X6_begin wd_665 rfl rfl rfl rfl rfl rfl rfl dX6_fittingShoes_14 ?_
      refine a_aload_n (pc := 17) C dX6_fittingShoes_17 rfl 0 rfl ?_
      refine gf_6_0 (pc := 18) C wd_277 dX6_fittingShoes_18 ?_
      refine gf_5_1 (pc := 21) C st42 wd_160 dX6_fittingShoes_21 ?_
      refine a_iload (pc := 24) C dX6_fittingShoes_24 5 rfl ?_
      refine a_iload (pc := 26) C dX6_fittingShoes_26 7 rfl ?_
      obtain ⟨M3, eM3, h⟩ := bndS h
      refine a_iast (pc := 28) C (st_a2 st42) eM3 dX6_fittingShoes_28 ?_
      refine a_aload_n (pc := 29) C dX6_fittingShoes_29 rfl 0 rfl ?_
      refine a_aload_n (pc := 30) C dX6_fittingShoes_30 rfl 1 rfl ?_
      refine a_aload_n (pc := 31) C dX6_fittingShoes_31 rfl 2 rfl ?_
      refine a_iload_n (pc := 32) C dX6_fittingShoes_32 rfl 3 rfl ?_
      refine a_iload (pc := 33) C dX6_fittingShoes_33 4 rfl ?_
      obtain ⟨q4, eq4, h⟩ := bndS h
      refine a_callVI (pc := 35) C [.ref (X.N.2.1 1), .ref (X.N.2.1 a2), .int x3, .int x4] (ok_fThought_firstWrongFromThen X.l X.N M3 a2 ha2 x3 x4 eq4) rfl mw_X6_firstWrongFromThen wd_811 rfl rfl rfl rfl rfl rfl rfl dX6_fittingShoes_35 (fun z5 => ?_)
      refine a_bipush (pc := 38) C (-2) dX6_fittingShoes_38 rfl ?_
      refine a_icmp_ne (pc := 40) C 52 dX6_fittingShoes_40 rfl (fun c6 => ?_) (fun c6 => ?_)
      · replace h := iteT c6 h
        refine a_iinc (pc := 52) C 7 (x7 + 1) [(7, .int (x7 + 1)), (0, .ref (X.N.2.1 12)), (1, .ref (X.N.2.1 1)), (2, .ref (X.N.2.1 a2)), (3, .int x3), (4, .int x4), (5, .int x5), (6, .int x6)] dX6_fittingShoes_52 rfl rfl (nlt eL rfl) rfl ?_
        refine a_goto (pc := 55) C 6 dX6_fittingShoes_55 rfl ?_
        refine a_sub [1, 2, 3, 4, 5, 6, 7, 0] rfl ?_
        exact ih q4.2 x6 (x7 + 1) h
      · replace h := iteF c6 h
        refine a_iload (pc := 43) C dX6_fittingShoes_43 6 rfl ?_
        refine a_iconst (pc := 45) C 1 dX6_fittingShoes_45 rfl ?_
        refine a_iload (pc := 46) C dX6_fittingShoes_46 7 rfl ?_
        refine a_ishl (pc := 48) C dX6_fittingShoes_48 ?_
        refine a_ior (pc := 49) C dX6_fittingShoes_49 ?_
        refine a_istore (pc := 50) C [(6, .int (x6 ||| (slI 1 x7))), (0, .ref (X.N.2.1 12)), (1, .ref (X.N.2.1 1)), (2, .ref (X.N.2.1 a2)), (3, .int x3), (4, .int x4), (5, .int x5), (7, .int x7)] dX6_fittingShoes_50 (nlt eL rfl) rfl ?_
        refine a_iinc (pc := 52) C 7 (x7 + 1) [(7, .int (x7 + 1)), (6, .int (x6 ||| (slI 1 x7))), (0, .ref (X.N.2.1 12)), (1, .ref (X.N.2.1 1)), (2, .ref (X.N.2.1 a2)), (3, .int x3), (4, .int x4), (5, .int x5)] dX6_fittingShoes_52 rfl rfl (nlt eL rfl) rfl ?_
        refine a_goto (pc := 55) C 6 dX6_fittingShoes_55 rfl ?_
        refine a_sub [2, 3, 4, 5, 6, 7, 1, 0] rfl ?_
        exact ih q4.2 (x6 ||| (slI 1 x7)) (x7 + 1) h
set_option maxHeartbeats 200000 in
set_option maxRecDepth 100000 in
theorem ok_fThought_fittingShoes (l : Launch) (N : Rig) (M : Mem) (a2 : Nat) (ha2 : isRw a2) (x3 : Int32) (x4 : Int32) (x5 : Int32) {r : Int32} {M0 : Mem} (h : fThought_fittingShoes M a2 x3 x4 x5 = some (r, M0)) : Ct l N yX6_fittingShoes cX6_fittingShoes 8 (some .int) 5 [.ref (N.2.1 12), .ref (N.2.1 1), .ref (N.2.1 a2), .int x3, .int x4, .int x5] M (QcI N (some .int) r M0) := by
  refine ct_of (by decide) rfl ?_
  intro X el eN eL C E
  subst el
  subst eN
  unfold fThought_fittingShoes at h
  show WA X M [(0, .ref (X.N.2.1 12)), (1, .ref (X.N.2.1 1)), (2, .ref (X.N.2.1 a2)), (3, .int x3), (4, .int x4), (5, .int x5)] 0 []
  refine a_iconst (pc := 0) C 0 dX6_fittingShoes_0 rfl ?_
  refine a_istore (pc := 1) C [(6, .int 0), (0, .ref (X.N.2.1 12)), (1, .ref (X.N.2.1 1)), (2, .ref (X.N.2.1 a2)), (3, .int x3), (4, .int x4), (5, .int x5)] dX6_fittingShoes_1 (nlt eL rfl) rfl ?_
  refine a_iconst (pc := 3) C 0 dX6_fittingShoes_3 rfl ?_
  refine a_istore (pc := 4) C [(7, .int 0), (6, .int 0), (0, .ref (X.N.2.1 12)), (1, .ref (X.N.2.1 1)), (2, .ref (X.N.2.1 a2)), (3, .int x3), (4, .int x4), (5, .int x5)] dX6_fittingShoes_4 (nlt eL rfl) rfl ?_
  refine a_sub (lv2 := [(0, .ref (X.N.2.1 12)), (1, .ref (X.N.2.1 1)), (2, .ref (X.N.2.1 a2)), (3, .int x3), (4, .int x4), (5, .int x5), (6, .int 0), (7, .int 0)]) [2, 3, 4, 5, 6, 7, 1, 0] rfl ?_
  obtain ⟨o7, eo7, h⟩ := bndS h
  refine ok_fThought_fittingShoes_L6 eL C a2 ha2 x3 x4 x5 o7 ?_ FU M 0 0 eo7
  refine a_iload (pc := 58) C dX6_fittingShoes_58 0 rfl ?_
  exact a_iret (pc := 60) C E rfl (som1 h) (som2 h) dX6_fittingShoes_60
set_option maxHeartbeats 200000 in
set_option maxRecDepth 100000 in
theorem ok_fThought_fittingLucks_L74 {X : Amb} (eL : X.nL = 8) (C : Cx X RX6 cX6_fittingLucks 6) (a2 : Nat) (ha2 : isRw a2) (x3 : Int32) (x4 : Int32) (x5 : Int32) (o : Mem × Int32) (K : WA X o.1 [(6, .int o.2)] 139 []) : ∀ (n : Nat) (M : Mem) (x6 : Int32) (x7 : Int32), fThought_fittingLucks_L74 n M a2 x3 x4 x5 x6 x7 = some o → WA X M [(0, .ref (X.N.2.1 12)), (1, .ref (X.N.2.1 1)), (2, .ref (X.N.2.1 a2)), (3, .int x3), (4, .int x4), (5, .int x5), (6, .int x6), (7, .int x7)] 74 [] := by
  intro n
  induction n with
  | zero => intro _ _ _ h; cases h
  | succ n ih =>
    intro M x6 x7 h
    replace h : fThought_fittingLucks_L74_F (fThought_fittingLucks_L74 n) M a2 x3 x4 x5 x6 x7 = some o := h
    unfold fThought_fittingLucks_L74_F at h
    refine a_iload (pc := 74) C dX6_fittingLucks_74 7 rfl ?_
    refine a_bipush (pc := 76) C 100 dX6_fittingLucks_76 rfl ?_
    refine a_icmp_ge (pc := 78) C 139 dX6_fittingLucks_78 rfl (fun c4 => ?_) (fun c4 => ?_)
    · replace h := iteT c4 h
      refine a_sub (lv2 := [(6, .int x6)]) [6] rfl ?_
      cases somI h
      exact K
    · replace h := iteF c4 h
      refine a_aload_n (pc := 81) C dX6_fittingLucks_81 rfl 0 rfl ?_
      refine a_aload_n (pc := 82) C dX6_fittingLucks_82 rfl 1 rfl ?_
      obtain ⟨q5, eq5, h⟩ := bndS h
      refine a_callVV (pc := 83) C [.ref (X.N.2.1 1)] (ok_fThought_begin X.l X.N M eq5) rfl mw_X6_begin wd_665 rfl rfl rfl rfl rfl rfl rfl dX6_fittingLucks_83 ?_
      refine a_aload_n (pc := 86) C dX6_fittingLucks_86 rfl 0 rfl ?_
      refine gf_6_0 (pc := 87) C wd_277 dX6_fittingLucks_87 ?_
      refine gf_5_0 (pc := 90) C st42 wd_156 dX6_fittingLucks_90 ?_
      refine a_iload (pc := 93) C dX6_fittingLucks_93 5 rfl ?_
      refine a_iload (pc := 95) C dX6_fittingLucks_95 7 rfl ?_
      obtain ⟨M6, eM6, h⟩ := bndS h
      refine a_iast (pc := 97) C (st_a1 st42) eM6 dX6_fittingLucks_97 ?_
      refine a_aload_n (pc := 98) C dX6_fittingLucks_98 rfl 0 rfl ?_
      refine a_aload_n (pc := 99) C dX6_fittingLucks_99 rfl 1 rfl ?_
      refine a_aload_n (pc := 100) C dX6_fittingLucks_100 rfl 2 rfl ?_
      refine a_iload_n (pc := 101) C dX6_fittingLucks_101 rfl 3 rfl ?_
      refine a_iload (pc := 102) C dX6_fittingLucks_102 4 rfl ?_
      obtain ⟨q7, eq7, h⟩ := bndS h
      refine a_callVI (pc := 104) C [.ref (X.N.2.1 1), .ref (X.N.2.1 a2), .int x3, .int x4] (ok_fThought_firstWrongFromThen X.l X.N M6 a2 ha2 x3 x4 eq7) rfl mw_X6_firstWrongFromThen wd_811 rfl rfl rfl rfl rfl rfl rfl dX6_fittingLucks_104 (fun z8 => ?_)
      refine a_bipush (pc := 107) C (-2) dX6_fittingLucks_107 rfl ?_
      refine a_icmp_ne (pc := 109) C 133 dX6_fittingLucks_109 rfl (fun c9 => ?_) (fun c9 => ?_)
      · replace h := iteT c9 h
        refine a_iinc (pc := 133) C 7 (x7 + 1) [(7, .int (x7 + 1)), (0, .ref (X.N.2.1 12)), (1, .ref (X.N.2.1 1)), (2, .ref (X.N.2.1 a2)), (3, .int x3), (4, .int x4), (5, .int x5), (6, .int x6)] dX6_fittingLucks_133 rfl rfl (nlt eL rfl) rfl ?_
        refine a_goto (pc := 136) C 74 dX6_fittingLucks_136 rfl ?_
        refine a_sub [1, 2, 3, 4, 5, 6, 7, 0] rfl ?_
        exact ih q7.2 x6 (x7 + 1) h
      · replace h := iteF c9 h
        refine a_aload_n (pc := 112) C dX6_fittingLucks_112 rfl 0 rfl ?_
        refine a_iload (pc := 113) C dX6_fittingLucks_113 6 rfl ?_
        refine a_if_ne (pc := 115) C 123 dX6_fittingLucks_115 rfl (fun c10 => ?_) (fun c10 => ?_)
        · replace h := iteT c10 h
          refine a_aload_n (pc := 123) C dX6_fittingLucks_123 rfl 0 rfl ?_
          refine gf_6_4 (pc := 124) C wd_283 dX6_fittingLucks_124 ?_
          refine pf_6_4 (pc := 127) C wd_283 dX6_fittingLucks_127 ?_
          refine a_iinc (pc := 130) C 6 (x6 + 1) [(6, .int (x6 + 1)), (0, .ref (X.N.2.1 12)), (1, .ref (X.N.2.1 1)), (2, .ref (X.N.2.1 a2)), (3, .int x3), (4, .int x4), (5, .int x5), (7, .int x7)] dX6_fittingLucks_130 rfl rfl (nlt eL rfl) rfl ?_
          refine a_iinc (pc := 133) C 7 (x7 + 1) [(7, .int (x7 + 1)), (6, .int (x6 + 1)), (0, .ref (X.N.2.1 12)), (1, .ref (X.N.2.1 1)), (2, .ref (X.N.2.1 a2)), (3, .int x3), (4, .int x4), (5, .int x5)] dX6_fittingLucks_133 rfl rfl (nlt eL rfl) rfl ?_
          refine a_goto (pc := 136) C 74 dX6_fittingLucks_136 rfl ?_
          refine a_sub [2, 3, 4, 5, 6, 7, 1, 0] rfl ?_
          exact ih (wI q7.2 12 4 (q7.2.1 12 4)) (x6 + 1) (x7 + 1) h
        · replace h := iteF c10 h
          refine a_iload (pc := 118) C dX6_fittingLucks_118 7 rfl ?_
          refine a_goto (pc := 120) C 127 dX6_fittingLucks_120 rfl ?_
          refine pf_6_4 (pc := 127) C wd_283 dX6_fittingLucks_127 ?_
          refine a_iinc (pc := 130) C 6 (x6 + 1) [(6, .int (x6 + 1)), (0, .ref (X.N.2.1 12)), (1, .ref (X.N.2.1 1)), (2, .ref (X.N.2.1 a2)), (3, .int x3), (4, .int x4), (5, .int x5), (7, .int x7)] dX6_fittingLucks_130 rfl rfl (nlt eL rfl) rfl ?_
          refine a_iinc (pc := 133) C 7 (x7 + 1) [(7, .int (x7 + 1)), (6, .int (x6 + 1)), (0, .ref (X.N.2.1 12)), (1, .ref (X.N.2.1 1)), (2, .ref (X.N.2.1 a2)), (3, .int x3), (4, .int x4), (5, .int x5)] dX6_fittingLucks_133 rfl rfl (nlt eL rfl) rfl ?_
          refine a_goto (pc := 136) C 74 dX6_fittingLucks_136 rfl ?_
          refine a_sub [2, 3, 4, 5, 6, 7, 1, 0] rfl ?_
          exact ih (wI q7.2 12 4 x7) (x6 + 1) (x7 + 1) h
set_option maxHeartbeats 200000 in
set_option maxRecDepth 100000 in
theorem ok_fThought_fittingLucks_J53 {X : Amb} (eL : X.nL = 8) (C : Cx X RX6 cX6_fittingLucks 6) (a2 : Nat) (ha2 : isRw a2) (r : Int32) (M0 : Mem) (E : En X (some .int) (QcI X.N (some .int) r M0)) (M : Mem) (x6 : Int32) (s1 : Int32) (h : fThought_fittingLucks_J53 M a2 x6 s1 = some (r, M0)) : WA X M [(6, .int x6)] 53 [.int s1, .ref (X.N.2.1 12)] := by
  unfold fThought_fittingLucks_J53 at h
  refine pf_6_4 (pc := 53) C wd_283 dX6_fittingLucks_53 ?_
  refine a_iload (pc := 56) C dX6_fittingLucks_56 0 rfl ?_
  refine a_if_eq (pc := 58) C 66 dX6_fittingLucks_58 rfl (fun c16 => ?_) (fun c16 => ?_)
  · replace h := iteT c16 h
    refine a_iconst (pc := 66) C 0 dX6_fittingLucks_66 rfl ?_
    exact a_iret (pc := 67) C E rfl (som1 h) (som2 h) dX6_fittingLucks_67
  · replace h := iteF c16 h
    refine a_bipush (pc := 61) C 100 dX6_fittingLucks_61 rfl ?_
    refine a_goto (pc := 63) C 67 dX6_fittingLucks_63 rfl ?_
    exact a_iret (pc := 67) C E rfl (som1 h) (som2 h) dX6_fittingLucks_67
set_option maxHeartbeats 200000 in
set_option maxRecDepth 100000 in
theorem ok_fThought_fittingLucks_J39 {X : Amb} (eL : X.nL = 8) (C : Cx X RX6 cX6_fittingLucks 6) (a2 : Nat) (ha2 : isRw a2) (r : Int32) (M0 : Mem) (E : En X (some .int) (QcI X.N (some .int) r M0)) (M : Mem) (s0 : Int32) (h : fThought_fittingLucks_J39 M a2 s0 = some (r, M0)) : WA X M [(0, .ref (X.N.2.1 12))] 39 [.int s0] := by
  unfold fThought_fittingLucks_J39 at h
  refine a_istore (pc := 39) C [(6, .int s0), (0, .ref (X.N.2.1 12))] dX6_fittingLucks_39 (nlt eL rfl) rfl ?_
  refine a_aload_n (pc := 41) C dX6_fittingLucks_41 rfl 1 rfl ?_
  refine a_iload (pc := 42) C dX6_fittingLucks_42 0 rfl ?_
  refine a_if_eq (pc := 44) C 51 dX6_fittingLucks_44 rfl (fun c15 => ?_) (fun c15 => ?_)
  · replace h := iteT c15 h
    refine a_bipush (pc := 51) C (-2) dX6_fittingLucks_51 rfl ?_
    refine a_sub (lv2 := [(6, .int s0)]) [0] rfl ?_
    exact ok_fThought_fittingLucks_J53 eL C a2 ha2 r M0 E M s0 (-2) h
  · replace h := iteF c15 h
    refine a_iconst (pc := 47) C 0 dX6_fittingLucks_47 rfl ?_
    refine a_goto (pc := 48) C 53 dX6_fittingLucks_48 rfl ?_
    refine a_sub (lv2 := [(6, .int s0)]) [0] rfl ?_
    exact ok_fThought_fittingLucks_J53 eL C a2 ha2 r M0 E M s0 0 h
set_option maxHeartbeats 200000 in
set_option maxRecDepth 100000 in
theorem ok_fThought_fittingLucks (l : Launch) (N : Rig) (M : Mem) (a2 : Nat) (ha2 : isRw a2) (x3 : Int32) (x4 : Int32) (x5 : Int32) {r : Int32} {M0 : Mem} (h : fThought_fittingLucks M a2 x3 x4 x5 = some (r, M0)) : Ct l N yX6_fittingLucks cX6_fittingLucks 8 (some .int) 6 [.ref (N.2.1 12), .ref (N.2.1 1), .ref (N.2.1 a2), .int x3, .int x4, .int x5] M (QcI N (some .int) r M0) := by
  refine ct_of (by decide) rfl ?_
  intro X el eN eL C E
  subst el
  subst eN
  unfold fThought_fittingLucks at h
  show WA X M [(0, .ref (X.N.2.1 12)), (1, .ref (X.N.2.1 1)), (2, .ref (X.N.2.1 a2)), (3, .int x3), (4, .int x4), (5, .int x5)] 0 []
  refine a_aload_n (pc := 0) C dX6_fittingLucks_0 rfl 0 rfl ?_
  refine a_bipush (pc := 1) C (-2) dX6_fittingLucks_1 rfl ?_
  refine pf_6_4 (pc := 3) C wd_283 dX6_fittingLucks_3 ?_
  refine a_aload_n (pc := 6) C dX6_fittingLucks_6 rfl 1 rfl ?_
  refine gf_9_0 (pc := 7) C wd_251 dX6_fittingLucks_7 ?_
  refine a_iload (pc := 10) C dX6_fittingLucks_10 5 rfl ?_
  refine a_iload (pc := 12) C dX6_fittingLucks_12 4 rfl ?_
  obtain ⟨v1, ev1, h⟩ := bndS h
  refine a_callVI (pc := 14) C [.int x5, .int x4] (ok_fTown_comesThrough X.l X.N (wI M 12 4 (-2)) x5 x4 ev1) rfl mw_X7_comesThrough wd_828 rfl rfl rfl rfl rfl rfl rfl dX6_fittingLucks_14 (fun z2 => ?_)
  refine a_if_ne (pc := 17) C 68 dX6_fittingLucks_17 rfl (fun c3 => ?_) (fun c3 => ?_)
  · replace h := iteT c3 h
    refine a_iconst (pc := 68) C 0 dX6_fittingLucks_68 rfl ?_
    refine a_istore (pc := 69) C [(6, .int 0), (0, .ref (X.N.2.1 12)), (1, .ref (X.N.2.1 1)), (2, .ref (X.N.2.1 a2)), (3, .int x3), (4, .int x4), (5, .int x5)] dX6_fittingLucks_69 (nlt eL rfl) rfl ?_
    refine a_iconst (pc := 71) C 0 dX6_fittingLucks_71 rfl ?_
    refine a_istore (pc := 72) C [(7, .int 0), (6, .int 0), (0, .ref (X.N.2.1 12)), (1, .ref (X.N.2.1 1)), (2, .ref (X.N.2.1 a2)), (3, .int x3), (4, .int x4), (5, .int x5)] dX6_fittingLucks_72 (nlt eL rfl) rfl ?_
    refine a_sub (lv2 := [(0, .ref (X.N.2.1 12)), (1, .ref (X.N.2.1 1)), (2, .ref (X.N.2.1 a2)), (3, .int x3), (4, .int x4), (5, .int x5), (6, .int 0), (7, .int 0)]) [2, 3, 4, 5, 6, 7, 1, 0] rfl ?_
    obtain ⟨o11, eo11, h⟩ := bndS h
    refine ok_fThought_fittingLucks_L74 eL C a2 ha2 x3 x4 x5 o11 ?_ FU (wI M 12 4 (-2)) 0 0 eo11
    refine a_iload (pc := 139) C dX6_fittingLucks_139 0 rfl ?_
    exact a_iret (pc := 141) C E rfl (som1 h) (som2 h) dX6_fittingLucks_141
  · replace h := iteF c3 h
    refine a_aload_n (pc := 20) C dX6_fittingLucks_20 rfl 0 rfl ?_
    refine a_aload_n (pc := 21) C dX6_fittingLucks_21 rfl 1 rfl ?_
    refine a_aload_n (pc := 22) C dX6_fittingLucks_22 rfl 2 rfl ?_
    refine a_iload_n (pc := 23) C dX6_fittingLucks_23 rfl 3 rfl ?_
    refine a_iload (pc := 24) C dX6_fittingLucks_24 4 rfl ?_
    obtain ⟨q12, eq12, h⟩ := bndS h
    refine a_callVI (pc := 26) C [.ref (X.N.2.1 1), .ref (X.N.2.1 a2), .int x3, .int x4] (ok_fThought_firstWrong X.l X.N (wI M 12 4 (-2)) a2 ha2 x3 x4 eq12) rfl mw_X6_firstWrong wd_829 rfl rfl rfl rfl rfl rfl rfl dX6_fittingLucks_26 (fun z13 => ?_)
    refine a_bipush (pc := 29) C (-2) dX6_fittingLucks_29 rfl ?_
    refine a_icmp_ne (pc := 31) C 38 dX6_fittingLucks_31 rfl (fun c14 => ?_) (fun c14 => ?_)
    · replace h := iteT c14 h
      refine a_iconst (pc := 38) C 0 dX6_fittingLucks_38 rfl ?_
      refine a_sub (lv2 := [(0, .ref (X.N.2.1 12))]) [0] rfl ?_
      exact ok_fThought_fittingLucks_J39 eL C a2 ha2 r M0 E q12.2 0 h
    · replace h := iteF c14 h
      refine a_iconst (pc := 34) C 1 dX6_fittingLucks_34 rfl ?_
      refine a_goto (pc := 35) C 39 dX6_fittingLucks_35 rfl ?_
      refine a_sub (lv2 := [(0, .ref (X.N.2.1 12))]) [0] rfl ?_
      exact ok_fThought_fittingLucks_J39 eL C a2 ha2 r M0 E q12.2 1 h
set_option maxHeartbeats 200000 in
set_option maxRecDepth 100000 in
theorem ok_fThought_byDraws_J76_23 {X : Amb} (eL : X.nL = 11) (C : Cx X RX6 cX6_byDraws 4) (x3 : Int32) (x6 : Int32) (x8 : Int32) (x9 : Int32) (x4 : Int32) (x5 : Int32) (o : Mem × Int32) (K : WA X o.1 [(0, .ref (X.N.2.1 12)), (1, .ref (X.N.2.1 1)), (3, .int x3), (4, .int x4), (5, .int x5), (6, .int x6), (7, .int o.2), (8, .int x8), (9, .int x9)] 97 []) (ihf : Mem → Int32 → Int32 → Int32 → Int32 → Option (Mem × Int32)) (ih : ∀ (M : Mem) (x7 : Int32) (x10 : Int32), ihf M x4 x5 x7 x10 = some o → WA X M [(0, .ref (X.N.2.1 12)), (1, .ref (X.N.2.1 1)), (3, .int x3), (4, .int x4), (5, .int x5), (6, .int x6), (7, .int x7), (8, .int x8), (9, .int x9), (10, .int x10)] 23 []) (M : Mem) (x7 : Int32) (x10 : Int32) (h : fThought_byDraws_J76_23 ihf M x4 x5 x7 x10 = some o) : WA X M [(0, .ref (X.N.2.1 12)), (1, .ref (X.N.2.1 1)), (3, .int x3), (4, .int x4), (5, .int x5), (6, .int x6), (7, .int x7), (8, .int x8), (9, .int x9), (10, .int x10)] 76 [] := by
  unfold fThought_byDraws_J76_23 at h
  refine a_aload_n (pc := 76) C dX6_byDraws_76 rfl 0 rfl ?_
  refine gf_6_0 (pc := 77) C wd_277 dX6_byDraws_77 ?_
  refine a_aload_n (pc := 80) C dX6_byDraws_80 rfl 1 rfl ?_
  refine gf_9_0 (pc := 81) C wd_251 dX6_byDraws_81 ?_
  refine a_aload_n (pc := 84) C dX6_byDraws_84 rfl 1 rfl ?_
  refine gf_9_2 (pc := 85) C wd_259 dX6_byDraws_85 ?_
  obtain ⟨q5, eq5, h⟩ := bndS h
  refine a_callVV (pc := 88) C [.ref (X.N.2.1 2), .ref (X.N.2.1 7)] (ok_fStreet_pass X.l X.N M 42 st42 eq5) rfl mw_X5_pass wd_678 (st_shp st42) (st_blt st42) rfl rfl rfl rfl rfl dX6_byDraws_88 ?_
  refine a_iinc (pc := 91) C 9 (x10 + 1) [(10, .int (x10 + 1)), (0, .ref (X.N.2.1 12)), (1, .ref (X.N.2.1 1)), (3, .int x3), (4, .int x4), (5, .int x5), (6, .int x6), (7, .int x7), (8, .int x8), (9, .int x9)] dX6_byDraws_91 rfl rfl (nlt eL rfl) rfl ?_
  refine a_goto (pc := 94) C 23 dX6_byDraws_94 rfl ?_
  refine a_sub [1, 2, 3, 4, 5, 6, 7, 8, 9, 0] rfl ?_
  exact ih q5 x7 (x10 + 1) h
set_option maxHeartbeats 200000 in
set_option maxRecDepth 100000 in
theorem ok_fThought_byDraws_L23 {X : Amb} (eL : X.nL = 11) (C : Cx X RX6 cX6_byDraws 4) (x3 : Int32) (x6 : Int32) (x8 : Int32) (x9 : Int32) (x4 : Int32) (x5 : Int32) (o : Mem × Int32) (K : WA X o.1 [(0, .ref (X.N.2.1 12)), (1, .ref (X.N.2.1 1)), (3, .int x3), (4, .int x4), (5, .int x5), (6, .int x6), (7, .int o.2), (8, .int x8), (9, .int x9)] 97 []) : ∀ (n : Nat) (M : Mem) (x7 : Int32) (x10 : Int32), fThought_byDraws_L23 n M x4 x5 x7 x10 = some o → WA X M [(0, .ref (X.N.2.1 12)), (1, .ref (X.N.2.1 1)), (3, .int x3), (4, .int x4), (5, .int x5), (6, .int x6), (7, .int x7), (8, .int x8), (9, .int x9), (10, .int x10)] 23 [] := by
  intro n
  induction n with
  | zero => intro _ _ _ h; cases h
  | succ n ih =>
    intro M x7 x10 h
    replace h : fThought_byDraws_L23_F (fThought_byDraws_L23 n) M x4 x5 x7 x10 = some o := h
    unfold fThought_byDraws_L23_F at h
    refine a_iload (pc := 23) C dX6_byDraws_23 9 rfl ?_
    refine a_iload (pc := 25) C dX6_byDraws_25 3 rfl ?_
    refine a_icmp_ge (pc := 27) C 97 dX6_byDraws_27 rfl (fun c3 => ?_) (fun c3 => ?_)
    · replace h := iteT c3 h
      refine a_sub (lv2 := [(0, .ref (X.N.2.1 12)), (1, .ref (X.N.2.1 1)), (3, .int x3), (4, .int x4), (5, .int x5), (6, .int x6), (7, .int x7), (8, .int x8), (9, .int x9)]) [0, 1, 2, 3, 4, 5, 6, 7, 8] rfl ?_
      cases somI h
      exact K
    · replace h := iteF c3 h
      refine a_iload (pc := 30) C dX6_byDraws_30 6 rfl ?_
      refine a_ldc (pc := 32) C (v := 1103515245) dX6_byDraws_32 wd_887 ?_
      refine a_imul (pc := 34) C dX6_byDraws_34 ?_
      refine a_sipush (pc := 35) C 12345 dX6_byDraws_35 rfl ?_
      refine a_iadd (pc := 38) C dX6_byDraws_38 ?_
      refine a_istore (pc := 39) C [(7, .int ((x7 * 1103515245) + 12345)), (0, .ref (X.N.2.1 12)), (1, .ref (X.N.2.1 1)), (3, .int x3), (4, .int x4), (5, .int x5), (6, .int x6), (8, .int x8), (9, .int x9), (10, .int x10)] dX6_byDraws_39 (nlt eL rfl) rfl ?_
      refine a_iload (pc := 41) C dX6_byDraws_41 0 rfl ?_
      refine a_bipush (pc := 43) C 16 dX6_byDraws_43 rfl ?_
      refine a_iushr (pc := 45) C dX6_byDraws_45 ?_
      refine a_bipush (pc := 46) C 12 dX6_byDraws_46 rfl ?_
      refine a_irem (pc := 48) C dX6_byDraws_48 (by decide) ?_
      refine a_iload (pc := 49) C dX6_byDraws_49 5 rfl ?_
      refine a_icmp_ge (pc := 51) C 76 dX6_byDraws_51 rfl (fun c4 => ?_) (fun c4 => ?_)
      · replace h := iteT c4 h
        refine a_sub (lv2 := [(0, .ref (X.N.2.1 12)), (1, .ref (X.N.2.1 1)), (3, .int x3), (4, .int x4), (5, .int x5), (6, .int x6), (7, .int ((x7 * 1103515245) + 12345)), (8, .int x8), (9, .int x9), (10, .int x10)]) [1, 2, 3, 4, 5, 6, 0, 7, 8, 9] rfl ?_
        exact ok_fThought_byDraws_J76_23 eL C x3 x6 x8 x9 x4 x5 o K _ ih M ((x7 * 1103515245) + 12345) x10 h
      · replace h := iteF c4 h
        refine a_aload_n (pc := 54) C dX6_byDraws_54 rfl 1 rfl ?_
        refine gf_6_0 (pc := 55) C wd_277 dX6_byDraws_55 ?_
        refine a_aload_n (pc := 58) C dX6_byDraws_58 rfl 2 rfl ?_
        refine gf_9_0 (pc := 59) C wd_251 dX6_byDraws_59 ?_
        refine gf_7_4 (pc := 62) C wd_131 dX6_byDraws_62 ?_
        refine a_iload (pc := 65) C dX6_byDraws_65 0 rfl ?_
        refine a_bipush (pc := 67) C 8 dX6_byDraws_67 rfl ?_
        refine a_iushr (pc := 69) C dX6_byDraws_69 ?_
        refine a_bipush (pc := 70) C 36 dX6_byDraws_70 rfl ?_
        refine a_irem (pc := 72) C dX6_byDraws_72 (by decide) ?_
        obtain ⟨q6, eq6, h⟩ := bndS h
        refine a_callVV (pc := 73) C [.int (M.1 2 4), .int (rmI (usI ((x7 * 1103515245) + 12345) 8) 36)] (ok_fStreet_halve X.l X.N M 42 st42 (M.1 2 4) (rmI (usI ((x7 * 1103515245) + 12345) 8) 36) eq6) rfl mw_X5_halve wd_888 (st_shp st42) (st_blt st42) rfl rfl rfl rfl rfl dX6_byDraws_73 ?_
        refine a_sub (lv2 := [(0, .ref (X.N.2.1 12)), (1, .ref (X.N.2.1 1)), (3, .int x3), (4, .int x4), (5, .int x5), (6, .int x6), (7, .int ((x7 * 1103515245) + 12345)), (8, .int x8), (9, .int x9), (10, .int x10)]) [1, 2, 3, 4, 5, 6, 0, 7, 8, 9] rfl ?_
        exact ok_fThought_byDraws_J76_23 eL C x3 x6 x8 x9 x4 x5 o K _ ih q6 ((x7 * 1103515245) + 12345) x10 h
set_option maxHeartbeats 200000 in
set_option maxRecDepth 100000 in
theorem ok_fThought_byDraws_L9 {X : Amb} (eL : X.nL = 11) (C : Cx X RX6 cX6_byDraws 4) (x3 : Int32) (x4 : Int32) (x5 : Int32) (x6 : Int32) (o : Mem × Int32) (K : WA X o.1 [(8, .int o.2)] 124 []) : ∀ (n : Nat) (M : Mem) (x7 : Int32) (x8 : Int32) (x9 : Int32), fThought_byDraws_L9 n M x3 x4 x5 x6 x7 x8 x9 = some o → WA X M [(0, .ref (X.N.2.1 12)), (1, .ref (X.N.2.1 1)), (3, .int x3), (4, .int x4), (5, .int x5), (6, .int x6), (7, .int x7), (8, .int x8), (9, .int x9)] 9 [] := by
  intro n
  induction n with
  | zero => intro _ _ _ _ h; cases h
  | succ n ih =>
    intro M x7 x8 x9 h
    replace h : fThought_byDraws_L9_F (fThought_byDraws_L9 n) M x3 x4 x5 x6 x7 x8 x9 = some o := h
    unfold fThought_byDraws_L9_F at h
    refine a_iload (pc := 9) C dX6_byDraws_9 8 rfl ?_
    refine a_iload_n (pc := 11) C dX6_byDraws_11 rfl 2 rfl ?_
    refine a_icmp_ge (pc := 12) C 124 dX6_byDraws_12 rfl (fun c1 => ?_) (fun c1 => ?_)
    · replace h := iteT c1 h
      refine a_sub (lv2 := [(8, .int x8)]) [7] rfl ?_
      cases somI h
      exact K
    · replace h := iteF c1 h
      refine a_aload_n (pc := 15) C dX6_byDraws_15 rfl 0 rfl ?_
      refine a_aload_n (pc := 16) C dX6_byDraws_16 rfl 1 rfl ?_
      obtain ⟨q2, eq2, h⟩ := bndS h
      refine a_callVV (pc := 17) C [.ref (X.N.2.1 1)] (ok_fThought_begin X.l X.N M eq2) rfl mw_X6_begin wd_665 rfl rfl rfl rfl rfl rfl rfl dX6_byDraws_17 ?_
      refine a_iconst (pc := 20) C 0 dX6_byDraws_20 rfl ?_
      refine a_istore (pc := 21) C [(10, .int 0), (0, .ref (X.N.2.1 12)), (1, .ref (X.N.2.1 1)), (3, .int x3), (4, .int x4), (5, .int x5), (6, .int x6), (7, .int x7), (8, .int x8), (9, .int x9)] dX6_byDraws_21 (nlt eL rfl) rfl ?_
      refine a_sub (lv2 := [(0, .ref (X.N.2.1 12)), (1, .ref (X.N.2.1 1)), (3, .int x3), (4, .int x4), (5, .int x5), (6, .int x6), (7, .int x7), (8, .int x8), (9, .int x9), (10, .int 0)]) [1, 2, 3, 4, 5, 6, 7, 8, 9, 0] rfl ?_
      obtain ⟨o7, eo7, h⟩ := bndS h
      refine ok_fThought_byDraws_L23 eL C x3 x6 x8 x9 x4 x5 o7 ?_ FU q2 x7 0 eo7
      refine a_iload (pc := 97) C dX6_byDraws_97 7 rfl ?_
      refine a_aload_n (pc := 99) C dX6_byDraws_99 rfl 0 rfl ?_
      refine gf_6_0 (pc := 100) C wd_277 dX6_byDraws_100 ?_
      refine a_iload (pc := 103) C dX6_byDraws_103 5 rfl ?_
      refine a_aload_n (pc := 105) C dX6_byDraws_105 rfl 1 rfl ?_
      refine gf_9_0 (pc := 106) C wd_251 dX6_byDraws_106 ?_
      refine gf_7_4 (pc := 109) C wd_131 dX6_byDraws_109 ?_
      obtain ⟨v8, ev8, h⟩ := bndS h
      refine a_callVI (pc := 112) C [.int x6, .int (o7.1.1 2 4)] (ok_fStreet_wealth X.l X.N o7.1 42 st42 x6 (o7.1.1 2 4) ev8) rfl mw_X5_wealth wd_892 (st_shp st42) (st_blt st42) rfl rfl rfl rfl rfl dX6_byDraws_112 (fun z9 => ?_)
      refine a_iadd (pc := 115) C dX6_byDraws_115 ?_
      refine a_istore (pc := 116) C [(8, .int (x8 + v8)), (0, .ref (X.N.2.1 12)), (1, .ref (X.N.2.1 1)), (3, .int x3), (4, .int x4), (5, .int x5), (6, .int x6), (7, .int o7.2), (9, .int x9)] dX6_byDraws_116 (nlt eL rfl) rfl ?_
      refine a_iinc (pc := 118) C 8 (x9 + 1) [(9, .int (x9 + 1)), (8, .int (x8 + v8)), (0, .ref (X.N.2.1 12)), (1, .ref (X.N.2.1 1)), (3, .int x3), (4, .int x4), (5, .int x5), (6, .int x6), (7, .int o7.2)] dX6_byDraws_118 rfl rfl (nlt eL rfl) rfl ?_
      refine a_goto (pc := 121) C 9 dX6_byDraws_121 rfl ?_
      refine a_sub [2, 3, 4, 5, 6, 7, 8, 1, 0] rfl ?_
      exact ih o7.1 o7.2 (x8 + v8) (x9 + 1) h
set_option maxHeartbeats 200000 in
set_option maxRecDepth 100000 in
theorem ok_fThought_byDraws (l : Launch) (N : Rig) (M : Mem) (x2 : Int32) (x3 : Int32) (x4 : Int32) (x5 : Int32) (x6 : Int32) {r : Int32} {M0 : Mem} (h : fThought_byDraws M x2 x3 x4 x5 x6 = some (r, M0)) : Ct l N yX6_byDraws cX6_byDraws 11 (some .int) 4 [.ref (N.2.1 12), .ref (N.2.1 1), .int x2, .int x3, .int x4, .int x5, .int x6] M (QcI N (some .int) r M0) := by
  refine ct_of (by decide) rfl ?_
  intro X el eN eL C E
  subst el
  subst eN
  unfold fThought_byDraws at h
  show WA X M [(0, .ref (X.N.2.1 12)), (1, .ref (X.N.2.1 1)), (2, .int x2), (3, .int x3), (4, .int x4), (5, .int x5), (6, .int x6)] 0 []
  refine a_iload_n (pc := 0) C dX6_byDraws_0 rfl 2 rfl ?_
  refine a_istore (pc := 1) C [(7, .int x2), (0, .ref (X.N.2.1 12)), (1, .ref (X.N.2.1 1)), (2, .int x2), (3, .int x3), (4, .int x4), (5, .int x5), (6, .int x6)] dX6_byDraws_1 (nlt eL rfl) rfl ?_
  refine a_iconst (pc := 3) C 0 dX6_byDraws_3 rfl ?_
  refine a_istore (pc := 4) C [(8, .int 0), (7, .int x2), (0, .ref (X.N.2.1 12)), (1, .ref (X.N.2.1 1)), (2, .int x2), (3, .int x3), (4, .int x4), (5, .int x5), (6, .int x6)] dX6_byDraws_4 (nlt eL rfl) rfl ?_
  refine a_iconst (pc := 6) C 0 dX6_byDraws_6 rfl ?_
  refine a_istore (pc := 7) C [(9, .int 0), (8, .int 0), (7, .int x2), (0, .ref (X.N.2.1 12)), (1, .ref (X.N.2.1 1)), (2, .int x2), (3, .int x3), (4, .int x4), (5, .int x5), (6, .int x6)] dX6_byDraws_7 (nlt eL rfl) rfl ?_
  refine a_sub (lv2 := [(0, .ref (X.N.2.1 12)), (1, .ref (X.N.2.1 1)), (3, .int x3), (4, .int x4), (5, .int x5), (6, .int x6), (7, .int x2), (8, .int 0), (9, .int 0)]) [3, 4, 6, 7, 8, 9, 2, 1, 0] rfl ?_
  obtain ⟨o10, eo10, h⟩ := bndS h
  refine ok_fThought_byDraws_L9 eL C x3 x4 x5 x6 o10 ?_ FU M x2 0 0 eo10
  refine a_iload (pc := 124) C dX6_byDraws_124 0 rfl ?_
  exact a_iret (pc := 126) C E rfl (som1 h) (som2 h) dX6_byDraws_126
set_option maxHeartbeats 200000 in
set_option maxRecDepth 100000 in
theorem ok_fTown_beside (l : Launch) (N : Rig) (M : Mem) (x0 : Int32) (x1 : Int32) : Ct l N yX7_beside cX7_beside 2 (some .int) 0 [.int x0, .int x1] M (QcI N (some .int) (fTown_beside x0 x1) M) := by
  obtain ⟨r, h⟩ : ∃ r, fTown_beside x0 x1 = r := ⟨_, rfl⟩
  rw [h]
  refine ct_of (by decide) rfl ?_
  intro X el eN eL C E
  subst el
  subst eN
  unfold fTown_beside at h
  show WA X M [(0, .int x0), (1, .int x1)] 0 []
  refine a_iload_n (pc := 0) C dX7_beside_0 rfl 1 rfl ?_
  by_cases c1 : x1 = 0
  · replace h := iteT c1 h
    refine a_tsw_in (pc := 1) C 0 28 dX7_beside_1 c1 (by decide) (by decide) rfl rfl ?_
    refine a_iload_n (pc := 28) C dX7_beside_28 rfl 0 rfl ?_
    refine a_bipush (pc := 29) C 6 dX7_beside_29 rfl ?_
    refine a_icmp_lt (pc := 31) C 41 dX7_beside_31 rfl (fun c2 => ?_) (fun c2 => ?_)
    · replace h := iteT c2 h
      refine a_iconst (pc := 41) C (-1) dX7_beside_41 rfl ?_
      exact a_iret (pc := 42) C E rfl h rfl dX7_beside_42
    · replace h := iteF c2 h
      refine a_iload_n (pc := 34) C dX7_beside_34 rfl 0 rfl ?_
      refine a_bipush (pc := 35) C 6 dX7_beside_35 rfl ?_
      refine a_isub (pc := 37) C dX7_beside_37 ?_
      refine a_goto (pc := 38) C 42 dX7_beside_38 rfl ?_
      exact a_iret (pc := 42) C E rfl h rfl dX7_beside_42
  replace h := iteF c1 h
  by_cases c3 : x1 = 1
  · replace h := iteT c3 h
    refine a_tsw_in (pc := 1) C 1 43 dX7_beside_1 c3 (by decide) (by decide) rfl rfl ?_
    refine a_iload_n (pc := 43) C dX7_beside_43 rfl 0 rfl ?_
    refine a_bipush (pc := 44) C 6 dX7_beside_44 rfl ?_
    refine a_irem (pc := 46) C dX7_beside_46 (by decide) ?_
    refine a_iconst (pc := 47) C 5 dX7_beside_47 rfl ?_
    refine a_icmp_ge (pc := 48) C 57 dX7_beside_48 rfl (fun c4 => ?_) (fun c4 => ?_)
    · replace h := iteT c4 h
      refine a_iconst (pc := 57) C (-1) dX7_beside_57 rfl ?_
      exact a_iret (pc := 58) C E rfl h rfl dX7_beside_58
    · replace h := iteF c4 h
      refine a_iload_n (pc := 51) C dX7_beside_51 rfl 0 rfl ?_
      refine a_iconst (pc := 52) C 1 dX7_beside_52 rfl ?_
      refine a_iadd (pc := 53) C dX7_beside_53 ?_
      refine a_goto (pc := 54) C 58 dX7_beside_54 rfl ?_
      exact a_iret (pc := 58) C E rfl h rfl dX7_beside_58
  replace h := iteF c3 h
  by_cases c5 : x1 = 2
  · replace h := iteT c5 h
    refine a_tsw_in (pc := 1) C 2 59 dX7_beside_1 c5 (by decide) (by decide) rfl rfl ?_
    refine a_iload_n (pc := 59) C dX7_beside_59 rfl 0 rfl ?_
    refine a_bipush (pc := 60) C 30 dX7_beside_60 rfl ?_
    refine a_icmp_ge (pc := 62) C 72 dX7_beside_62 rfl (fun c6 => ?_) (fun c6 => ?_)
    · replace h := iteT c6 h
      refine a_iconst (pc := 72) C (-1) dX7_beside_72 rfl ?_
      exact a_iret (pc := 73) C E rfl h rfl dX7_beside_73
    · replace h := iteF c6 h
      refine a_iload_n (pc := 65) C dX7_beside_65 rfl 0 rfl ?_
      refine a_bipush (pc := 66) C 6 dX7_beside_66 rfl ?_
      refine a_iadd (pc := 68) C dX7_beside_68 ?_
      refine a_goto (pc := 69) C 73 dX7_beside_69 rfl ?_
      exact a_iret (pc := 73) C E rfl h rfl dX7_beside_73
  replace h := iteF c5 h
  refine a_tsw_out (pc := 1) C 74 dX7_beside_1 (by have := neI 0 rfl c1; have := neI 1 rfl c3; have := neI 2 rfl c5; omega) rfl ?_
  refine a_iload_n (pc := 74) C dX7_beside_74 rfl 0 rfl ?_
  refine a_bipush (pc := 75) C 6 dX7_beside_75 rfl ?_
  refine a_irem (pc := 77) C dX7_beside_77 (by decide) ?_
  refine a_if_le (pc := 78) C 87 dX7_beside_78 rfl (fun c7 => ?_) (fun c7 => ?_)
  · replace h := iteT c7 h
    refine a_iconst (pc := 87) C (-1) dX7_beside_87 rfl ?_
    exact a_iret (pc := 88) C E rfl h rfl dX7_beside_88
  · replace h := iteF c7 h
    refine a_iload_n (pc := 81) C dX7_beside_81 rfl 0 rfl ?_
    refine a_iconst (pc := 82) C 1 dX7_beside_82 rfl ?_
    refine a_isub (pc := 83) C dX7_beside_83 ?_
    refine a_goto (pc := 84) C 88 dX7_beside_84 rfl ?_
    exact a_iret (pc := 88) C E rfl h rfl dX7_beside_88
set_option maxHeartbeats 200000 in
set_option maxRecDepth 100000 in
theorem ok_fTown_lookBelow_L4 {X : Amb} (eL : X.nL = 5) (C : Cx X RX7 cX7_lookBelow 1) (x1 : Int32) (M : Mem) (o : Int32) (K : WA X M [(0, .ref (X.N.2.1 2)), (1, .int x1), (2, .int o)] 46 []) : ∀ (n : Nat) (x2 : Int32) (x3 : Int32), fTown_lookBelow_L4 n M x1 x2 x3 = some o → WA X M [(0, .ref (X.N.2.1 2)), (1, .int x1), (2, .int x2), (3, .int x3)] 4 [] := by
  intro n
  induction n with
  | zero => intro _ _ h; cases h
  | succ n ih =>
    intro x2 x3 h
    replace h : fTown_lookBelow_L4_F (fTown_lookBelow_L4 n) M x1 x2 x3 = some o := h
    unfold fTown_lookBelow_L4_F at h
    refine a_iload_n (pc := 4) C dX7_lookBelow_4 rfl 3 rfl ?_
    refine a_iconst (pc := 5) C 4 dX7_lookBelow_5 rfl ?_
    refine a_icmp_ge (pc := 6) C 46 dX7_lookBelow_6 rfl (fun c1 => ?_) (fun c1 => ?_)
    · replace h := iteT c1 h
      refine a_sub (lv2 := [(0, .ref (X.N.2.1 2)), (1, .int x1), (2, .int x2)]) [0, 1, 2] rfl ?_
      cases somI h
      exact K
    · replace h := iteF c1 h
      refine a_iload_n (pc := 9) C dX7_lookBelow_9 rfl 1 rfl ?_
      refine a_iload_n (pc := 10) C dX7_lookBelow_10 rfl 3 rfl ?_
      refine a_callSI (pc := 11) C [.int x1, .int x3] (ok_fTown_beside X.l X.N M x1 x3) rfl mw_X7_beside wd_546 rfl rfl rfl dX7_lookBelow_11 (fun z2 => ?_)
      refine a_istore (pc := 14) C [(4, .int (fTown_beside x1 x3)), (0, .ref (X.N.2.1 2)), (1, .int x1), (2, .int x2), (3, .int x3)] dX7_lookBelow_14 (nlt eL rfl) rfl ?_
      refine a_iload (pc := 16) C dX7_lookBelow_16 0 rfl ?_
      refine a_if_lt (pc := 18) C 40 dX7_lookBelow_18 rfl (fun c3 => ?_) (fun c3 => ?_)
      · replace h := iteT c3 h
        refine a_iinc (pc := 40) C 4 (x3 + 1) [(3, .int (x3 + 1)), (4, .int (fTown_beside x1 x3)), (0, .ref (X.N.2.1 2)), (1, .int x1), (2, .int x2)] dX7_lookBelow_40 rfl rfl (nlt eL rfl) rfl ?_
        refine a_goto (pc := 43) C 4 dX7_lookBelow_43 rfl ?_
        refine a_sub [2, 3, 4, 0] rfl ?_
        exact ih x2 (x3 + 1) h
      · replace h := iteF c3 h
        refine a_aload_n (pc := 21) C dX7_lookBelow_21 rfl 1 rfl ?_
        refine gf_7_0 (pc := 22) C wd_118 dX7_lookBelow_22 ?_
        refine a_iload (pc := 25) C dX7_lookBelow_25 0 rfl ?_
        obtain ⟨v4, ev4, h⟩ := bndS h
        refine a_iald (pc := 27) C rfl ev4 dX7_lookBelow_27 ?_
        refine a_aload_n (pc := 28) C dX7_lookBelow_28 rfl 1 rfl ?_
        refine gf_7_0 (pc := 29) C wd_118 dX7_lookBelow_29 ?_
        refine a_iload_n (pc := 32) C dX7_lookBelow_32 rfl 3 rfl ?_
        obtain ⟨v5, ev5, h⟩ := bndS h
        refine a_iald (pc := 33) C rfl ev5 dX7_lookBelow_33 ?_
        refine a_icmp_ge (pc := 34) C 40 dX7_lookBelow_34 rfl (fun c6 => ?_) (fun c6 => ?_)
        · replace h := iteT c6 h
          refine a_iinc (pc := 40) C 4 (x3 + 1) [(3, .int (x3 + 1)), (4, .int (fTown_beside x1 x3)), (0, .ref (X.N.2.1 2)), (1, .int x1), (2, .int x2)] dX7_lookBelow_40 rfl rfl (nlt eL rfl) rfl ?_
          refine a_goto (pc := 43) C 4 dX7_lookBelow_43 rfl ?_
          refine a_sub [2, 3, 4, 0] rfl ?_
          exact ih x2 (x3 + 1) h
        · replace h := iteF c6 h
          refine a_iload (pc := 37) C dX7_lookBelow_37 0 rfl ?_
          refine a_istore_n (pc := 39) C [(2, .int (fTown_beside x1 x3)), (4, .int (fTown_beside x1 x3)), (0, .ref (X.N.2.1 2)), (1, .int x1), (3, .int x3)] dX7_lookBelow_39 rfl (nlt eL rfl) rfl ?_
          refine a_iinc (pc := 40) C 4 (x3 + 1) [(3, .int (x3 + 1)), (2, .int (fTown_beside x1 x3)), (4, .int (fTown_beside x1 x3)), (0, .ref (X.N.2.1 2)), (1, .int x1)] dX7_lookBelow_40 rfl rfl (nlt eL rfl) rfl ?_
          refine a_goto (pc := 43) C 4 dX7_lookBelow_43 rfl ?_
          refine a_sub [3, 4, 1, 0] rfl ?_
          exact ih (fTown_beside x1 x3) (x3 + 1) h
set_option maxHeartbeats 200000 in
set_option maxRecDepth 100000 in
theorem ok_fTown_lookBelow (l : Launch) (N : Rig) (M : Mem) (x1 : Int32) {M0 : Mem} (h : fTown_lookBelow M x1 = some M0) : Ct l N yX7_lookBelow cX7_lookBelow 5 none 1 [.ref (N.2.1 2), .int x1] M (QcV N M0) := by
  refine ct_of (by decide) rfl ?_
  intro X el eN eL C E
  subst el
  subst eN
  unfold fTown_lookBelow at h
  show WA X M [(0, .ref (X.N.2.1 2)), (1, .int x1)] 0 []
  refine a_iload_n (pc := 0) C dX7_lookBelow_0 rfl 1 rfl ?_
  refine a_istore_n (pc := 1) C [(2, .int x1), (0, .ref (X.N.2.1 2)), (1, .int x1)] dX7_lookBelow_1 rfl (nlt eL rfl) rfl ?_
  refine a_iconst (pc := 2) C 0 dX7_lookBelow_2 rfl ?_
  refine a_istore_n (pc := 3) C [(3, .int 0), (2, .int x1), (0, .ref (X.N.2.1 2)), (1, .int x1)] dX7_lookBelow_3 rfl (nlt eL rfl) rfl ?_
  refine a_sub (lv2 := [(0, .ref (X.N.2.1 2)), (1, .int x1), (2, .int x1), (3, .int 0)]) [2, 3, 1, 0] rfl ?_
  obtain ⟨o7, eo7, h⟩ := bndS h
  refine ok_fTown_lookBelow_L4 eL C x1 M o7 ?_ FU x1 0 eo7
  refine a_aload_n (pc := 46) C dX7_lookBelow_46 rfl 0 rfl ?_
  refine gf_7_1 (pc := 47) C wd_121 dX7_lookBelow_47 ?_
  refine a_iload_n (pc := 50) C dX7_lookBelow_50 rfl 1 rfl ?_
  refine a_iload_n (pc := 51) C dX7_lookBelow_51 rfl 2 rfl ?_
  refine a_iload_n (pc := 52) C dX7_lookBelow_52 rfl 1 rfl ?_
  refine a_icmp_ne (pc := 53) C 60 dX7_lookBelow_53 rfl (fun c8 => ?_) (fun c8 => ?_)
  · replace h := iteT c8 h
    refine a_iload_n (pc := 60) C dX7_lookBelow_60 rfl 2 rfl ?_
    obtain ⟨M9, eM9, h⟩ := bndS h
    refine a_iast (pc := 61) C rfl eM9 dX7_lookBelow_61 ?_
    exact a_vret (pc := 62) C E (somI h) dX7_lookBelow_62
  · replace h := iteF c8 h
    refine a_iconst (pc := 56) C (-1) dX7_lookBelow_56 rfl ?_
    refine a_goto (pc := 57) C 61 dX7_lookBelow_57 rfl ?_
    obtain ⟨M10, eM10, h⟩ := bndS h
    refine a_iast (pc := 61) C rfl eM10 dX7_lookBelow_61 ?_
    exact a_vret (pc := 62) C E (somI h) dX7_lookBelow_62
set_option maxHeartbeats 200000 in
set_option maxRecDepth 100000 in
theorem ok_fTown_raise_L14 {X : Amb} (eL : X.nL = 5) (C : Cx X RX7 cX7_raise 2) (x1 : Int32) (o : Mem) (K : WA X o [] 43 []) : ∀ (n : Nat) (M : Mem) (x3 : Int32), fTown_raise_L14 n M x1 x3 = some o → WA X M [(0, .ref (X.N.2.1 2)), (1, .int x1), (3, .int x3)] 14 [] := by
  intro n
  induction n with
  | zero => intro _ _ h; cases h
  | succ n ih =>
    intro M x3 h
    replace h : fTown_raise_L14_F (fTown_raise_L14 n) M x1 x3 = some o := h
    unfold fTown_raise_L14_F at h
    refine a_iload_n (pc := 14) C dX7_raise_14 rfl 2 rfl ?_
    refine a_iconst (pc := 15) C 4 dX7_raise_15 rfl ?_
    refine a_icmp_ge (pc := 16) C 43 dX7_raise_16 rfl (fun c3 => ?_) (fun c3 => ?_)
    · replace h := iteT c3 h
      refine a_sub (lv2 := []) [] rfl ?_
      cases somI h
      exact K
    · replace h := iteF c3 h
      refine a_iload_n (pc := 19) C dX7_raise_19 rfl 1 rfl ?_
      refine a_iload_n (pc := 20) C dX7_raise_20 rfl 2 rfl ?_
      refine a_callSI (pc := 21) C [.int x1, .int x3] (ok_fTown_beside X.l X.N M x1 x3) rfl mw_X7_beside wd_546 rfl rfl rfl dX7_raise_21 (fun z4 => ?_)
      refine a_istore (pc := 24) C [(4, .int (fTown_beside x1 x3)), (0, .ref (X.N.2.1 2)), (1, .int x1), (3, .int x3)] dX7_raise_24 (nlt eL rfl) rfl ?_
      refine a_iload (pc := 26) C dX7_raise_26 0 rfl ?_
      refine a_if_lt (pc := 28) C 37 dX7_raise_28 rfl (fun c5 => ?_) (fun c5 => ?_)
      · replace h := iteT c5 h
        refine a_iinc (pc := 37) C 3 (x3 + 1) [(3, .int (x3 + 1)), (4, .int (fTown_beside x1 x3)), (0, .ref (X.N.2.1 2)), (1, .int x1)] dX7_raise_37 rfl rfl (nlt eL rfl) rfl ?_
        refine a_goto (pc := 40) C 14 dX7_raise_40 rfl ?_
        refine a_sub [2, 3, 0] rfl ?_
        exact ih M (x3 + 1) h
      · replace h := iteF c5 h
        refine a_aload_n (pc := 31) C dX7_raise_31 rfl 1 rfl ?_
        refine a_iload (pc := 32) C dX7_raise_32 0 rfl ?_
        obtain ⟨q6, eq6, h⟩ := bndS h
        refine a_callVV (pc := 34) C [.int (fTown_beside x1 x3)] (ok_fTown_lookBelow X.l X.N M (fTown_beside x1 x3) eq6) rfl mw_X7_lookBelow wd_542 rfl rfl rfl rfl rfl rfl rfl dX7_raise_34 ?_
        refine a_iinc (pc := 37) C 3 (x3 + 1) [(3, .int (x3 + 1)), (4, .int (fTown_beside x1 x3)), (0, .ref (X.N.2.1 2)), (1, .int x1)] dX7_raise_37 rfl rfl (nlt eL rfl) rfl ?_
        refine a_goto (pc := 40) C 14 dX7_raise_40 rfl ?_
        refine a_sub [2, 3, 0] rfl ?_
        exact ih q6 (x3 + 1) h
set_option maxHeartbeats 200000 in
set_option maxRecDepth 100000 in
theorem ok_fTown_raise (l : Launch) (N : Rig) (M : Mem) (x1 : Int32) (x2 : Int32) {M0 : Mem} (h : fTown_raise M x1 x2 = some M0) : Ct l N yX7_raise cX7_raise 5 none 2 [.ref (N.2.1 2), .int x1, .int x2] M (QcV N M0) := by
  refine ct_of (by decide) rfl ?_
  intro X el eN eL C E
  subst el
  subst eN
  unfold fTown_raise at h
  show WA X M [(0, .ref (X.N.2.1 2)), (1, .int x1), (2, .int x2)] 0 []
  refine a_aload_n (pc := 0) C dX7_raise_0 rfl 0 rfl ?_
  refine gf_7_0 (pc := 1) C wd_118 dX7_raise_1 ?_
  refine a_iload_n (pc := 4) C dX7_raise_4 rfl 1 rfl ?_
  refine a_iload_n (pc := 5) C dX7_raise_5 rfl 2 rfl ?_
  obtain ⟨M1, eM1, h⟩ := bndS h
  refine a_iast (pc := 6) C rfl eM1 dX7_raise_6 ?_
  refine a_aload_n (pc := 7) C dX7_raise_7 rfl 0 rfl ?_
  refine a_iload_n (pc := 8) C dX7_raise_8 rfl 1 rfl ?_
  obtain ⟨q2, eq2, h⟩ := bndS h
  refine a_callVV (pc := 9) C [.int x1] (ok_fTown_lookBelow X.l X.N M1 x1 eq2) rfl mw_X7_lookBelow wd_542 rfl rfl rfl rfl rfl rfl rfl dX7_raise_9 ?_
  refine a_iconst (pc := 12) C 0 dX7_raise_12 rfl ?_
  refine a_istore_n (pc := 13) C [(3, .int 0), (0, .ref (X.N.2.1 2)), (1, .int x1), (2, .int x2)] dX7_raise_13 rfl (nlt eL rfl) rfl ?_
  refine a_sub (lv2 := [(0, .ref (X.N.2.1 2)), (1, .int x1), (3, .int 0)]) [1, 2, 0] rfl ?_
  obtain ⟨o7, eo7, h⟩ := bndS h
  refine ok_fTown_raise_L14 eL C x1 o7 ?_ FU q2 0 eo7
  exact a_vret (pc := 43) C E (somI h) dX7_raise_43
set_option maxHeartbeats 200000 in
set_option maxRecDepth 100000 in
theorem ok_fTown_lowestFrom_L4 {X : Amb} (eL : X.nL = 4) (C : Cx X RX7 cX7_lowestFrom 1) (M : Mem) (o : Int32) (K : WA X M [(2, .int o)] 31 []) : ∀ (n : Nat) (x2 : Int32) (x3 : Int32), fTown_lowestFrom_L4 n M x2 x3 = some o → WA X M [(0, .ref (X.N.2.1 2)), (2, .int x2), (3, .int x3)] 4 [] := by
  intro n
  induction n with
  | zero => intro _ _ h; cases h
  | succ n ih =>
    intro x2 x3 h
    replace h : fTown_lowestFrom_L4_F (fTown_lowestFrom_L4 n) M x2 x3 = some o := h
    unfold fTown_lowestFrom_L4_F at h
    refine a_iload_n (pc := 4) C dX7_lowestFrom_4 rfl 2 rfl ?_
    refine a_bipush (pc := 5) C 36 dX7_lowestFrom_5 rfl ?_
    refine a_icmp_ge (pc := 7) C 31 dX7_lowestFrom_7 rfl (fun c1 => ?_) (fun c1 => ?_)
    · replace h := iteT c1 h
      refine a_sub (lv2 := [(2, .int x2)]) [1] rfl ?_
      cases somI h
      exact K
    · replace h := iteF c1 h
      refine a_aload_n (pc := 10) C dX7_lowestFrom_10 rfl 0 rfl ?_
      refine a_iload_n (pc := 11) C dX7_lowestFrom_11 rfl 1 rfl ?_
      obtain ⟨v2, ev2, h⟩ := bndS h
      refine a_callVI (pc := 12) C [.int x2] (ok_fTown_isSink X.l X.N M x2 ev2) rfl mw_X7_isSink wd_728 rfl rfl rfl rfl rfl rfl rfl dX7_lowestFrom_12 (fun z3 => ?_)
      refine a_if_ne (pc := 15) C 31 dX7_lowestFrom_15 rfl (fun c4 => ?_) (fun c4 => ?_)
      · replace h := iteT c4 h
        refine a_sub (lv2 := [(2, .int x2)]) [1] rfl ?_
        cases somI h
        exact K
      · replace h := iteF c4 h
        refine a_aload_n (pc := 18) C dX7_lowestFrom_18 rfl 0 rfl ?_
        refine gf_7_1 (pc := 19) C wd_121 dX7_lowestFrom_19 ?_
        refine a_iload_n (pc := 22) C dX7_lowestFrom_22 rfl 1 rfl ?_
        obtain ⟨v5, ev5, h⟩ := bndS h
        refine a_iald (pc := 23) C rfl ev5 dX7_lowestFrom_23 ?_
        refine a_istore_n (pc := 24) C [(2, .int v5), (0, .ref (X.N.2.1 2)), (3, .int x3)] dX7_lowestFrom_24 rfl (nlt eL rfl) rfl ?_
        refine a_iinc (pc := 25) C 2 (x3 + 1) [(3, .int (x3 + 1)), (2, .int v5), (0, .ref (X.N.2.1 2))] dX7_lowestFrom_25 rfl rfl (nlt eL rfl) rfl ?_
        refine a_goto (pc := 28) C 4 dX7_lowestFrom_28 rfl ?_
        refine a_sub [2, 1, 0] rfl ?_
        exact ih v5 (x3 + 1) h
set_option maxHeartbeats 200000 in
set_option maxRecDepth 100000 in
theorem ok_fTown_lowestFrom (l : Launch) (N : Rig) (M : Mem) (x1 : Int32) {r : Int32} (h : fTown_lowestFrom M x1 = some r) : Ct l N yX7_lowestFrom cX7_lowestFrom 4 (some .int) 1 [.ref (N.2.1 2), .int x1] M (QcI N (some .int) r M) := by
  refine ct_of (by decide) rfl ?_
  intro X el eN eL C E
  subst el
  subst eN
  unfold fTown_lowestFrom at h
  show WA X M [(0, .ref (X.N.2.1 2)), (1, .int x1)] 0 []
  refine a_iload_n (pc := 0) C dX7_lowestFrom_0 rfl 1 rfl ?_
  refine a_istore_n (pc := 1) C [(2, .int x1), (0, .ref (X.N.2.1 2)), (1, .int x1)] dX7_lowestFrom_1 rfl (nlt eL rfl) rfl ?_
  refine a_iconst (pc := 2) C 0 dX7_lowestFrom_2 rfl ?_
  refine a_istore_n (pc := 3) C [(3, .int 0), (2, .int x1), (0, .ref (X.N.2.1 2)), (1, .int x1)] dX7_lowestFrom_3 rfl (nlt eL rfl) rfl ?_
  refine a_sub (lv2 := [(0, .ref (X.N.2.1 2)), (2, .int x1), (3, .int 0)]) [2, 1, 0] rfl ?_
  obtain ⟨o6, eo6, h⟩ := bndS h
  refine ok_fTown_lowestFrom_L4 eL C M o6 ?_ FU x1 0 eo6
  refine a_iload_n (pc := 31) C dX7_lowestFrom_31 rfl 0 rfl ?_
  exact a_iret (pc := 32) C E rfl (somI h) rfl dX7_lowestFrom_32
set_option maxHeartbeats 200000 in
set_option maxRecDepth 100000 in
theorem ok_fTown_stepsFrom_L4 {X : Amb} (eL : X.nL = 4) (C : Cx X RX7 cX7_stepsFrom 1) (M : Mem) (o : Int32) (K : WA X M [(3, .int o)] 31 []) : ∀ (n : Nat) (x2 : Int32) (x3 : Int32), fTown_stepsFrom_L4 n M x2 x3 = some o → WA X M [(0, .ref (X.N.2.1 2)), (2, .int x2), (3, .int x3)] 4 [] := by
  intro n
  induction n with
  | zero => intro _ _ h; cases h
  | succ n ih =>
    intro x2 x3 h
    replace h : fTown_stepsFrom_L4_F (fTown_stepsFrom_L4 n) M x2 x3 = some o := h
    unfold fTown_stepsFrom_L4_F at h
    refine a_iload_n (pc := 4) C dX7_stepsFrom_4 rfl 2 rfl ?_
    refine a_bipush (pc := 5) C 36 dX7_stepsFrom_5 rfl ?_
    refine a_icmp_ge (pc := 7) C 31 dX7_stepsFrom_7 rfl (fun c1 => ?_) (fun c1 => ?_)
    · replace h := iteT c1 h
      refine a_sub (lv2 := [(3, .int x3)]) [2] rfl ?_
      cases somI h
      exact K
    · replace h := iteF c1 h
      refine a_aload_n (pc := 10) C dX7_stepsFrom_10 rfl 0 rfl ?_
      refine a_iload_n (pc := 11) C dX7_stepsFrom_11 rfl 1 rfl ?_
      obtain ⟨v2, ev2, h⟩ := bndS h
      refine a_callVI (pc := 12) C [.int x2] (ok_fTown_isSink X.l X.N M x2 ev2) rfl mw_X7_isSink wd_728 rfl rfl rfl rfl rfl rfl rfl dX7_stepsFrom_12 (fun z3 => ?_)
      refine a_if_ne (pc := 15) C 31 dX7_stepsFrom_15 rfl (fun c4 => ?_) (fun c4 => ?_)
      · replace h := iteT c4 h
        refine a_sub (lv2 := [(3, .int x3)]) [2] rfl ?_
        cases somI h
        exact K
      · replace h := iteF c4 h
        refine a_aload_n (pc := 18) C dX7_stepsFrom_18 rfl 0 rfl ?_
        refine gf_7_1 (pc := 19) C wd_121 dX7_stepsFrom_19 ?_
        refine a_iload_n (pc := 22) C dX7_stepsFrom_22 rfl 1 rfl ?_
        obtain ⟨v5, ev5, h⟩ := bndS h
        refine a_iald (pc := 23) C rfl ev5 dX7_stepsFrom_23 ?_
        refine a_istore_n (pc := 24) C [(2, .int v5), (0, .ref (X.N.2.1 2)), (3, .int x3)] dX7_stepsFrom_24 rfl (nlt eL rfl) rfl ?_
        refine a_iinc (pc := 25) C 2 (x3 + 1) [(3, .int (x3 + 1)), (2, .int v5), (0, .ref (X.N.2.1 2))] dX7_stepsFrom_25 rfl rfl (nlt eL rfl) rfl ?_
        refine a_goto (pc := 28) C 4 dX7_stepsFrom_28 rfl ?_
        refine a_sub [2, 1, 0] rfl ?_
        exact ih v5 (x3 + 1) h
set_option maxHeartbeats 200000 in
set_option maxRecDepth 100000 in
theorem ok_fTown_stepsFrom (l : Launch) (N : Rig) (M : Mem) (x1 : Int32) {r : Int32} (h : fTown_stepsFrom M x1 = some r) : Ct l N yX7_stepsFrom cX7_stepsFrom 4 (some .int) 1 [.ref (N.2.1 2), .int x1] M (QcI N (some .int) r M) := by
  refine ct_of (by decide) rfl ?_
  intro X el eN eL C E
  subst el
  subst eN
  unfold fTown_stepsFrom at h
  show WA X M [(0, .ref (X.N.2.1 2)), (1, .int x1)] 0 []
  refine a_iload_n (pc := 0) C dX7_stepsFrom_0 rfl 1 rfl ?_
  refine a_istore_n (pc := 1) C [(2, .int x1), (0, .ref (X.N.2.1 2)), (1, .int x1)] dX7_stepsFrom_1 rfl (nlt eL rfl) rfl ?_
  refine a_iconst (pc := 2) C 0 dX7_stepsFrom_2 rfl ?_
  refine a_istore_n (pc := 3) C [(3, .int 0), (2, .int x1), (0, .ref (X.N.2.1 2)), (1, .int x1)] dX7_stepsFrom_3 rfl (nlt eL rfl) rfl ?_
  refine a_sub (lv2 := [(0, .ref (X.N.2.1 2)), (2, .int x1), (3, .int 0)]) [2, 1, 0] rfl ?_
  obtain ⟨o6, eo6, h⟩ := bndS h
  refine ok_fTown_stepsFrom_L4 eL C M o6 ?_ FU x1 0 eo6
  refine a_iload_n (pc := 31) C dX7_stepsFrom_31 rfl 0 rfl ?_
  exact a_iret (pc := 32) C E rfl (somI h) rfl dX7_stepsFrom_32
set_option maxHeartbeats 200000 in
set_option maxRecDepth 100000 in
theorem ok_fTown_sinks_L4 {X : Amb} (eL : X.nL = 4) (C : Cx X RX7 cX7_sinks 1) (M : Mem) (o : Int64) (K : WA X M [(1, .long o)] 30 []) : ∀ (n : Nat) (y1 : Int64) (x3 : Int32), fTown_sinks_L4 n M y1 x3 = some o → WA X M [(0, .ref (X.N.2.1 2)), (1, .long y1), (3, .int x3)] 4 [] := by
  intro n
  induction n with
  | zero => intro _ _ h; cases h
  | succ n ih =>
    intro y1 x3 h
    replace h : fTown_sinks_L4_F (fTown_sinks_L4 n) M y1 x3 = some o := h
    unfold fTown_sinks_L4_F at h
    refine a_iload_n (pc := 4) C dX7_sinks_4 rfl 2 rfl ?_
    refine a_bipush (pc := 5) C 36 dX7_sinks_5 rfl ?_
    refine a_icmp_ge (pc := 7) C 30 dX7_sinks_7 rfl (fun c1 => ?_) (fun c1 => ?_)
    · replace h := iteT c1 h
      refine a_sub (lv2 := [(1, .long y1)]) [1] rfl ?_
      cases somI h
      exact K
    · replace h := iteF c1 h
      refine a_aload_n (pc := 10) C dX7_sinks_10 rfl 0 rfl ?_
      refine a_iload_n (pc := 11) C dX7_sinks_11 rfl 2 rfl ?_
      obtain ⟨v2, ev2, h⟩ := bndS h
      refine a_callVI (pc := 12) C [.int x3] (ok_fTown_isSink X.l X.N M x3 ev2) rfl mw_X7_isSink wd_728 rfl rfl rfl rfl rfl rfl rfl dX7_sinks_12 (fun z3 => ?_)
      refine a_if_eq (pc := 15) C 24 dX7_sinks_15 rfl (fun c4 => ?_) (fun c4 => ?_)
      · replace h := iteT c4 h
        refine a_iinc (pc := 24) C 2 (x3 + 1) [(3, .int (x3 + 1)), (0, .ref (X.N.2.1 2)), (1, .long y1)] dX7_sinks_24 rfl rfl (nlt eL rfl) rfl ?_
        refine a_goto (pc := 27) C 4 dX7_sinks_27 rfl ?_
        refine a_sub [1, 2, 0] rfl ?_
        exact ih y1 (x3 + 1) h
      · replace h := iteF c4 h
        refine a_lload_n (pc := 18) C dX7_sinks_18 rfl 1 rfl ?_
        refine a_lconst (pc := 19) C 1 dX7_sinks_19 rfl ?_
        refine a_iload_n (pc := 20) C dX7_sinks_20 rfl 2 rfl ?_
        refine a_lshl (pc := 21) C dX7_sinks_21 ?_
        refine a_lor (pc := 22) C dX7_sinks_22 ?_
        refine a_lstore_n (pc := 23) C [(1, .long (y1 ||| (slL 1 x3))), (0, .ref (X.N.2.1 2)), (3, .int x3)] dX7_sinks_23 rfl (nltL eL rfl) rfl ?_
        refine a_iinc (pc := 24) C 2 (x3 + 1) [(3, .int (x3 + 1)), (1, .long (y1 ||| (slL 1 x3))), (0, .ref (X.N.2.1 2))] dX7_sinks_24 rfl rfl (nlt eL rfl) rfl ?_
        refine a_goto (pc := 27) C 4 dX7_sinks_27 rfl ?_
        refine a_sub [2, 1, 0] rfl ?_
        exact ih (y1 ||| (slL 1 x3)) (x3 + 1) h
set_option maxHeartbeats 200000 in
set_option maxRecDepth 100000 in
theorem ok_fTown_sinks (l : Launch) (N : Rig) (M : Mem) {r : Int64} (h : fTown_sinks M = some r) : Ct l N yX7_sinks cX7_sinks 4 (some .long) 1 [.ref (N.2.1 2)] M (QcL N r M) := by
  refine ct_of (by decide) rfl ?_
  intro X el eN eL C E
  subst el
  subst eN
  unfold fTown_sinks at h
  show WA X M [(0, .ref (X.N.2.1 2))] 0 []
  refine a_lconst (pc := 0) C 0 dX7_sinks_0 rfl ?_
  refine a_lstore_n (pc := 1) C [(1, .long 0), (0, .ref (X.N.2.1 2))] dX7_sinks_1 rfl (nltL eL rfl) rfl ?_
  refine a_iconst (pc := 2) C 0 dX7_sinks_2 rfl ?_
  refine a_istore_n (pc := 3) C [(3, .int 0), (1, .long 0), (0, .ref (X.N.2.1 2))] dX7_sinks_3 rfl (nlt eL rfl) rfl ?_
  refine a_sub (lv2 := [(0, .ref (X.N.2.1 2)), (1, .long 0), (3, .int 0)]) [2, 1, 0] rfl ?_
  obtain ⟨o5, eo5, h⟩ := bndS h
  refine ok_fTown_sinks_L4 eL C M o5 ?_ FU 0 0 eo5
  refine a_lload_n (pc := 30) C dX7_sinks_30 rfl 0 rfl ?_
  exact a_lret (pc := 31) C E (somI h) rfl dX7_sinks_31
set_option maxHeartbeats 200000 in
set_option maxRecDepth 100000 in
theorem ok_fTown_comeThrough_L5 {X : Amb} (eL : X.nL = 5) (C : Cx X RX7 cX7_comeThrough 2) (x1 : Int32) (M : Mem) (o : Int64) (K : WA X M [(2, .long o)] 35 []) : ∀ (n : Nat) (y2 : Int64) (x4 : Int32), fTown_comeThrough_L5 n M x1 y2 x4 = some o → WA X M [(0, .ref (X.N.2.1 2)), (1, .int x1), (2, .long y2), (4, .int x4)] 5 [] := by
  intro n
  induction n with
  | zero => intro _ _ h; cases h
  | succ n ih =>
    intro y2 x4 h
    replace h : fTown_comeThrough_L5_F (fTown_comeThrough_L5 n) M x1 y2 x4 = some o := h
    unfold fTown_comeThrough_L5_F at h
    refine a_iload (pc := 5) C dX7_comeThrough_5 3 rfl ?_
    refine a_bipush (pc := 7) C 36 dX7_comeThrough_7 rfl ?_
    refine a_icmp_ge (pc := 9) C 35 dX7_comeThrough_9 rfl (fun c1 => ?_) (fun c1 => ?_)
    · replace h := iteT c1 h
      refine a_sub (lv2 := [(2, .long y2)]) [2] rfl ?_
      cases somI h
      exact K
    · replace h := iteF c1 h
      refine a_aload_n (pc := 12) C dX7_comeThrough_12 rfl 0 rfl ?_
      refine a_iload (pc := 13) C dX7_comeThrough_13 3 rfl ?_
      refine a_iload_n (pc := 15) C dX7_comeThrough_15 rfl 1 rfl ?_
      obtain ⟨v2, ev2, h⟩ := bndS h
      refine a_callVI (pc := 16) C [.int x4, .int x1] (ok_fTown_comesThrough X.l X.N M x4 x1 ev2) rfl mw_X7_comesThrough wd_745 rfl rfl rfl rfl rfl rfl rfl dX7_comeThrough_16 (fun z3 => ?_)
      refine a_if_eq (pc := 19) C 29 dX7_comeThrough_19 rfl (fun c4 => ?_) (fun c4 => ?_)
      · replace h := iteT c4 h
        refine a_iinc (pc := 29) C 3 (x4 + 1) [(4, .int (x4 + 1)), (0, .ref (X.N.2.1 2)), (1, .int x1), (2, .long y2)] dX7_comeThrough_29 rfl rfl (nlt eL rfl) rfl ?_
        refine a_goto (pc := 32) C 5 dX7_comeThrough_32 rfl ?_
        refine a_sub [1, 2, 3, 0] rfl ?_
        exact ih y2 (x4 + 1) h
      · replace h := iteF c4 h
        refine a_lload_n (pc := 22) C dX7_comeThrough_22 rfl 2 rfl ?_
        refine a_lconst (pc := 23) C 1 dX7_comeThrough_23 rfl ?_
        refine a_iload (pc := 24) C dX7_comeThrough_24 3 rfl ?_
        refine a_lshl (pc := 26) C dX7_comeThrough_26 ?_
        refine a_lor (pc := 27) C dX7_comeThrough_27 ?_
        refine a_lstore_n (pc := 28) C [(2, .long (y2 ||| (slL 1 x4))), (0, .ref (X.N.2.1 2)), (1, .int x1), (4, .int x4)] dX7_comeThrough_28 rfl (nltL eL rfl) rfl ?_
        refine a_iinc (pc := 29) C 3 (x4 + 1) [(4, .int (x4 + 1)), (2, .long (y2 ||| (slL 1 x4))), (0, .ref (X.N.2.1 2)), (1, .int x1)] dX7_comeThrough_29 rfl rfl (nlt eL rfl) rfl ?_
        refine a_goto (pc := 32) C 5 dX7_comeThrough_32 rfl ?_
        refine a_sub [2, 3, 1, 0] rfl ?_
        exact ih (y2 ||| (slL 1 x4)) (x4 + 1) h
set_option maxHeartbeats 200000 in
set_option maxRecDepth 100000 in
theorem ok_fTown_comeThrough (l : Launch) (N : Rig) (M : Mem) (x1 : Int32) {r : Int64} (h : fTown_comeThrough M x1 = some r) : Ct l N yX7_comeThrough cX7_comeThrough 5 (some .long) 2 [.ref (N.2.1 2), .int x1] M (QcL N r M) := by
  refine ct_of (by decide) rfl ?_
  intro X el eN eL C E
  subst el
  subst eN
  unfold fTown_comeThrough at h
  show WA X M [(0, .ref (X.N.2.1 2)), (1, .int x1)] 0 []
  refine a_lconst (pc := 0) C 0 dX7_comeThrough_0 rfl ?_
  refine a_lstore_n (pc := 1) C [(2, .long 0), (0, .ref (X.N.2.1 2)), (1, .int x1)] dX7_comeThrough_1 rfl (nltL eL rfl) rfl ?_
  refine a_iconst (pc := 2) C 0 dX7_comeThrough_2 rfl ?_
  refine a_istore (pc := 3) C [(4, .int 0), (2, .long 0), (0, .ref (X.N.2.1 2)), (1, .int x1)] dX7_comeThrough_3 (nlt eL rfl) rfl ?_
  refine a_sub (lv2 := [(0, .ref (X.N.2.1 2)), (1, .int x1), (2, .long 0), (4, .int 0)]) [2, 3, 1, 0] rfl ?_
  obtain ⟨o5, eo5, h⟩ := bndS h
  refine ok_fTown_comeThrough_L5 eL C x1 M o5 ?_ FU 0 0 eo5
  refine a_lload_n (pc := 35) C dX7_comeThrough_35 rfl 0 rfl ?_
  exact a_lret (pc := 36) C E (somI h) rfl dX7_comeThrough_36
set_option maxHeartbeats 200000 in
set_option maxRecDepth 100000 in
theorem ok_fTurns_difference_L20 {X : Amb} (eL : X.nL = 3) (C : Cx X RX8 cX8_difference 4) (o : Mem) (K : WA X o [(0, .ref (X.N.2.1 14))] 49 []) : ∀ (n : Nat) (M : Mem) (x2 : Int32), fTurns_difference_L20 n M x2 = some o → WA X M [(0, .ref (X.N.2.1 14)), (1, .ref (X.N.2.1 1)), (2, .int x2)] 20 [] := by
  intro n
  induction n with
  | zero => intro _ _ h; cases h
  | succ n ih =>
    intro M x2 h
    replace h : fTurns_difference_L20_F (fTurns_difference_L20 n) M x2 = some o := h
    unfold fTurns_difference_L20_F at h
    refine a_iload_n (pc := 20) C dX8_difference_20 rfl 2 rfl ?_
    refine a_aload_n (pc := 21) C dX8_difference_21 rfl 0 rfl ?_
    refine gf_8_6 (pc := 22) C wd_310 dX8_difference_22 ?_
    refine a_icmp_ge (pc := 25) C 49 dX8_difference_25 rfl (fun c2 => ?_) (fun c2 => ?_)
    · replace h := iteT c2 h
      refine a_sub (lv2 := [(0, .ref (X.N.2.1 14))]) [0] rfl ?_
      cases somI h
      exact K
    · replace h := iteF c2 h
      refine a_aload_n (pc := 28) C dX8_difference_28 rfl 0 rfl ?_
      refine gf_8_1 (pc := 29) C wd_305 dX8_difference_29 ?_
      refine a_aload_n (pc := 32) C dX8_difference_32 rfl 1 rfl ?_
      refine gf_9_0 (pc := 33) C wd_252 dX8_difference_33 ?_
      refine a_aload_n (pc := 36) C dX8_difference_36 rfl 1 rfl ?_
      refine gf_9_2 (pc := 37) C wd_260 dX8_difference_37 ?_
      obtain ⟨q3, eq3, h⟩ := bndS h
      refine a_callVV (pc := 40) C [.ref (X.N.2.1 2), .ref (X.N.2.1 7)] (ok_fStreet_pass X.l X.N M 54 st54 eq3) rfl mw_X5_pass wd_873 (st_shp st54) (st_blt st54) rfl rfl rfl rfl rfl dX8_difference_40 ?_
      refine a_iinc (pc := 43) C 2 (x2 + 1) [(2, .int (x2 + 1)), (0, .ref (X.N.2.1 14)), (1, .ref (X.N.2.1 1))] dX8_difference_43 rfl rfl (nlt eL rfl) rfl ?_
      refine a_goto (pc := 46) C 20 dX8_difference_46 rfl ?_
      refine a_sub [1, 2, 0] rfl ?_
      exact ih q3 (x2 + 1) h
set_option maxHeartbeats 200000 in
set_option maxRecDepth 100000 in
theorem ok_fTurns_difference (l : Launch) (N : Rig) (M : Mem) {r : Int32} {M0 : Mem} (h : fTurns_difference M = some (r, M0)) : Ct l N yX8_difference cX8_difference 3 (some .int) 4 [.ref (N.2.1 14), .ref (N.2.1 1)] M (QcI N (some .int) r M0) := by
  refine ct_of (by decide) rfl ?_
  intro X el eN eL C E
  subst el
  subst eN
  unfold fTurns_difference at h
  show WA X M [(0, .ref (X.N.2.1 14)), (1, .ref (X.N.2.1 1))] 0 []
  refine a_aload_n (pc := 0) C dX8_difference_0 rfl 0 rfl ?_
  refine gf_8_1 (pc := 1) C wd_305 dX8_difference_1 ?_
  refine a_aload_n (pc := 4) C dX8_difference_4 rfl 0 rfl ?_
  refine gf_8_0 (pc := 5) C wd_304 dX8_difference_5 ?_
  refine a_aload_n (pc := 8) C dX8_difference_8 rfl 1 rfl ?_
  refine gf_9_0 (pc := 9) C wd_252 dX8_difference_9 ?_
  refine gf_7_4 (pc := 12) C wd_132 dX8_difference_12 ?_
  obtain ⟨q1, eq1, h⟩ := bndS h
  refine a_callVV (pc := 15) C [.ref (X.N.2.1 48), .int (M.1 2 4)] (ok_fStreet_become X.l X.N M 54 48 st54 st48 (M.1 2 4) eq1) rfl mw_X5_become wd_864 (st_shp st54) (st_blt st54) rfl rfl rfl rfl rfl dX8_difference_15 ?_
  refine a_iconst (pc := 18) C 0 dX8_difference_18 rfl ?_
  refine a_istore_n (pc := 19) C [(2, .int 0), (0, .ref (X.N.2.1 14)), (1, .ref (X.N.2.1 1))] dX8_difference_19 rfl (nlt eL rfl) rfl ?_
  refine a_sub (lv2 := [(0, .ref (X.N.2.1 14)), (1, .ref (X.N.2.1 1)), (2, .int 0)]) [1, 2, 0] rfl ?_
  obtain ⟨o4, eo4, h⟩ := bndS h
  refine ok_fTurns_difference_L20 eL C o4 ?_ FU q1 0 eo4
  refine a_aload_n (pc := 49) C dX8_difference_49 rfl 0 rfl ?_
  refine gf_8_1 (pc := 50) C wd_305 dX8_difference_50 ?_
  refine gf_5_3 (pc := 53) C st54 wd_168 dX8_difference_53 ?_
  refine a_aload_n (pc := 56) C dX8_difference_56 rfl 0 rfl ?_
  refine gf_8_2 (pc := 57) C wd_306 dX8_difference_57 ?_
  obtain ⟨v5, ev5, h⟩ := bndS h
  refine a_iald (pc := 60) C (st_a4 st54) ev5 dX8_difference_60 ?_
  refine a_aload_n (pc := 61) C dX8_difference_61 rfl 0 rfl ?_
  refine gf_8_1 (pc := 62) C wd_305 dX8_difference_62 ?_
  refine gf_5_3 (pc := 65) C st54 wd_168 dX8_difference_65 ?_
  refine a_aload_n (pc := 68) C dX8_difference_68 rfl 0 rfl ?_
  refine gf_8_3 (pc := 69) C wd_307 dX8_difference_69 ?_
  obtain ⟨v6, ev6, h⟩ := bndS h
  refine a_iald (pc := 72) C (st_a4 st54) ev6 dX8_difference_72 ?_
  refine a_isub (pc := 73) C dX8_difference_73 ?_
  exact a_iret (pc := 74) C E rfl (som1 h) (som2 h) dX8_difference_74
set_option maxHeartbeats 200000 in
set_option maxRecDepth 100000 in
theorem ok_fTurns_matters (l : Launch) (N : Rig) (M : Mem) (x2 : Int32) {r : Int32} (h : fTurns_matters M x2 = some r) : Ct l N yX8_matters cX8_matters 3 (some .boolean) 3 [.ref (N.2.1 14), .ref (N.2.1 1), .int x2] M (QcI N (some .boolean) r M) := by
  refine ct_of (by decide) rfl ?_
  intro X el eN eL C E
  subst el
  subst eN
  unfold fTurns_matters at h
  show WA X M [(0, .ref (X.N.2.1 14)), (1, .ref (X.N.2.1 1)), (2, .int x2)] 0 []
  refine a_aload_n (pc := 0) C dX8_matters_0 rfl 1 rfl ?_
  refine gf_9_0 (pc := 1) C wd_252 dX8_matters_1 ?_
  refine a_iload_n (pc := 4) C dX8_matters_4 rfl 2 rfl ?_
  refine a_aload_n (pc := 5) C dX8_matters_5 rfl 0 rfl ?_
  refine gf_8_0 (pc := 6) C wd_304 dX8_matters_6 ?_
  refine gf_5_2 (pc := 9) C st48 wd_163 dX8_matters_9 ?_
  refine a_aload_n (pc := 12) C dX8_matters_12 rfl 0 rfl ?_
  refine gf_8_2 (pc := 13) C wd_306 dX8_matters_13 ?_
  obtain ⟨v1, ev1, h⟩ := bndS h
  refine a_iald (pc := 16) C (st_a3 st48) ev1 dX8_matters_16 ?_
  obtain ⟨v2, ev2, h⟩ := bndS h
  refine a_callVI (pc := 17) C [.int x2, .int v1] (ok_fTown_steers X.l X.N M x2 v1 ev2) rfl mw_X7_steers wd_878 rfl rfl rfl rfl rfl rfl rfl dX8_matters_17 (fun z3 => ?_)
  refine a_if_ne (pc := 20) C 46 dX8_matters_20 rfl (fun c4 => ?_) (fun c4 => ?_)
  · replace h := iteT c4 h
    refine a_iconst (pc := 46) C 1 dX8_matters_46 rfl ?_
    refine a_goto (pc := 47) C 51 dX8_matters_47 rfl ?_
    exact a_iret (pc := 51) C E rfl (somI h) rfl dX8_matters_51
  · replace h := iteF c4 h
    refine a_aload_n (pc := 23) C dX8_matters_23 rfl 1 rfl ?_
    refine gf_9_0 (pc := 24) C wd_252 dX8_matters_24 ?_
    refine a_iload_n (pc := 27) C dX8_matters_27 rfl 2 rfl ?_
    refine a_aload_n (pc := 28) C dX8_matters_28 rfl 0 rfl ?_
    refine gf_8_0 (pc := 29) C wd_304 dX8_matters_29 ?_
    refine gf_5_2 (pc := 32) C st48 wd_163 dX8_matters_32 ?_
    refine a_aload_n (pc := 35) C dX8_matters_35 rfl 0 rfl ?_
    refine gf_8_3 (pc := 36) C wd_307 dX8_matters_36 ?_
    obtain ⟨v5, ev5, h⟩ := bndS h
    refine a_iald (pc := 39) C (st_a3 st48) ev5 dX8_matters_39 ?_
    obtain ⟨v6, ev6, h⟩ := bndS h
    refine a_callVI (pc := 40) C [.int x2, .int v5] (ok_fTown_steers X.l X.N M x2 v5 ev6) rfl mw_X7_steers wd_878 rfl rfl rfl rfl rfl rfl rfl dX8_matters_40 (fun z7 => ?_)
    refine a_if_eq (pc := 43) C 50 dX8_matters_43 rfl (fun c8 => ?_) (fun c8 => ?_)
    · replace h := iteT c8 h
      refine a_iconst (pc := 50) C 0 dX8_matters_50 rfl ?_
      exact a_iret (pc := 51) C E rfl (somI h) rfl dX8_matters_51
    · replace h := iteF c8 h
      refine a_iconst (pc := 46) C 1 dX8_matters_46 rfl ?_
      refine a_goto (pc := 47) C 51 dX8_matters_47 rfl ?_
      exact a_iret (pc := 51) C E rfl (somI h) rfl dX8_matters_51
set_option maxHeartbeats 200000 in
set_option maxRecDepth 100000 in
theorem ok_fTurns_bestFrom_L35 {X : Amb} (eL : X.nL = 9) {kr kc : Nat} (hkr : Nat.ble (kr + 1) kc = true) (hkb : Nat.ble 5 kc = true) (C : Cx X RX8 cX8_bestFrom kc) (g_fTurns_bestFrom : Mem → Int32 → Option (Int32 × Mem)) (G_fTurns_bestFrom : ∀ (M : Mem) (x2 : Int32) {r : Int32} {M0 : Mem}, g_fTurns_bestFrom M x2 = some (r, M0) → Ct X.l X.N yX8_bestFrom cX8_bestFrom 9 (some .int) kr [.ref (X.N.2.1 14), .ref (X.N.2.1 1), .int x2] M (QcI X.N (some .int) r M0)) (x2 : Int32) (o : Mem × Int32 × Int32) (K : WA X o.1 [(0, .ref (X.N.2.1 14)), (2, .int x2), (3, .int o.2.1), (4, .int o.2.2)] 148 []) : ∀ (n : Nat) (M : Mem) (x3 : Int32) (x4 : Int32) (x5 : Int32), fTurns_bestFrom_L35 g_fTurns_bestFrom n M x2 x3 x4 x5 = some o → WA X M [(0, .ref (X.N.2.1 14)), (1, .ref (X.N.2.1 1)), (2, .int x2), (3, .int x3), (4, .int x4), (5, .int x5)] 35 [] := by
  intro n
  induction n with
  | zero => intro _ _ _ _ h; cases h
  | succ n ih =>
    intro M x3 x4 x5 h
    replace h : fTurns_bestFrom_L35_F g_fTurns_bestFrom (fTurns_bestFrom_L35 g_fTurns_bestFrom n) M x2 x3 x4 x5 = some o := h
    unfold fTurns_bestFrom_L35_F at h
    refine a_iload (pc := 35) C dX8_bestFrom_35 5 rfl ?_
    refine a_bipush (pc := 37) C 6 dX8_bestFrom_37 rfl ?_
    refine a_icmp_ge (pc := 39) C 148 dX8_bestFrom_39 rfl (fun c7 => ?_) (fun c7 => ?_)
    · replace h := iteT c7 h
      refine a_sub (lv2 := [(0, .ref (X.N.2.1 14)), (2, .int x2), (3, .int x3), (4, .int x4)]) [0, 2, 3, 4] rfl ?_
      cases somI h
      exact K
    · replace h := iteF c7 h
      refine a_bipush (pc := 42) C 6 dX8_bestFrom_42 rfl ?_
      refine a_aload_n (pc := 44) C dX8_bestFrom_44 rfl 0 rfl ?_
      refine gf_8_4 (pc := 45) C wd_308 dX8_bestFrom_45 ?_
      refine a_imul (pc := 48) C dX8_bestFrom_48 ?_
      refine a_iload (pc := 49) C dX8_bestFrom_49 5 rfl ?_
      refine a_iadd (pc := 51) C dX8_bestFrom_51 ?_
      refine a_istore (pc := 52) C [(6, .int ((6 * (M.1 14 4)) + x5)), (0, .ref (X.N.2.1 14)), (1, .ref (X.N.2.1 1)), (2, .int x2), (3, .int x3), (4, .int x4), (5, .int x5)] dX8_bestFrom_52 (nlt eL rfl) rfl ?_
      refine a_aload_n (pc := 54) C dX8_bestFrom_54 rfl 1 rfl ?_
      refine a_aload_n (pc := 55) C dX8_bestFrom_55 rfl 2 rfl ?_
      refine a_iload (pc := 56) C dX8_bestFrom_56 0 rfl ?_
      obtain ⟨v8, ev8, h⟩ := bndS h
      refine a_callVI (pc := 58) C [.ref (X.N.2.1 1), .int ((6 * (M.1 14 4)) + x5)] (ok_fTurns_matters X.l X.N M ((6 * (M.1 14 4)) + x5) ev8) (ble_tr (b := 5) rfl hkb) mw_X8_matters wd_874 rfl rfl rfl rfl rfl rfl rfl dX8_bestFrom_58 (fun z9 => ?_)
      refine a_if_eq (pc := 61) C 142 dX8_bestFrom_61 rfl (fun c10 => ?_) (fun c10 => ?_)
      · replace h := iteT c10 h
        refine a_iinc (pc := 142) C 6 (x5 + 1) [(5, .int (x5 + 1)), (6, .int ((6 * (M.1 14 4)) + x5)), (0, .ref (X.N.2.1 14)), (1, .ref (X.N.2.1 1)), (2, .int x2), (3, .int x3), (4, .int x4)] dX8_bestFrom_142 rfl rfl (nlt eL rfl) rfl ?_
        refine a_goto (pc := 145) C 35 dX8_bestFrom_145 rfl ?_
        refine a_sub [2, 3, 4, 5, 6, 0] rfl ?_
        exact ih M x3 x4 (x5 + 1) h
      · replace h := iteF c10 h
        refine a_aload_n (pc := 64) C dX8_bestFrom_64 rfl 1 rfl ?_
        refine gf_8_0 (pc := 65) C wd_304 dX8_bestFrom_65 ?_
        refine gf_5_1 (pc := 68) C st48 wd_158 dX8_bestFrom_68 ?_
        refine a_iload (pc := 71) C dX8_bestFrom_71 0 rfl ?_
        obtain ⟨v11, ev11, h⟩ := bndS h
        refine a_iald (pc := 73) C (st_a2 st48) ev11 dX8_bestFrom_73 ?_
        refine a_istore (pc := 74) C [(7, .int v11), (6, .int ((6 * (M.1 14 4)) + x5)), (0, .ref (X.N.2.1 14)), (1, .ref (X.N.2.1 1)), (2, .int x2), (3, .int x3), (4, .int x4), (5, .int x5)] dX8_bestFrom_74 (nlt eL rfl) rfl ?_
        refine a_aload_n (pc := 76) C dX8_bestFrom_76 rfl 2 rfl ?_
        refine gf_8_0 (pc := 77) C wd_304 dX8_bestFrom_77 ?_
        refine gf_5_1 (pc := 80) C st48 wd_158 dX8_bestFrom_80 ?_
        refine a_iload (pc := 83) C dX8_bestFrom_83 1 rfl ?_
        refine a_iload (pc := 85) C dX8_bestFrom_85 0 rfl ?_
        refine a_iconst (pc := 87) C 1 dX8_bestFrom_87 rfl ?_
        refine a_iadd (pc := 88) C dX8_bestFrom_88 ?_
        refine a_iconst (pc := 89) C 3 dX8_bestFrom_89 rfl ?_
        refine a_irem (pc := 90) C dX8_bestFrom_90 (by decide) ?_
        obtain ⟨M12, eM12, h⟩ := bndS h
        refine a_iast (pc := 91) C (st_a2 st48) eM12 dX8_bestFrom_91 ?_
        refine a_aload_n (pc := 92) C dX8_bestFrom_92 rfl 2 rfl ?_
        refine a_aload_n (pc := 93) C dX8_bestFrom_93 rfl 3 rfl ?_
        refine a_iload_n (pc := 94) C dX8_bestFrom_94 rfl 4 rfl ?_
        refine a_iconst (pc := 95) C 1 dX8_bestFrom_95 rfl ?_
        refine a_iadd (pc := 96) C dX8_bestFrom_96 ?_
        obtain ⟨q13, eq13, h⟩ := bndS h
        refine a_callVI (pc := 97) C [.ref (X.N.2.1 1), .int (x2 + 1)] (G_fTurns_bestFrom M12 (x2 + 1) eq13) hkr mw_X8_bestFrom wd_865 rfl rfl rfl rfl rfl rfl rfl dX8_bestFrom_97 (fun z14 => ?_)
        refine a_istore (pc := 100) C [(8, .int q13.1), (7, .int v11), (6, .int ((6 * (M.1 14 4)) + x5)), (0, .ref (X.N.2.1 14)), (1, .ref (X.N.2.1 1)), (2, .int x2), (3, .int x3), (4, .int x4), (5, .int x5)] dX8_bestFrom_100 (nlt eL rfl) rfl ?_
        refine a_aload_n (pc := 102) C dX8_bestFrom_102 rfl 3 rfl ?_
        refine gf_8_0 (pc := 103) C wd_304 dX8_bestFrom_103 ?_
        refine gf_5_1 (pc := 106) C st48 wd_158 dX8_bestFrom_106 ?_
        refine a_iload (pc := 109) C dX8_bestFrom_109 2 rfl ?_
        refine a_iload (pc := 111) C dX8_bestFrom_111 1 rfl ?_
        obtain ⟨M15, eM15, h⟩ := bndS h
        refine a_iast (pc := 113) C (st_a2 st48) eM15 dX8_bestFrom_113 ?_
        refine a_iload_n (pc := 114) C dX8_bestFrom_114 rfl 5 rfl ?_
        refine a_iconst (pc := 115) C 2 dX8_bestFrom_115 rfl ?_
        refine a_irem (pc := 116) C dX8_bestFrom_116 (by decide) ?_
        refine a_if_ne (pc := 117) C 129 dX8_bestFrom_117 rfl (fun c16 => ?_) (fun c16 => ?_)
        · replace h := iteT c16 h
          refine a_iload (pc := 129) C dX8_bestFrom_129 0 rfl ?_
          refine a_iload_n (pc := 131) C dX8_bestFrom_131 rfl 6 rfl ?_
          refine a_icmp_ge (pc := 132) C 142 dX8_bestFrom_132 rfl (fun c17 => ?_) (fun c17 => ?_)
          · replace h := iteT c17 h
            refine a_iinc (pc := 142) C 8 (x5 + 1) [(5, .int (x5 + 1)), (8, .int q13.1), (7, .int v11), (6, .int ((6 * (M.1 14 4)) + x5)), (0, .ref (X.N.2.1 14)), (1, .ref (X.N.2.1 1)), (2, .int x2), (3, .int x3), (4, .int x4)] dX8_bestFrom_142 rfl rfl (nlt eL rfl) rfl ?_
            refine a_goto (pc := 145) C 35 dX8_bestFrom_145 rfl ?_
            refine a_sub [4, 5, 6, 7, 8, 0] rfl ?_
            exact ih M15 x3 x4 (x5 + 1) h
          · replace h := iteF c17 h
            refine a_iload (pc := 135) C dX8_bestFrom_135 0 rfl ?_
            refine a_istore_n (pc := 137) C [(3, .int q13.1), (8, .int q13.1), (7, .int v11), (6, .int ((6 * (M.1 14 4)) + x5)), (0, .ref (X.N.2.1 14)), (1, .ref (X.N.2.1 1)), (2, .int x2), (4, .int x4), (5, .int x5)] dX8_bestFrom_137 rfl (nlt eL rfl) rfl ?_
            refine a_iload (pc := 138) C dX8_bestFrom_138 8 rfl ?_
            refine a_istore (pc := 140) C [(4, .int x5), (3, .int q13.1), (8, .int q13.1), (7, .int v11), (6, .int ((6 * (M.1 14 4)) + x5)), (0, .ref (X.N.2.1 14)), (1, .ref (X.N.2.1 1)), (2, .int x2), (5, .int x5)] dX8_bestFrom_140 (nlt eL rfl) rfl ?_
            refine a_iinc (pc := 142) C 8 (x5 + 1) [(5, .int (x5 + 1)), (4, .int x5), (3, .int q13.1), (8, .int q13.1), (7, .int v11), (6, .int ((6 * (M.1 14 4)) + x5)), (0, .ref (X.N.2.1 14)), (1, .ref (X.N.2.1 1)), (2, .int x2)] dX8_bestFrom_142 rfl rfl (nlt eL rfl) rfl ?_
            refine a_goto (pc := 145) C 35 dX8_bestFrom_145 rfl ?_
            refine a_sub [6, 7, 8, 2, 1, 0] rfl ?_
            exact ih M15 q13.1 x5 (x5 + 1) h
        · replace h := iteF c16 h
          refine a_iload (pc := 120) C dX8_bestFrom_120 0 rfl ?_
          refine a_iload_n (pc := 122) C dX8_bestFrom_122 rfl 6 rfl ?_
          refine a_icmp_le (pc := 123) C 142 dX8_bestFrom_123 rfl (fun c18 => ?_) (fun c18 => ?_)
          · replace h := iteT c18 h
            refine a_iinc (pc := 142) C 8 (x5 + 1) [(5, .int (x5 + 1)), (8, .int q13.1), (7, .int v11), (6, .int ((6 * (M.1 14 4)) + x5)), (0, .ref (X.N.2.1 14)), (1, .ref (X.N.2.1 1)), (2, .int x2), (3, .int x3), (4, .int x4)] dX8_bestFrom_142 rfl rfl (nlt eL rfl) rfl ?_
            refine a_goto (pc := 145) C 35 dX8_bestFrom_145 rfl ?_
            refine a_sub [4, 5, 6, 7, 8, 0] rfl ?_
            exact ih M15 x3 x4 (x5 + 1) h
          · replace h := iteF c18 h
            refine a_goto (pc := 126) C 135 dX8_bestFrom_126 rfl ?_
            refine a_iload (pc := 135) C dX8_bestFrom_135 0 rfl ?_
            refine a_istore_n (pc := 137) C [(3, .int q13.1), (8, .int q13.1), (7, .int v11), (6, .int ((6 * (M.1 14 4)) + x5)), (0, .ref (X.N.2.1 14)), (1, .ref (X.N.2.1 1)), (2, .int x2), (4, .int x4), (5, .int x5)] dX8_bestFrom_137 rfl (nlt eL rfl) rfl ?_
            refine a_iload (pc := 138) C dX8_bestFrom_138 8 rfl ?_
            refine a_istore (pc := 140) C [(4, .int x5), (3, .int q13.1), (8, .int q13.1), (7, .int v11), (6, .int ((6 * (M.1 14 4)) + x5)), (0, .ref (X.N.2.1 14)), (1, .ref (X.N.2.1 1)), (2, .int x2), (5, .int x5)] dX8_bestFrom_140 (nlt eL rfl) rfl ?_
            refine a_iinc (pc := 142) C 8 (x5 + 1) [(5, .int (x5 + 1)), (4, .int x5), (3, .int q13.1), (8, .int q13.1), (7, .int v11), (6, .int ((6 * (M.1 14 4)) + x5)), (0, .ref (X.N.2.1 14)), (1, .ref (X.N.2.1 1)), (2, .int x2)] dX8_bestFrom_142 rfl rfl (nlt eL rfl) rfl ?_
            refine a_goto (pc := 145) C 35 dX8_bestFrom_145 rfl ?_
            refine a_sub [6, 7, 8, 2, 1, 0] rfl ?_
            exact ih M15 q13.1 x5 (x5 + 1) h
set_option maxHeartbeats 200000 in
set_option maxRecDepth 100000 in
theorem ok_fTurns_bestFrom_F (l : Launch) (N : Rig) {kr kc : Nat} (hkr : Nat.ble (kr + 1) kc = true) (hkb : Nat.ble 5 kc = true) (g_fTurns_bestFrom : Mem → Int32 → Option (Int32 × Mem)) (G_fTurns_bestFrom : ∀ (M : Mem) (x2 : Int32) {r : Int32} {M0 : Mem}, g_fTurns_bestFrom M x2 = some (r, M0) → Ct l N yX8_bestFrom cX8_bestFrom 9 (some .int) kr [.ref (N.2.1 14), .ref (N.2.1 1), .int x2] M (QcI N (some .int) r M0)) (M : Mem) (x2 : Int32) (r : Int32) (M0 : Mem) (h : fTurns_bestFrom_F g_fTurns_bestFrom M x2 = some (r, M0)) : Ct l N yX8_bestFrom cX8_bestFrom 9 (some .int) kc [.ref (N.2.1 14), .ref (N.2.1 1), .int x2] M (QcI N (some .int) r M0) := by
  refine ct_of (by decide) rfl ?_
  intro X el eN eL C E
  subst el
  subst eN
  unfold fTurns_bestFrom_F at h
  show WA X M [(0, .ref (X.N.2.1 14)), (1, .ref (X.N.2.1 1)), (2, .int x2)] 0 []
  refine a_iload_n (pc := 0) C dX8_bestFrom_0 rfl 2 rfl ?_
  refine a_aload_n (pc := 1) C dX8_bestFrom_1 rfl 0 rfl ?_
  refine gf_8_5 (pc := 2) C wd_309 dX8_bestFrom_2 ?_
  refine a_icmp_ge (pc := 5) C 13 dX8_bestFrom_5 rfl (fun c1 => ?_) (fun c1 => ?_)
  · replace h := iteT c1 h
    refine a_aload_n (pc := 13) C dX8_bestFrom_13 rfl 0 rfl ?_
    refine a_aload_n (pc := 14) C dX8_bestFrom_14 rfl 1 rfl ?_
    obtain ⟨q2, eq2, h⟩ := bndS h
    refine a_callVI (pc := 15) C [.ref (X.N.2.1 1)] (ok_fTurns_difference X.l X.N M eq2) (ble_tr (b := 5) rfl hkb) mw_X8_difference wd_869 rfl rfl rfl rfl rfl rfl rfl dX8_bestFrom_15 (fun z3 => ?_)
    exact a_iret (pc := 18) C E rfl (som1 h) (som2 h) dX8_bestFrom_18
  · replace h := iteF c1 h
    refine a_iload_n (pc := 8) C dX8_bestFrom_8 rfl 2 rfl ?_
    refine a_iconst (pc := 9) C 3 dX8_bestFrom_9 rfl ?_
    refine a_icmp_lt (pc := 10) C 19 dX8_bestFrom_10 rfl (fun c4 => ?_) (fun c4 => ?_)
    · replace h := iteT c4 h
      refine a_aload_n (pc := 19) C dX8_bestFrom_19 rfl 0 rfl ?_
      refine a_aload_n (pc := 20) C dX8_bestFrom_20 rfl 1 rfl ?_
      refine a_iload_n (pc := 21) C dX8_bestFrom_21 rfl 2 rfl ?_
      refine a_iconst (pc := 22) C 1 dX8_bestFrom_22 rfl ?_
      refine a_iadd (pc := 23) C dX8_bestFrom_23 ?_
      obtain ⟨q5, eq5, h⟩ := bndS h
      refine a_callVI (pc := 24) C [.ref (X.N.2.1 1), .int (x2 + 1)] (G_fTurns_bestFrom M (x2 + 1) eq5) hkr mw_X8_bestFrom wd_865 rfl rfl rfl rfl rfl rfl rfl dX8_bestFrom_24 (fun z6 => ?_)
      refine a_istore_n (pc := 27) C [(3, .int q5.1), (0, .ref (X.N.2.1 14)), (1, .ref (X.N.2.1 1)), (2, .int x2)] dX8_bestFrom_27 rfl (nlt eL rfl) rfl ?_
      refine a_bipush (pc := 28) C 6 dX8_bestFrom_28 rfl ?_
      refine a_istore (pc := 30) C [(4, .int 6), (3, .int q5.1), (0, .ref (X.N.2.1 14)), (1, .ref (X.N.2.1 1)), (2, .int x2)] dX8_bestFrom_30 (nlt eL rfl) rfl ?_
      refine a_iconst (pc := 32) C 0 dX8_bestFrom_32 rfl ?_
      refine a_istore (pc := 33) C [(5, .int 0), (4, .int 6), (3, .int q5.1), (0, .ref (X.N.2.1 14)), (1, .ref (X.N.2.1 1)), (2, .int x2)] dX8_bestFrom_33 (nlt eL rfl) rfl ?_
      refine a_sub (lv2 := [(0, .ref (X.N.2.1 14)), (1, .ref (X.N.2.1 1)), (2, .int x2), (3, .int q5.1), (4, .int 6), (5, .int 0)]) [3, 4, 5, 2, 1, 0] rfl ?_
      obtain ⟨o19, eo19, h⟩ := bndS h
      refine ok_fTurns_bestFrom_L35 eL hkr hkb C g_fTurns_bestFrom G_fTurns_bestFrom x2 o19 ?_ FU q5.2 q5.1 6 0 eo19
      refine a_iload_n (pc := 148) C dX8_bestFrom_148 rfl 1 rfl ?_
      refine a_if_ne (pc := 149) C 158 dX8_bestFrom_149 rfl (fun c20 => ?_) (fun c20 => ?_)
      · replace h := iteT c20 h
        refine a_iload_n (pc := 158) C dX8_bestFrom_158 rfl 2 rfl ?_
        exact a_iret (pc := 159) C E rfl (som1 h) (som2 h) dX8_bestFrom_159
      · replace h := iteF c20 h
        refine a_aload_n (pc := 152) C dX8_bestFrom_152 rfl 0 rfl ?_
        refine a_iload (pc := 153) C dX8_bestFrom_153 3 rfl ?_
        refine pf_8_7 (pc := 155) C wd_311 dX8_bestFrom_155 ?_
        refine a_iload_n (pc := 158) C dX8_bestFrom_158 rfl 2 rfl ?_
        exact a_iret (pc := 159) C E rfl (som1 h) (som2 h) dX8_bestFrom_159
    · replace h := iteF c4 h
      refine a_aload_n (pc := 13) C dX8_bestFrom_13 rfl 0 rfl ?_
      refine a_aload_n (pc := 14) C dX8_bestFrom_14 rfl 1 rfl ?_
      obtain ⟨q21, eq21, h⟩ := bndS h
      refine a_callVI (pc := 15) C [.ref (X.N.2.1 1)] (ok_fTurns_difference X.l X.N M eq21) (ble_tr (b := 5) rfl hkb) mw_X8_difference wd_869 rfl rfl rfl rfl rfl rfl rfl dX8_bestFrom_15 (fun z22 => ?_)
      exact a_iret (pc := 18) C E rfl (som1 h) (som2 h) dX8_bestFrom_18
theorem ok_rec_fTurns_bestFrom (l : Launch) (N : Rig) : ∀ n : Nat, (∀ (M : Mem) (x2 : Int32) {r : Int32} {M0 : Mem}, (rec_fTurns_bestFrom n) M x2 = some (r, M0) → Ct l N yX8_bestFrom cX8_bestFrom 9 (some .int) (5 + n) [.ref (N.2.1 14), .ref (N.2.1 1), .int x2] M (QcI N (some .int) r M0)) := by
  intro n
  induction n with
  | zero => intro _ _ _ _ h; cases h
  | succ n ih => exact fun M x2 r M0 h => ok_fTurns_bestFrom_F l N (kr := 5 + n) (kc := 5 + (n + 1)) (Nat.ble_eq.mpr (by omega)) (Nat.ble_eq.mpr (by omega)) (rec_fTurns_bestFrom n) ih M x2 r M0 h
theorem ok_fTurns_bestFrom (l : Launch) (N : Rig) (M : Mem) (x2 : Int32) {r : Int32} {M0 : Mem} (h : fTurns_bestFrom M x2 = some (r, M0)) : Ct l N yX8_bestFrom cX8_bestFrom 9 (some .int) 105 [.ref (N.2.1 14), .ref (N.2.1 1), .int x2] M (QcI N (some .int) r M0) := (ok_rec_fTurns_bestFrom l N 100) M x2 h
set_option maxHeartbeats 200000 in
set_option maxRecDepth 100000 in
theorem ok_fTurns_play (l : Launch) (N : Rig) (M : Mem) (x2 : Int32) (x3 : Int32) (x4 : Int32) (x5 : Int32) (x6 : Int32) {r : Int32} {M0 : Mem} (h : fTurns_play M x2 x3 x4 x5 x6 = some (r, M0)) : Ct l N yX8_play cX8_play 7 (some .int) 106 [.ref (N.2.1 14), .ref (N.2.1 1), .int x2, .int x3, .int x4, .int x5, .int x6] M (QcI N (some .int) r M0) := by
  refine ct_of (by decide) rfl ?_
  intro X el eN eL C E
  subst el
  subst eN
  unfold fTurns_play at h
  show WA X M [(0, .ref (X.N.2.1 14)), (1, .ref (X.N.2.1 1)), (2, .int x2), (3, .int x3), (4, .int x4), (5, .int x5), (6, .int x6)] 0 []
  refine a_aload_n (pc := 0) C dX8_play_0 rfl 0 rfl ?_
  refine a_iload_n (pc := 1) C dX8_play_1 rfl 2 rfl ?_
  refine pf_8_2 (pc := 2) C wd_306 dX8_play_2 ?_
  refine a_aload_n (pc := 5) C dX8_play_5 rfl 0 rfl ?_
  refine a_iload_n (pc := 6) C dX8_play_6 rfl 3 rfl ?_
  refine pf_8_3 (pc := 7) C wd_307 dX8_play_7 ?_
  refine a_aload_n (pc := 10) C dX8_play_10 rfl 0 rfl ?_
  refine a_iload (pc := 11) C dX8_play_11 4 rfl ?_
  refine pf_8_4 (pc := 13) C wd_308 dX8_play_13 ?_
  refine a_aload_n (pc := 16) C dX8_play_16 rfl 0 rfl ?_
  refine a_iload (pc := 17) C dX8_play_17 5 rfl ?_
  refine pf_8_5 (pc := 19) C wd_309 dX8_play_19 ?_
  refine a_aload_n (pc := 22) C dX8_play_22 rfl 0 rfl ?_
  refine a_iload (pc := 23) C dX8_play_23 6 rfl ?_
  refine pf_8_6 (pc := 25) C wd_310 dX8_play_25 ?_
  refine a_aload_n (pc := 28) C dX8_play_28 rfl 0 rfl ?_
  refine gf_8_0 (pc := 29) C wd_304 dX8_play_29 ?_
  refine a_aload_n (pc := 32) C dX8_play_32 rfl 1 rfl ?_
  refine gf_9_1 (pc := 33) C wd_256 dX8_play_33 ?_
  refine a_aload_n (pc := 36) C dX8_play_36 rfl 1 rfl ?_
  refine gf_9_0 (pc := 37) C wd_252 dX8_play_37 ?_
  refine gf_7_4 (pc := 40) C wd_132 dX8_play_40 ?_
  obtain ⟨q1, eq1, h⟩ := bndS h
  refine a_callVV (pc := 43) C [.ref (X.N.2.1 36), .int ((wI (wI (wI (wI (wI M 14 2 x2) 14 3 x3) 14 4 x4) 14 5 x5) 14 6 x6).1 2 4)] (ok_fStreet_become X.l X.N (wI (wI (wI (wI (wI M 14 2 x2) 14 3 x3) 14 4 x4) 14 5 x5) 14 6 x6) 48 36 st48 st36 ((wI (wI (wI (wI (wI M 14 2 x2) 14 3 x3) 14 4 x4) 14 5 x5) 14 6 x6).1 2 4) eq1) rfl mw_X5_become wd_864 (st_shp st48) (st_blt st48) rfl rfl rfl rfl rfl dX8_play_43 ?_
  refine a_aload_n (pc := 46) C dX8_play_46 rfl 0 rfl ?_
  refine a_aload_n (pc := 47) C dX8_play_47 rfl 1 rfl ?_
  refine a_iconst (pc := 48) C 0 dX8_play_48 rfl ?_
  obtain ⟨q2, eq2, h⟩ := bndS h
  refine a_callVI (pc := 49) C [.ref (X.N.2.1 1), .int 0] (ok_fTurns_bestFrom X.l X.N q1 0 eq2) rfl mw_X8_bestFrom wd_865 rfl rfl rfl rfl rfl rfl rfl dX8_play_49 (fun z3 => ?_)
  exact a_iret (pc := 52) C E rfl (som1 h) (som2 h) dX8_play_52
set_option maxHeartbeats 200000 in
set_option maxRecDepth 100000 in
theorem ok_fWorld_isPerson (l : Launch) (N : Rig) (M : Mem) (x1 : Int32) : Ct l N yX9_isPerson cX9_isPerson 2 (some .boolean) 0 [.ref (N.2.1 1), .int x1] M (QcI N (some .boolean) (fWorld_isPerson M x1) M) := by
  obtain ⟨r, h⟩ : ∃ r, fWorld_isPerson M x1 = r := ⟨_, rfl⟩
  rw [h]
  refine ct_of (by decide) rfl ?_
  intro X el eN eL C E
  subst el
  subst eN
  unfold fWorld_isPerson at h
  show WA X M [(0, .ref (X.N.2.1 1)), (1, .int x1)] 0 []
  refine a_iload_n (pc := 0) C dX9_isPerson_0 rfl 1 rfl ?_
  refine a_if_lt (pc := 1) C 19 dX9_isPerson_1 rfl (fun c1 => ?_) (fun c1 => ?_)
  · replace h := iteT c1 h
    refine a_iconst (pc := 19) C 0 dX9_isPerson_19 rfl ?_
    exact a_iret (pc := 20) C E rfl h rfl dX9_isPerson_20
  · replace h := iteF c1 h
    refine a_iload_n (pc := 4) C dX9_isPerson_4 rfl 1 rfl ?_
    refine a_aload_n (pc := 5) C dX9_isPerson_5 rfl 0 rfl ?_
    refine gf_9_0 (pc := 6) C wd_250 dX9_isPerson_6 ?_
    refine gf_7_4 (pc := 9) C wd_130 dX9_isPerson_9 ?_
    refine a_icmp_ge (pc := 12) C 19 dX9_isPerson_12 rfl (fun c2 => ?_) (fun c2 => ?_)
    · replace h := iteT c2 h
      refine a_iconst (pc := 19) C 0 dX9_isPerson_19 rfl ?_
      exact a_iret (pc := 20) C E rfl h rfl dX9_isPerson_20
    · replace h := iteF c2 h
      refine a_iconst (pc := 15) C 1 dX9_isPerson_15 rfl ?_
      refine a_goto (pc := 16) C 20 dX9_isPerson_16 rfl ?_
      exact a_iret (pc := 20) C E rfl h rfl dX9_isPerson_20
set_option maxHeartbeats 200000 in
set_option maxRecDepth 100000 in
theorem ok_fWorld_isCrowded (l : Launch) (N : Rig) (M : Mem) : Ct l N yX9_isCrowded cX9_isCrowded 1 (some .boolean) 0 [.ref (N.2.1 1)] M (QcI N (some .boolean) (fWorld_isCrowded M) M) := by
  obtain ⟨r, h⟩ : ∃ r, fWorld_isCrowded M = r := ⟨_, rfl⟩
  rw [h]
  refine ct_of (by decide) rfl ?_
  intro X el eN eL C E
  subst el
  subst eN
  unfold fWorld_isCrowded at h
  show WA X M [(0, .ref (X.N.2.1 1))] 0 []
  refine a_aload_n (pc := 0) C dX9_isCrowded_0 rfl 0 rfl ?_
  refine gf_9_0 (pc := 1) C wd_250 dX9_isCrowded_1 ?_
  refine gf_7_4 (pc := 4) C wd_130 dX9_isCrowded_4 ?_
  refine a_bipush (pc := 7) C 8 dX9_isCrowded_7 rfl ?_
  refine a_icmp_lt (pc := 9) C 16 dX9_isCrowded_9 rfl (fun c1 => ?_) (fun c1 => ?_)
  · replace h := iteT c1 h
    refine a_iconst (pc := 16) C 0 dX9_isCrowded_16 rfl ?_
    exact a_iret (pc := 17) C E rfl h rfl dX9_isCrowded_17
  · replace h := iteF c1 h
    refine a_iconst (pc := 12) C 1 dX9_isCrowded_12 rfl ?_
    refine a_goto (pc := 13) C 17 dX9_isCrowded_13 rfl ?_
    exact a_iret (pc := 17) C E rfl h rfl dX9_isCrowded_17
set_option maxHeartbeats 200000 in
set_option maxRecDepth 100000 in
theorem ok_fWorld_seated (l : Launch) (N : Rig) (M : Mem) (x1 : Int32) (x2 : Int32) (x3 : Int32) {r : Int32} {M0 : Mem} (h : fWorld_seated M x1 x2 x3 = some (r, M0)) : Ct l N yX9_seated cX9_seated 5 (some .int) 0 [.ref (N.2.1 1), .int x1, .int x2, .int x3] M (QcI N (some .int) r M0) := by
  refine ct_of (by decide) rfl ?_
  intro X el eN eL C E
  subst el
  subst eN
  unfold fWorld_seated at h
  show WA X M [(0, .ref (X.N.2.1 1)), (1, .int x1), (2, .int x2), (3, .int x3)] 0 []
  refine a_aload_n (pc := 0) C dX9_seated_0 rfl 0 rfl ?_
  refine gf_9_0 (pc := 1) C wd_250 dX9_seated_1 ?_
  refine gf_7_4 (pc := 4) C wd_130 dX9_seated_4 ?_
  refine a_istore (pc := 7) C [(4, .int (M.1 2 4)), (0, .ref (X.N.2.1 1)), (1, .int x1), (2, .int x2), (3, .int x3)] dX9_seated_7 (nlt eL rfl) rfl ?_
  refine a_aload_n (pc := 9) C dX9_seated_9 rfl 1 rfl ?_
  refine gf_9_0 (pc := 10) C wd_250 dX9_seated_10 ?_
  refine gf_7_2 (pc := 13) C wd_124 dX9_seated_13 ?_
  refine a_iload (pc := 16) C dX9_seated_16 0 rfl ?_
  refine a_iload_n (pc := 18) C dX9_seated_18 rfl 3 rfl ?_
  obtain ⟨M1, eM1, h⟩ := bndS h
  refine a_iast (pc := 19) C rfl eM1 dX9_seated_19 ?_
  refine a_aload_n (pc := 20) C dX9_seated_20 rfl 1 rfl ?_
  refine gf_9_0 (pc := 21) C wd_250 dX9_seated_21 ?_
  refine gf_7_3 (pc := 24) C wd_127 dX9_seated_24 ?_
  refine a_iload (pc := 27) C dX9_seated_27 0 rfl ?_
  refine a_iload_n (pc := 29) C dX9_seated_29 rfl 4 rfl ?_
  obtain ⟨M2, eM2, h⟩ := bndS h
  refine a_iast (pc := 30) C rfl eM2 dX9_seated_30 ?_
  refine a_aload_n (pc := 31) C dX9_seated_31 rfl 1 rfl ?_
  refine gf_9_1 (pc := 32) C wd_254 dX9_seated_32 ?_
  refine gf_5_2 (pc := 35) C st36 wd_164 dX9_seated_35 ?_
  refine a_iload (pc := 38) C dX9_seated_38 0 rfl ?_
  refine a_iload_n (pc := 40) C dX9_seated_40 rfl 2 rfl ?_
  obtain ⟨M3, eM3, h⟩ := bndS h
  refine a_iast (pc := 41) C (st_a3 st36) eM3 dX9_seated_41 ?_
  refine a_aload_n (pc := 42) C dX9_seated_42 rfl 1 rfl ?_
  refine gf_9_0 (pc := 43) C wd_250 dX9_seated_43 ?_
  refine a_dup (pc := 46) C dX9_seated_46 rfl ?_
  refine gf_7_4 (pc := 47) C wd_130 dX9_seated_47 ?_
  refine a_iconst (pc := 50) C 1 dX9_seated_50 rfl ?_
  refine a_iadd (pc := 51) C dX9_seated_51 ?_
  refine pf_7_4 (pc := 52) C wd_130 dX9_seated_52 ?_
  refine a_iload (pc := 55) C dX9_seated_55 0 rfl ?_
  exact a_iret (pc := 57) C E rfl (som1 h) (som2 h) dX9_seated_57
set_option maxHeartbeats 200000 in
set_option maxRecDepth 100000 in
theorem ok_fSh_isCell (l : Launch) (N : Rig) (M : Mem) (x0 : Int32) : Ct l N yX10_isCell cX10_isCell 1 (some .boolean) 0 [.int x0] M (QcI N (some .boolean) (fSh_isCell x0) M) := by
  obtain ⟨r, h⟩ : ∃ r, fSh_isCell x0 = r := ⟨_, rfl⟩
  rw [h]
  refine ct_of (by decide) rfl ?_
  intro X el eN eL C E
  subst el
  subst eN
  unfold fSh_isCell at h
  show WA X M [(0, .int x0)] 0 []
  refine a_iload_n (pc := 0) C dX10_isCell_0 rfl 0 rfl ?_
  refine a_if_lt (pc := 1) C 14 dX10_isCell_1 rfl (fun c1 => ?_) (fun c1 => ?_)
  · replace h := iteT c1 h
    refine a_iconst (pc := 14) C 0 dX10_isCell_14 rfl ?_
    exact a_iret (pc := 15) C E rfl h rfl dX10_isCell_15
  · replace h := iteF c1 h
    refine a_iload_n (pc := 4) C dX10_isCell_4 rfl 0 rfl ?_
    refine a_bipush (pc := 5) C 36 dX10_isCell_5 rfl ?_
    refine a_icmp_ge (pc := 7) C 14 dX10_isCell_7 rfl (fun c2 => ?_) (fun c2 => ?_)
    · replace h := iteT c2 h
      refine a_iconst (pc := 14) C 0 dX10_isCell_14 rfl ?_
      exact a_iret (pc := 15) C E rfl h rfl dX10_isCell_15
    · replace h := iteF c2 h
      refine a_iconst (pc := 10) C 1 dX10_isCell_10 rfl ?_
      refine a_goto (pc := 11) C 15 dX10_isCell_11 rfl ?_
      exact a_iret (pc := 15) C E rfl h rfl dX10_isCell_15
set_option maxHeartbeats 200000 in
set_option maxRecDepth 100000 in
theorem ok_fWorld_isWithin (l : Launch) (N : Rig) (M : Mem) (x0 : Int32) (x1 : Int32) {r : Int32} (h : fWorld_isWithin M x0 x1 = some r) : Ct l N yX9_isWithin cX9_isWithin 2 (some .boolean) 0 [.int x0, .int x1] M (QcI N (some .boolean) r M) := by
  refine ct_of (by decide) rfl ?_
  intro X el eN eL C E
  subst el
  subst eN
  unfold fWorld_isWithin at h
  show WA X M [(0, .int x0), (1, .int x1)] 0 []
  refine a_iload_n (pc := 0) C dX9_isWithin_0 rfl 0 rfl ?_
  refine a_if_lt (pc := 1) C 17 dX9_isWithin_1 rfl (fun c1 => ?_) (fun c1 => ?_)
  · replace h := iteT c1 h
    refine a_iconst (pc := 17) C 0 dX9_isWithin_17 rfl ?_
    exact a_iret (pc := 18) C E rfl (somI h) rfl dX9_isWithin_18
  · replace h := iteF c1 h
    refine a_iload_n (pc := 4) C dX9_isWithin_4 rfl 0 rfl ?_
    refine a_getsN (pc := 5) C dX9_isWithin_5 ?_
    refine a_iload_n (pc := 8) C dX9_isWithin_8 rfl 1 rfl ?_
    obtain ⟨v2, ev2, h⟩ := bndS h
    refine a_tald (pc := 9) C 0 (by decide) ev2 dX9_isWithin_9 ?_
    refine a_icmp_gt (pc := 10) C 17 dX9_isWithin_10 rfl (fun c3 => ?_) (fun c3 => ?_)
    · replace h := iteT c3 h
      refine a_iconst (pc := 17) C 0 dX9_isWithin_17 rfl ?_
      exact a_iret (pc := 18) C E rfl (somI h) rfl dX9_isWithin_18
    · replace h := iteF c3 h
      refine a_iconst (pc := 13) C 1 dX9_isWithin_13 rfl ?_
      refine a_goto (pc := 14) C 18 dX9_isWithin_14 rfl ?_
      exact a_iret (pc := 18) C E rfl (somI h) rfl dX9_isWithin_18
set_option maxHeartbeats 200000 in
set_option maxRecDepth 100000 in
theorem ok_fWorld_admits (l : Launch) (N : Rig) (M : Mem) (a1 : Nat) (ha1 : isRw a1) (x2 : Int32) {r : Int32} {M0 : Mem} (h : fWorld_admits M a1 x2 = some (r, M0)) : Ct l N yX9_admits cX9_admits 6 (some .boolean) 1 [.ref (N.2.1 1), .ref (N.2.1 a1), .int x2] M (QcI N (some .boolean) r M0) := by
  refine ct_of (by decide) rfl ?_
  intro X el eN eL C E
  subst el
  subst eN
  unfold fWorld_admits at h
  show WA X M [(0, .ref (X.N.2.1 1)), (1, .ref (X.N.2.1 a1)), (2, .int x2)] 0 []
  refine a_aload_n (pc := 0) C dX9_admits_0 rfl 1 rfl ?_
  refine a_iload_n (pc := 1) C dX9_admits_1 rfl 2 rfl ?_
  obtain ⟨v1, ev1, h⟩ := bndS h
  refine a_lald (pc := 2) C (rw_shp ha1) ev1 dX9_admits_2 ?_
  refine a_l2i (pc := 3) C dX9_admits_3 ?_
  refine a_istore_n (pc := 4) C [(3, .int v1.toInt32), (0, .ref (X.N.2.1 1)), (1, .ref (X.N.2.1 a1)), (2, .int x2)] dX9_admits_4 rfl (nlt eL rfl) rfl ?_
  refine a_aload_n (pc := 5) C dX9_admits_5 rfl 2 rfl ?_
  refine a_iload_n (pc := 6) C dX9_admits_6 rfl 3 rfl ?_
  refine a_iconst (pc := 7) C 1 dX9_admits_7 rfl ?_
  refine a_iadd (pc := 8) C dX9_admits_8 ?_
  obtain ⟨v2, ev2, h⟩ := bndS h
  refine a_lald (pc := 9) C (rw_shp ha1) ev2 dX9_admits_9 ?_
  refine a_l2i (pc := 10) C dX9_admits_10 ?_
  refine a_istore (pc := 11) C [(4, .int v2.toInt32), (3, .int v1.toInt32), (0, .ref (X.N.2.1 1)), (1, .ref (X.N.2.1 a1)), (2, .int x2)] dX9_admits_11 (nlt eL rfl) rfl ?_
  refine a_aload_n (pc := 13) C dX9_admits_13 rfl 3 rfl ?_
  refine a_iload_n (pc := 14) C dX9_admits_14 rfl 4 rfl ?_
  refine a_iconst (pc := 15) C 2 dX9_admits_15 rfl ?_
  refine a_iadd (pc := 16) C dX9_admits_16 ?_
  obtain ⟨v3, ev3, h⟩ := bndS h
  refine a_lald (pc := 17) C (rw_shp ha1) ev3 dX9_admits_17 ?_
  refine a_l2i (pc := 18) C dX9_admits_18 ?_
  refine a_istore (pc := 19) C [(5, .int v3.toInt32), (4, .int v2.toInt32), (3, .int v1.toInt32), (0, .ref (X.N.2.1 1)), (1, .ref (X.N.2.1 a1)), (2, .int x2)] dX9_admits_19 (nlt eL rfl) rfl ?_
  refine a_aload_n (pc := 21) C dX9_admits_21 rfl 3 rfl ?_
  refine a_callVI (pc := 22) C [] (ok_fWorld_isCrowded X.l X.N M) rfl mw_X9_isCrowded wd_498 rfl rfl rfl rfl rfl rfl rfl dX9_admits_22 (fun z4 => ?_)
  refine a_if_ne (pc := 25) C 53 dX9_admits_25 rfl (fun c5 => ?_) (fun c5 => ?_)
  · replace h := iteT c5 h
    refine a_iconst (pc := 53) C 0 dX9_admits_53 rfl ?_
    exact a_iret (pc := 54) C E rfl (som1 h) (som2 h) dX9_admits_54
  · replace h := iteF c5 h
    refine a_iload_n (pc := 28) C dX9_admits_28 rfl 2 rfl ?_
    refine a_callN (pc := 29) C [.int v1.toInt32] (ok_fSh_isCell X.l X.N M v1.toInt32) rfl mw_X10_isCell rfl rfl rfl dX9_admits_29 (fun z6 => ?_)
    refine a_if_eq (pc := 32) C 53 dX9_admits_32 rfl (fun c7 => ?_) (fun c7 => ?_)
    · replace h := iteT c7 h
      refine a_iconst (pc := 53) C 0 dX9_admits_53 rfl ?_
      exact a_iret (pc := 54) C E rfl (som1 h) (som2 h) dX9_admits_54
    · replace h := iteF c7 h
      refine a_iload (pc := 35) C dX9_admits_35 1 rfl ?_
      refine a_iconst (pc := 37) C 4 dX9_admits_37 rfl ?_
      obtain ⟨v8, ev8, h⟩ := bndS h
      refine a_callSI (pc := 38) C [.int v2.toInt32, .int 4] (ok_fWorld_isWithin X.l X.N M v2.toInt32 4 ev8) rfl mw_X9_isWithin wd_500 rfl rfl rfl dX9_admits_38 (fun z9 => ?_)
      refine a_if_eq (pc := 41) C 53 dX9_admits_41 rfl (fun c10 => ?_) (fun c10 => ?_)
      · replace h := iteT c10 h
        refine a_iconst (pc := 53) C 0 dX9_admits_53 rfl ?_
        exact a_iret (pc := 54) C E rfl (som1 h) (som2 h) dX9_admits_54
      · replace h := iteF c10 h
        refine a_iload (pc := 44) C dX9_admits_44 0 rfl ?_
        refine a_iconst (pc := 46) C 5 dX9_admits_46 rfl ?_
        obtain ⟨v11, ev11, h⟩ := bndS h
        refine a_callSI (pc := 47) C [.int v3.toInt32, .int 5] (ok_fWorld_isWithin X.l X.N M v3.toInt32 5 ev11) rfl mw_X9_isWithin wd_500 rfl rfl rfl dX9_admits_47 (fun z12 => ?_)
        refine a_if_ne (pc := 50) C 55 dX9_admits_50 rfl (fun c13 => ?_) (fun c13 => ?_)
        · replace h := iteT c13 h
          refine a_aload_n (pc := 55) C dX9_admits_55 rfl 3 rfl ?_
          refine a_iload_n (pc := 56) C dX9_admits_56 rfl 2 rfl ?_
          refine a_iload (pc := 57) C dX9_admits_57 1 rfl ?_
          refine a_iload (pc := 59) C dX9_admits_59 0 rfl ?_
          obtain ⟨q14, eq14, h⟩ := bndS h
          refine a_callVI (pc := 61) C [.int v1.toInt32, .int v2.toInt32, .int v3.toInt32] (ok_fWorld_seated X.l X.N M v1.toInt32 v2.toInt32 v3.toInt32 eq14) rfl mw_X9_seated wd_505 rfl rfl rfl rfl rfl rfl rfl dX9_admits_61 (fun z15 => ?_)
          refine a_pop (pc := 64) C dX9_admits_64 rfl ?_
          refine a_iconst (pc := 65) C 1 dX9_admits_65 rfl ?_
          exact a_iret (pc := 66) C E rfl (som1 h) (som2 h) dX9_admits_66
        · replace h := iteF c13 h
          refine a_iconst (pc := 53) C 0 dX9_admits_53 rfl ?_
          exact a_iret (pc := 54) C E rfl (som1 h) (som2 h) dX9_admits_54
set_option maxHeartbeats 200000 in
set_option maxRecDepth 100000 in
theorem ok_fWorld_isNumber (l : Launch) (N : Rig) (M : Mem) (x1 : Int32) (x2 : Int32) : Ct l N yX9_isNumber cX9_isNumber 3 (some .boolean) 1 [.ref (N.2.1 1), .int x1, .int x2] M (QcI N (some .boolean) (fWorld_isNumber M x1 x2) M) := by
  obtain ⟨r, h⟩ : ∃ r, fWorld_isNumber M x1 x2 = r := ⟨_, rfl⟩
  rw [h]
  refine ct_of (by decide) rfl ?_
  intro X el eN eL C E
  subst el
  subst eN
  unfold fWorld_isNumber at h
  show WA X M [(0, .ref (X.N.2.1 1)), (1, .int x1), (2, .int x2)] 0 []
  refine a_iload_n (pc := 0) C dX9_isNumber_0 rfl 2 rfl ?_
  refine a_if_lt (pc := 1) C 10 dX9_isNumber_1 rfl (fun c1 => ?_) (fun c1 => ?_)
  · replace h := iteT c1 h
    refine a_iconst (pc := 10) C 0 dX9_isNumber_10 rfl ?_
    exact a_iret (pc := 11) C E rfl h rfl dX9_isNumber_11
  · replace h := iteF c1 h
    refine a_iload_n (pc := 4) C dX9_isNumber_4 rfl 2 rfl ?_
    refine a_bipush (pc := 5) C 7 dX9_isNumber_5 rfl ?_
    refine a_icmp_le (pc := 7) C 12 dX9_isNumber_7 rfl (fun c2 => ?_) (fun c2 => ?_)
    · replace h := iteT c2 h
      refine a_iload_n (pc := 12) C dX9_isNumber_12 rfl 2 rfl ?_
      refine a_bipush (pc := 13) C 7 dX9_isNumber_13 rfl ?_
      refine a_icmp_ne (pc := 15) C 28 dX9_isNumber_15 rfl (fun c3 => ?_) (fun c3 => ?_)
      · replace h := iteT c3 h
        refine a_iload_n (pc := 28) C dX9_isNumber_28 rfl 2 rfl ?_
        refine a_iconst (pc := 29) C 3 dX9_isNumber_29 rfl ?_
        refine a_icmp_lt (pc := 30) C 41 dX9_isNumber_30 rfl (fun c4 => ?_) (fun c4 => ?_)
        · replace h := iteT c4 h
          refine a_iload_n (pc := 41) C dX9_isNumber_41 rfl 1 rfl ?_
          refine a_callN (pc := 42) C [.int x1] (ok_fSh_isCell X.l X.N M x1) rfl mw_X10_isCell rfl rfl rfl dX9_isNumber_42 (fun z5 => ?_)
          exact a_iret (pc := 45) C E (z5 _ rfl) h rfl dX9_isNumber_45
        · replace h := iteF c4 h
          refine a_aload_n (pc := 33) C dX9_isNumber_33 rfl 0 rfl ?_
          refine a_iload_n (pc := 34) C dX9_isNumber_34 rfl 1 rfl ?_
          refine a_callVI (pc := 35) C [.int x1] (ok_fWorld_isPerson X.l X.N M x1) rfl mw_X9_isPerson wd_514 rfl rfl rfl rfl rfl rfl rfl dX9_isNumber_35 (fun z6 => ?_)
          refine a_goto (pc := 38) C 45 dX9_isNumber_38 rfl ?_
          exact a_iret (pc := 45) C E (z6 _ rfl) h rfl dX9_isNumber_45
      · replace h := iteF c3 h
        refine a_iload_n (pc := 18) C dX9_isNumber_18 rfl 1 rfl ?_
        refine a_if_ne (pc := 19) C 26 dX9_isNumber_19 rfl (fun c7 => ?_) (fun c7 => ?_)
        · replace h := iteT c7 h
          refine a_iconst (pc := 26) C 0 dX9_isNumber_26 rfl ?_
          exact a_iret (pc := 27) C E rfl h rfl dX9_isNumber_27
        · replace h := iteF c7 h
          refine a_iconst (pc := 22) C 1 dX9_isNumber_22 rfl ?_
          refine a_goto (pc := 23) C 27 dX9_isNumber_23 rfl ?_
          exact a_iret (pc := 27) C E rfl h rfl dX9_isNumber_27
    · replace h := iteF c2 h
      refine a_iconst (pc := 10) C 0 dX9_isNumber_10 rfl ?_
      exact a_iret (pc := 11) C E rfl h rfl dX9_isNumber_11
set_option maxHeartbeats 200000 in
set_option maxRecDepth 100000 in
theorem ok_fWorld_told (l : Launch) (N : Rig) (M : Mem) (x1 : Int32) (x2 : Int32) {r : Int32} (h : fWorld_told M x1 x2 = some r) : Ct l N yX9_told cX9_told 3 (some .int) 0 [.ref (N.2.1 1), .int x1, .int x2] M (QcI N (some .int) r M) := by
  refine ct_of (by decide) rfl ?_
  intro X el eN eL C E
  subst el
  subst eN
  unfold fWorld_told at h
  show WA X M [(0, .ref (X.N.2.1 1)), (1, .int x1), (2, .int x2)] 0 []
  refine a_iload_n (pc := 0) C dX9_told_0 rfl 2 rfl ?_
  by_cases c1 : x2 = 0
  · replace h := iteT c1 h
    refine a_tsw_in (pc := 1) C 0 44 dX9_told_1 c1 (by decide) (by decide) rfl rfl ?_
    refine a_aload_n (pc := 44) C dX9_told_44 rfl 0 rfl ?_
    refine gf_9_0 (pc := 45) C wd_250 dX9_told_45 ?_
    refine gf_7_0 (pc := 48) C wd_120 dX9_told_48 ?_
    refine a_iload_n (pc := 51) C dX9_told_51 rfl 1 rfl ?_
    obtain ⟨v2, ev2, h⟩ := bndS h
    refine a_iald (pc := 52) C rfl ev2 dX9_told_52 ?_
    exact a_iret (pc := 53) C E rfl (somI h) rfl dX9_told_53
  replace h := iteF c1 h
  by_cases c3 : x2 = 1
  · replace h := iteT c3 h
    refine a_tsw_in (pc := 1) C 1 54 dX9_told_1 c3 (by decide) (by decide) rfl rfl ?_
    refine a_aload_n (pc := 54) C dX9_told_54 rfl 0 rfl ?_
    refine gf_9_1 (pc := 55) C wd_254 dX9_told_55 ?_
    refine gf_5_0 (pc := 58) C st36 wd_154 dX9_told_58 ?_
    refine a_iload_n (pc := 61) C dX9_told_61 rfl 1 rfl ?_
    obtain ⟨v4, ev4, h⟩ := bndS h
    refine a_iald (pc := 62) C (st_a1 st36) ev4 dX9_told_62 ?_
    exact a_iret (pc := 63) C E rfl (somI h) rfl dX9_told_63
  replace h := iteF c3 h
  by_cases c5 : x2 = 2
  · replace h := iteT c5 h
    refine a_tsw_in (pc := 1) C 2 64 dX9_told_1 c5 (by decide) (by decide) rfl rfl ?_
    refine a_aload_n (pc := 64) C dX9_told_64 rfl 0 rfl ?_
    refine gf_9_1 (pc := 65) C wd_254 dX9_told_65 ?_
    refine gf_5_1 (pc := 68) C st36 wd_159 dX9_told_68 ?_
    refine a_iload_n (pc := 71) C dX9_told_71 rfl 1 rfl ?_
    obtain ⟨v6, ev6, h⟩ := bndS h
    refine a_iald (pc := 72) C (st_a2 st36) ev6 dX9_told_72 ?_
    exact a_iret (pc := 73) C E rfl (somI h) rfl dX9_told_73
  replace h := iteF c5 h
  by_cases c7 : x2 = 3
  · replace h := iteT c7 h
    refine a_tsw_in (pc := 1) C 3 74 dX9_told_1 c7 (by decide) (by decide) rfl rfl ?_
    refine a_aload_n (pc := 74) C dX9_told_74 rfl 0 rfl ?_
    refine gf_9_1 (pc := 75) C wd_254 dX9_told_75 ?_
    refine gf_5_2 (pc := 78) C st36 wd_164 dX9_told_78 ?_
    refine a_iload_n (pc := 81) C dX9_told_81 rfl 1 rfl ?_
    obtain ⟨v8, ev8, h⟩ := bndS h
    refine a_iald (pc := 82) C (st_a3 st36) ev8 dX9_told_82 ?_
    exact a_iret (pc := 83) C E rfl (somI h) rfl dX9_told_83
  replace h := iteF c7 h
  by_cases c9 : x2 = 4
  · replace h := iteT c9 h
    refine a_tsw_in (pc := 1) C 4 84 dX9_told_1 c9 (by decide) (by decide) rfl rfl ?_
    refine a_aload_n (pc := 84) C dX9_told_84 rfl 0 rfl ?_
    refine gf_9_0 (pc := 85) C wd_250 dX9_told_85 ?_
    refine gf_7_2 (pc := 88) C wd_124 dX9_told_88 ?_
    refine a_iload_n (pc := 91) C dX9_told_91 rfl 1 rfl ?_
    obtain ⟨v10, ev10, h⟩ := bndS h
    refine a_iald (pc := 92) C rfl ev10 dX9_told_92 ?_
    exact a_iret (pc := 93) C E rfl (somI h) rfl dX9_told_93
  replace h := iteF c9 h
  by_cases c11 : x2 = 5
  · replace h := iteT c11 h
    refine a_tsw_in (pc := 1) C 5 94 dX9_told_1 c11 (by decide) (by decide) rfl rfl ?_
    refine a_aload_n (pc := 94) C dX9_told_94 rfl 0 rfl ?_
    refine gf_9_0 (pc := 95) C wd_250 dX9_told_95 ?_
    refine gf_7_3 (pc := 98) C wd_127 dX9_told_98 ?_
    refine a_iload_n (pc := 101) C dX9_told_101 rfl 1 rfl ?_
    obtain ⟨v12, ev12, h⟩ := bndS h
    refine a_iald (pc := 102) C rfl ev12 dX9_told_102 ?_
    exact a_iret (pc := 103) C E rfl (somI h) rfl dX9_told_103
  replace h := iteF c11 h
  by_cases c13 : x2 = 6
  · replace h := iteT c13 h
    refine a_tsw_in (pc := 1) C 6 104 dX9_told_1 c13 (by decide) (by decide) rfl rfl ?_
    refine a_aload_n (pc := 104) C dX9_told_104 rfl 0 rfl ?_
    refine gf_9_1 (pc := 105) C wd_254 dX9_told_105 ?_
    refine gf_5_3 (pc := 108) C st36 wd_170 dX9_told_108 ?_
    refine a_iload_n (pc := 111) C dX9_told_111 rfl 1 rfl ?_
    obtain ⟨v14, ev14, h⟩ := bndS h
    refine a_iald (pc := 112) C (st_a4 st36) ev14 dX9_told_112 ?_
    exact a_iret (pc := 113) C E rfl (somI h) rfl dX9_told_113
  replace h := iteF c13 h
  refine a_tsw_out (pc := 1) C 114 dX9_told_1 (by have := neI 0 rfl c1; have := neI 1 rfl c3; have := neI 2 rfl c5; have := neI 3 rfl c7; have := neI 4 rfl c9; have := neI 5 rfl c11; have := neI 6 rfl c13; omega) rfl ?_
  refine a_aload_n (pc := 114) C dX9_told_114 rfl 0 rfl ?_
  refine gf_9_1 (pc := 115) C wd_254 dX9_told_115 ?_
  refine gf_5_4 (pc := 118) C st36 wd_173 dX9_told_118 ?_
  exact a_iret (pc := 121) C E rfl (somI h) rfl dX9_told_121
set_option maxHeartbeats 200000 in
set_option maxRecDepth 100000 in
theorem ok_fWorld_tell (l : Launch) (N : Rig) (M : Mem) (x1 : Int32) (x2 : Int32) (x3 : Int32) {M0 : Mem} (h : fWorld_tell M x1 x2 x3 = some M0) : Ct l N yX9_tell cX9_tell 4 none 3 [.ref (N.2.1 1), .int x1, .int x2, .int x3] M (QcV N M0) := by
  refine ct_of (by decide) rfl ?_
  intro X el eN eL C E
  subst el
  subst eN
  unfold fWorld_tell at h
  show WA X M [(0, .ref (X.N.2.1 1)), (1, .int x1), (2, .int x2), (3, .int x3)] 0 []
  refine a_iload_n (pc := 0) C dX9_tell_0 rfl 2 rfl ?_
  by_cases c1 : x2 = 0
  · replace h := iteT c1 h
    refine a_tsw_in (pc := 1) C 0 44 dX9_tell_1 c1 (by decide) (by decide) rfl rfl ?_
    refine a_aload_n (pc := 44) C dX9_tell_44 rfl 0 rfl ?_
    refine gf_9_0 (pc := 45) C wd_250 dX9_tell_45 ?_
    refine a_iload_n (pc := 48) C dX9_tell_48 rfl 1 rfl ?_
    refine a_iload_n (pc := 49) C dX9_tell_49 rfl 3 rfl ?_
    obtain ⟨q2, eq2, h⟩ := bndS h
    refine a_callVV (pc := 50) C [.int x1, .int x3] (ok_fTown_raise X.l X.N M x1 x3 eq2) rfl mw_X7_raise wd_538 rfl rfl rfl rfl rfl rfl rfl dX9_tell_50 ?_
    refine a_goto (pc := 53) C 142 dX9_tell_53 rfl ?_
    exact a_vret (pc := 142) C E (somI h) dX9_tell_142
  replace h := iteF c1 h
  by_cases c3 : x2 = 1
  · replace h := iteT c3 h
    refine a_tsw_in (pc := 1) C 1 56 dX9_tell_1 c3 (by decide) (by decide) rfl rfl ?_
    refine a_aload_n (pc := 56) C dX9_tell_56 rfl 0 rfl ?_
    refine gf_9_1 (pc := 57) C wd_254 dX9_tell_57 ?_
    refine gf_5_0 (pc := 60) C st36 wd_154 dX9_tell_60 ?_
    refine a_iload_n (pc := 63) C dX9_tell_63 rfl 1 rfl ?_
    refine a_iload_n (pc := 64) C dX9_tell_64 rfl 3 rfl ?_
    obtain ⟨M4, eM4, h⟩ := bndS h
    refine a_iast (pc := 65) C (st_a1 st36) eM4 dX9_tell_65 ?_
    refine a_goto (pc := 66) C 142 dX9_tell_66 rfl ?_
    exact a_vret (pc := 142) C E (somI h) dX9_tell_142
  replace h := iteF c3 h
  by_cases c5 : x2 = 2
  · replace h := iteT c5 h
    refine a_tsw_in (pc := 1) C 2 69 dX9_tell_1 c5 (by decide) (by decide) rfl rfl ?_
    refine a_aload_n (pc := 69) C dX9_tell_69 rfl 0 rfl ?_
    refine gf_9_1 (pc := 70) C wd_254 dX9_tell_70 ?_
    refine gf_5_1 (pc := 73) C st36 wd_159 dX9_tell_73 ?_
    refine a_iload_n (pc := 76) C dX9_tell_76 rfl 1 rfl ?_
    refine a_iload_n (pc := 77) C dX9_tell_77 rfl 3 rfl ?_
    obtain ⟨M6, eM6, h⟩ := bndS h
    refine a_iast (pc := 78) C (st_a2 st36) eM6 dX9_tell_78 ?_
    refine a_goto (pc := 79) C 142 dX9_tell_79 rfl ?_
    exact a_vret (pc := 142) C E (somI h) dX9_tell_142
  replace h := iteF c5 h
  by_cases c7 : x2 = 3
  · replace h := iteT c7 h
    refine a_tsw_in (pc := 1) C 3 82 dX9_tell_1 c7 (by decide) (by decide) rfl rfl ?_
    refine a_aload_n (pc := 82) C dX9_tell_82 rfl 0 rfl ?_
    refine gf_9_1 (pc := 83) C wd_254 dX9_tell_83 ?_
    refine gf_5_2 (pc := 86) C st36 wd_164 dX9_tell_86 ?_
    refine a_iload_n (pc := 89) C dX9_tell_89 rfl 1 rfl ?_
    refine a_iload_n (pc := 90) C dX9_tell_90 rfl 3 rfl ?_
    obtain ⟨M8, eM8, h⟩ := bndS h
    refine a_iast (pc := 91) C (st_a3 st36) eM8 dX9_tell_91 ?_
    refine a_goto (pc := 92) C 142 dX9_tell_92 rfl ?_
    exact a_vret (pc := 142) C E (somI h) dX9_tell_142
  replace h := iteF c7 h
  by_cases c9 : x2 = 4
  · replace h := iteT c9 h
    refine a_tsw_in (pc := 1) C 4 95 dX9_tell_1 c9 (by decide) (by decide) rfl rfl ?_
    refine a_aload_n (pc := 95) C dX9_tell_95 rfl 0 rfl ?_
    refine gf_9_0 (pc := 96) C wd_250 dX9_tell_96 ?_
    refine gf_7_2 (pc := 99) C wd_124 dX9_tell_99 ?_
    refine a_iload_n (pc := 102) C dX9_tell_102 rfl 1 rfl ?_
    refine a_iload_n (pc := 103) C dX9_tell_103 rfl 3 rfl ?_
    obtain ⟨M10, eM10, h⟩ := bndS h
    refine a_iast (pc := 104) C rfl eM10 dX9_tell_104 ?_
    refine a_goto (pc := 105) C 142 dX9_tell_105 rfl ?_
    exact a_vret (pc := 142) C E (somI h) dX9_tell_142
  replace h := iteF c9 h
  by_cases c11 : x2 = 5
  · replace h := iteT c11 h
    refine a_tsw_in (pc := 1) C 5 108 dX9_tell_1 c11 (by decide) (by decide) rfl rfl ?_
    refine a_aload_n (pc := 108) C dX9_tell_108 rfl 0 rfl ?_
    refine gf_9_0 (pc := 109) C wd_250 dX9_tell_109 ?_
    refine gf_7_3 (pc := 112) C wd_127 dX9_tell_112 ?_
    refine a_iload_n (pc := 115) C dX9_tell_115 rfl 1 rfl ?_
    refine a_iload_n (pc := 116) C dX9_tell_116 rfl 3 rfl ?_
    obtain ⟨M12, eM12, h⟩ := bndS h
    refine a_iast (pc := 117) C rfl eM12 dX9_tell_117 ?_
    refine a_goto (pc := 118) C 142 dX9_tell_118 rfl ?_
    exact a_vret (pc := 142) C E (somI h) dX9_tell_142
  replace h := iteF c11 h
  by_cases c13 : x2 = 6
  · replace h := iteT c13 h
    refine a_tsw_in (pc := 1) C 6 121 dX9_tell_1 c13 (by decide) (by decide) rfl rfl ?_
    refine a_aload_n (pc := 121) C dX9_tell_121 rfl 0 rfl ?_
    refine gf_9_1 (pc := 122) C wd_254 dX9_tell_122 ?_
    refine gf_5_3 (pc := 125) C st36 wd_170 dX9_tell_125 ?_
    refine a_iload_n (pc := 128) C dX9_tell_128 rfl 1 rfl ?_
    refine a_iload_n (pc := 129) C dX9_tell_129 rfl 3 rfl ?_
    obtain ⟨M14, eM14, h⟩ := bndS h
    refine a_iast (pc := 130) C (st_a4 st36) eM14 dX9_tell_130 ?_
    refine a_goto (pc := 131) C 142 dX9_tell_131 rfl ?_
    exact a_vret (pc := 142) C E (somI h) dX9_tell_142
  replace h := iteF c13 h
  refine a_tsw_out (pc := 1) C 134 dX9_tell_1 (by have := neI 0 rfl c1; have := neI 1 rfl c3; have := neI 2 rfl c5; have := neI 3 rfl c7; have := neI 4 rfl c9; have := neI 5 rfl c11; have := neI 6 rfl c13; omega) rfl ?_
  refine a_aload_n (pc := 134) C dX9_tell_134 rfl 0 rfl ?_
  refine gf_9_1 (pc := 135) C wd_254 dX9_tell_135 ?_
  refine a_iload_n (pc := 138) C dX9_tell_138 rfl 3 rfl ?_
  refine pf_5_4 (pc := 139) C st36 wd_173 dX9_tell_139 ?_
  exact a_vret (pc := 142) C E (somI h) dX9_tell_142
set_option maxHeartbeats 200000 in
set_option maxRecDepth 100000 in
theorem ok_fSh_person (l : Launch) (N : Rig) (M : Mem) (x1 : Int32) {r : Int32} {M0 : Mem} (h : fSh_person M x1 = some (r, M0)) : Ct l N yX10_person cX10_person 2 (some .int) 1 [.ref (N.2.1 0), .int x1] M (QcI N (some .int) r M0) := by
  refine ct_of (by decide) rfl ?_
  intro X el eN eL C E
  subst el
  subst eN
  unfold fSh_person at h
  show WA X M [(0, .ref (X.N.2.1 0)), (1, .int x1)] 0 []
  refine a_iload_n (pc := 0) C dX10_person_0 rfl 1 rfl ?_
  refine a_callSI (pc := 1) C [.int x1] (ok_fSh_isCell X.l X.N M x1) rfl mw_X10_isCell wd_464 rfl rfl rfl dX10_person_1 (fun z1 => ?_)
  refine a_if_ne (pc := 4) C 9 dX10_person_4 rfl (fun c2 => ?_) (fun c2 => ?_)
  · replace h := iteT c2 h
    refine a_aload_n (pc := 9) C dX10_person_9 rfl 0 rfl ?_
    refine gf_10_0 (pc := 10) C wd_426 dX10_person_10 ?_
    refine a_callVI (pc := 13) C [] (ok_fWorld_isCrowded X.l X.N M) rfl mw_X9_isCrowded wd_467 rfl rfl rfl rfl rfl rfl rfl dX10_person_13 (fun z3 => ?_)
    refine a_if_eq (pc := 16) C 24 dX10_person_16 rfl (fun c4 => ?_) (fun c4 => ?_)
    · replace h := iteT c4 h
      refine a_aload_n (pc := 24) C dX10_person_24 rfl 0 rfl ?_
      refine gf_10_0 (pc := 25) C wd_426 dX10_person_25 ?_
      refine a_iload_n (pc := 28) C dX10_person_28 rfl 1 rfl ?_
      refine a_iconst (pc := 29) C 5 dX10_person_29 rfl ?_
      refine a_iconst (pc := 30) C 0 dX10_person_30 rfl ?_
      obtain ⟨q5, eq5, h⟩ := bndS h
      refine a_callVI (pc := 31) C [.int x1, .int 5, .int 0] (ok_fWorld_seated X.l X.N M x1 5 0 eq5) rfl mw_X9_seated wd_471 rfl rfl rfl rfl rfl rfl rfl dX10_person_31 (fun z6 => ?_)
      exact a_iret (pc := 34) C E rfl (som1 h) (som2 h) dX10_person_34
    · replace h := iteF c4 h
      refine a_bipush (pc := 19) C (-3) dX10_person_19 rfl ?_
      refine a_goto (pc := 21) C 34 dX10_person_21 rfl ?_
      exact a_iret (pc := 34) C E rfl (som1 h) (som2 h) dX10_person_34
  · replace h := iteF c2 h
    refine a_iconst (pc := 7) C (-1) dX10_person_7 rfl ?_
    exact a_iret (pc := 8) C E rfl (som1 h) (som2 h) dX10_person_8
set_option maxHeartbeats 200000 in
set_option maxRecDepth 100000 in
theorem ok_fSh_people_L54 {X : Amb} (eL : X.nL = 6) (C : Cx X RX10 cX10_people 2) (x1 : Int32) (x3 : Int32) (o : Mem × Int32) (K : WA X o.1 [(4, .int o.2)] 104 []) : ∀ (n : Nat) (M : Mem) (x4 : Int32) (x5 : Int32), fSh_people_L54 n M x1 x3 x4 x5 = some o → WA X M [(0, .ref (X.N.2.1 0)), (1, .int x1), (3, .int x3), (4, .int x4), (5, .int x5)] 54 [] := by
  intro n
  induction n with
  | zero => intro _ _ _ h; cases h
  | succ n ih =>
    intro M x4 x5 h
    replace h : fSh_people_L54_F (fSh_people_L54 n) M x1 x3 x4 x5 = some o := h
    unfold fSh_people_L54_F at h
    refine a_iload (pc := 54) C dX10_people_54 3 rfl ?_
    refine a_iload_n (pc := 56) C dX10_people_56 rfl 2 rfl ?_
    refine a_icmp_ge (pc := 57) C 104 dX10_people_57 rfl (fun c11 => ?_) (fun c11 => ?_)
    · replace h := iteT c11 h
      refine a_sub (lv2 := [(4, .int x4)]) [3] rfl ?_
      cases somI h
      exact K
    · replace h := iteF c11 h
      refine a_aload_n (pc := 60) C dX10_people_60 rfl 0 rfl ?_
      refine gf_10_5 (pc := 61) C wd_431 dX10_people_61 ?_
      refine a_iload_n (pc := 64) C dX10_people_64 rfl 1 rfl ?_
      refine a_iload (pc := 65) C dX10_people_65 4 rfl ?_
      refine a_iconst (pc := 67) C 3 dX10_people_67 rfl ?_
      obtain ⟨v12, ev12, h⟩ := bndS h
      refine a_callVI (pc := 68) C [.int x1, .int x5, .int 3] (ok_fShelves_hasPart X.l X.N M x1 x5 3 ev12) rfl mw_X4_hasPart wd_490 rfl rfl rfl rfl rfl rfl rfl dX10_people_68 (fun z13 => ?_)
      refine a_if_eq (pc := 71) C 104 dX10_people_71 rfl (fun c14 => ?_) (fun c14 => ?_)
      · replace h := iteT c14 h
        refine a_sub (lv2 := [(4, .int x4)]) [3] rfl ?_
        cases somI h
        exact K
      · replace h := iteF c14 h
        refine a_aload_n (pc := 74) C dX10_people_74 rfl 0 rfl ?_
        refine gf_10_0 (pc := 75) C wd_426 dX10_people_75 ?_
        refine a_aload_n (pc := 78) C dX10_people_78 rfl 0 rfl ?_
        refine gf_10_5 (pc := 79) C wd_431 dX10_people_79 ?_
        refine gf_4_2 (pc := 82) C wd_396 dX10_people_82 ?_
        refine a_iload_n (pc := 85) C dX10_people_85 rfl 1 rfl ?_
        obtain ⟨k15, ek15, h⟩ := bndS h
        have hk15 := rw_of ek15
        refine a_aald (pc := 86) C ek15 dX10_people_86 ?_
        refine a_iload (pc := 87) C dX10_people_87 4 rfl ?_
        obtain ⟨q16, eq16, h⟩ := bndS h
        refine a_callVI (pc := 89) C [.ref (X.N.2.1 k15), .int x5] (ok_fWorld_admits X.l X.N M k15 hk15 x5 eq16) rfl mw_X9_admits wd_494 rfl rfl rfl rfl rfl rfl rfl dX10_people_89 (fun z17 => ?_)
        refine a_if_eq (pc := 92) C 104 dX10_people_92 rfl (fun c18 => ?_) (fun c18 => ?_)
        · replace h := iteT c18 h
          refine a_sub (lv2 := [(4, .int x4)]) [3] rfl ?_
          cases somI h
          exact K
        · replace h := iteF c18 h
          refine a_iinc (pc := 95) C 3 (x4 + 1) [(4, .int (x4 + 1)), (0, .ref (X.N.2.1 0)), (1, .int x1), (3, .int x3), (5, .int x5)] dX10_people_95 rfl rfl (nlt eL rfl) rfl ?_
          refine a_iinc (pc := 98) C 4 (x5 + 3) [(5, .int (x5 + 3)), (4, .int (x4 + 1)), (0, .ref (X.N.2.1 0)), (1, .int x1), (3, .int x3)] dX10_people_98 rfl rfl (nlt eL rfl) rfl ?_
          refine a_goto (pc := 101) C 54 dX10_people_101 rfl ?_
          refine a_sub [2, 3, 4, 1, 0] rfl ?_
          exact ih q16.2 (x4 + 1) (x5 + 3) h
set_option maxHeartbeats 200000 in
set_option maxRecDepth 100000 in
theorem ok_fSh_people (l : Launch) (N : Rig) (M : Mem) (x1 : Int32) (x2 : Int32) (x3 : Int32) {r : Int32} {M0 : Mem} (h : fSh_people M x1 x2 x3 = some (r, M0)) : Ct l N yX10_people cX10_people 6 (some .int) 2 [.ref (N.2.1 0), .int x1, .int x2, .int x3] M (QcI N (some .int) r M0) := by
  refine ct_of (by decide) rfl ?_
  intro X el eN eL C E
  subst el
  subst eN
  unfold fSh_people at h
  show WA X M [(0, .ref (X.N.2.1 0)), (1, .int x1), (2, .int x2), (3, .int x3)] 0 []
  refine a_iload_n (pc := 0) C dX10_people_0 rfl 1 rfl ?_
  refine a_callSI (pc := 1) C [.int x1] (ok_fShelves_isShelf X.l X.N M x1) rfl mw_X4_isShelf wd_479 rfl rfl rfl dX10_people_1 (fun z1 => ?_)
  refine a_if_eq (pc := 4) C 18 dX10_people_4 rfl (fun c2 => ?_) (fun c2 => ?_)
  · replace h := iteT c2 h
    refine a_iconst (pc := 18) C (-1) dX10_people_18 rfl ?_
    exact a_iret (pc := 19) C E rfl (som1 h) (som2 h) dX10_people_19
  · replace h := iteF c2 h
    refine a_iload_n (pc := 7) C dX10_people_7 rfl 3 rfl ?_
    refine a_iconst (pc := 8) C 1 dX10_people_8 rfl ?_
    refine a_icmp_lt (pc := 9) C 18 dX10_people_9 rfl (fun c3 => ?_) (fun c3 => ?_)
    · replace h := iteT c3 h
      refine a_iconst (pc := 18) C (-1) dX10_people_18 rfl ?_
      exact a_iret (pc := 19) C E rfl (som1 h) (som2 h) dX10_people_19
    · replace h := iteF c3 h
      refine a_iload_n (pc := 12) C dX10_people_12 rfl 3 rfl ?_
      refine a_bipush (pc := 13) C 8 dX10_people_13 rfl ?_
      refine a_icmp_le (pc := 15) C 20 dX10_people_15 rfl (fun c4 => ?_) (fun c4 => ?_)
      · replace h := iteT c4 h
        refine a_aload_n (pc := 20) C dX10_people_20 rfl 0 rfl ?_
        refine gf_10_5 (pc := 21) C wd_431 dX10_people_21 ?_
        refine a_iload_n (pc := 24) C dX10_people_24 rfl 1 rfl ?_
        obtain ⟨v5, ev5, h⟩ := bndS h
        refine a_callVI (pc := 25) C [.int x1] (ok_fShelves_isEmpty X.l X.N M x1 ev5) rfl mw_X4_isEmpty wd_482 rfl rfl rfl rfl rfl rfl rfl dX10_people_25 (fun z6 => ?_)
        refine a_if_eq (pc := 28) C 33 dX10_people_28 rfl (fun c7 => ?_) (fun c7 => ?_)
        · replace h := iteT c7 h
          refine a_aload_n (pc := 33) C dX10_people_33 rfl 0 rfl ?_
          refine gf_10_5 (pc := 34) C wd_431 dX10_people_34 ?_
          refine a_iload_n (pc := 37) C dX10_people_37 rfl 1 rfl ?_
          refine a_iconst (pc := 38) C 0 dX10_people_38 rfl ?_
          obtain ⟨v8, ev8, h⟩ := bndS h
          refine a_callVI (pc := 39) C [.int x1, .int 0] (ok_fShelves_isRowOf X.l X.N M x1 0 ev8) rfl mw_X4_isRowOf wd_486 rfl rfl rfl rfl rfl rfl rfl dX10_people_39 (fun z9 => ?_)
          refine a_if_ne (pc := 42) C 48 dX10_people_42 rfl (fun c10 => ?_) (fun c10 => ?_)
          · replace h := iteT c10 h
            refine a_iconst (pc := 48) C 0 dX10_people_48 rfl ?_
            refine a_istore (pc := 49) C [(4, .int 0), (0, .ref (X.N.2.1 0)), (1, .int x1), (2, .int x2), (3, .int x3)] dX10_people_49 (nlt eL rfl) rfl ?_
            refine a_iload_n (pc := 51) C dX10_people_51 rfl 3 rfl ?_
            refine a_istore (pc := 52) C [(5, .int x2), (4, .int 0), (0, .ref (X.N.2.1 0)), (1, .int x1), (2, .int x2), (3, .int x3)] dX10_people_52 (nlt eL rfl) rfl ?_
            refine a_sub (lv2 := [(0, .ref (X.N.2.1 0)), (1, .int x1), (3, .int x3), (4, .int 0), (5, .int x2)]) [2, 3, 5, 1, 0] rfl ?_
            obtain ⟨o19, eo19, h⟩ := bndS h
            refine ok_fSh_people_L54 eL C x1 x3 o19 ?_ FU M 0 x2 eo19
            refine a_iload (pc := 104) C dX10_people_104 0 rfl ?_
            exact a_iret (pc := 106) C E rfl (som1 h) (som2 h) dX10_people_106
          · replace h := iteF c10 h
            refine a_bipush (pc := 45) C (-12) dX10_people_45 rfl ?_
            exact a_iret (pc := 47) C E rfl (som1 h) (som2 h) dX10_people_47
        · replace h := iteF c7 h
          refine a_iconst (pc := 31) C 0 dX10_people_31 rfl ?_
          exact a_iret (pc := 32) C E rfl (som1 h) (som2 h) dX10_people_32
      · replace h := iteF c4 h
        refine a_iconst (pc := 18) C (-1) dX10_people_18 rfl ?_
        exact a_iret (pc := 19) C E rfl (som1 h) (som2 h) dX10_people_19
set_option maxHeartbeats 200000 in
set_option maxRecDepth 100000 in
theorem ok_fSh_mend (l : Launch) (N : Rig) (M : Mem) (x1 : Int32) (x2 : Int32) (x3 : Int32) {r : Int32} {M0 : Mem} (h : fSh_mend M x1 x2 x3 = some (r, M0)) : Ct l N yX10_mend cX10_mend 5 (some .int) 4 [.ref (N.2.1 0), .int x1, .int x2, .int x3] M (QcI N (some .int) r M0) := by
  refine ct_of (by decide) rfl ?_
  intro X el eN eL C E
  subst el
  subst eN
  unfold fSh_mend at h
  show WA X M [(0, .ref (X.N.2.1 0)), (1, .int x1), (2, .int x2), (3, .int x3)] 0 []
  refine a_aload_n (pc := 0) C dX10_mend_0 rfl 0 rfl ?_
  refine gf_10_0 (pc := 1) C wd_426 dX10_mend_1 ?_
  refine a_iload_n (pc := 4) C dX10_mend_4 rfl 1 rfl ?_
  refine a_iload_n (pc := 5) C dX10_mend_5 rfl 2 rfl ?_
  refine a_callVI (pc := 6) C [.int x1, .int x2] (ok_fWorld_isNumber X.l X.N M x1 x2) rfl mw_X9_isNumber wd_510 rfl rfl rfl rfl rfl rfl rfl dX10_mend_6 (fun z1 => ?_)
  refine a_if_eq (pc := 9) C 20 dX10_mend_9 rfl (fun c2 => ?_) (fun c2 => ?_)
  · replace h := iteT c2 h
    refine a_iconst (pc := 20) C (-1) dX10_mend_20 rfl ?_
    exact a_iret (pc := 21) C E rfl (som1 h) (som2 h) dX10_mend_21
  · replace h := iteF c2 h
    refine a_iload_n (pc := 12) C dX10_mend_12 rfl 3 rfl ?_
    refine a_iload_n (pc := 13) C dX10_mend_13 rfl 2 rfl ?_
    obtain ⟨v3, ev3, h⟩ := bndS h
    refine a_callSI (pc := 14) C [.int x3, .int x2] (ok_fWorld_isWithin X.l X.N M x3 x2 ev3) rfl mw_X9_isWithin wd_518 rfl rfl rfl dX10_mend_14 (fun z4 => ?_)
    refine a_if_ne (pc := 17) C 22 dX10_mend_17 rfl (fun c5 => ?_) (fun c5 => ?_)
    · replace h := iteT c5 h
      refine a_aload_n (pc := 22) C dX10_mend_22 rfl 0 rfl ?_
      refine gf_10_0 (pc := 23) C wd_426 dX10_mend_23 ?_
      refine a_iload_n (pc := 26) C dX10_mend_26 rfl 1 rfl ?_
      refine a_iload_n (pc := 27) C dX10_mend_27 rfl 2 rfl ?_
      obtain ⟨v6, ev6, h⟩ := bndS h
      refine a_callVI (pc := 28) C [.int x1, .int x2] (ok_fWorld_told X.l X.N M x1 x2 ev6) rfl mw_X9_told wd_519 rfl rfl rfl rfl rfl rfl rfl dX10_mend_28 (fun z7 => ?_)
      refine a_istore (pc := 31) C [(4, .int v6), (0, .ref (X.N.2.1 0)), (1, .int x1), (2, .int x2), (3, .int x3)] dX10_mend_31 (nlt eL rfl) rfl ?_
      refine a_iload (pc := 33) C dX10_mend_33 0 rfl ?_
      refine a_iload_n (pc := 35) C dX10_mend_35 rfl 4 rfl ?_
      refine a_icmp_eq (pc := 36) C 61 dX10_mend_36 rfl (fun c8 => ?_) (fun c8 => ?_)
      · replace h := iteT c8 h
        refine a_iload (pc := 61) C dX10_mend_61 0 rfl ?_
        exact a_iret (pc := 63) C E rfl (som1 h) (som2 h) dX10_mend_63
      · replace h := iteF c8 h
        refine a_aload_n (pc := 39) C dX10_mend_39 rfl 1 rfl ?_
        refine gf_10_3 (pc := 40) C wd_429 dX10_mend_40 ?_
        refine a_iload_n (pc := 43) C dX10_mend_43 rfl 2 rfl ?_
        refine a_iload_n (pc := 44) C dX10_mend_44 rfl 3 rfl ?_
        refine a_iload (pc := 45) C dX10_mend_45 0 rfl ?_
        refine a_iload_n (pc := 47) C dX10_mend_47 rfl 4 rfl ?_
        obtain ⟨q9, eq9, h⟩ := bndS h
        refine a_callVV (pc := 48) C [.int x1, .int x2, .int v6, .int x3] (ok_fChanges_note X.l X.N M x1 x2 v6 x3 eq9) rfl mw_X2_note wd_523 rfl rfl rfl rfl rfl rfl rfl dX10_mend_48 ?_
        refine a_aload_n (pc := 51) C dX10_mend_51 rfl 1 rfl ?_
        refine gf_10_0 (pc := 52) C wd_426 dX10_mend_52 ?_
        refine a_iload_n (pc := 55) C dX10_mend_55 rfl 2 rfl ?_
        refine a_iload_n (pc := 56) C dX10_mend_56 rfl 3 rfl ?_
        refine a_iload_n (pc := 57) C dX10_mend_57 rfl 4 rfl ?_
        obtain ⟨q10, eq10, h⟩ := bndS h
        refine a_callVV (pc := 58) C [.int x1, .int x2, .int x3] (ok_fWorld_tell X.l X.N q9 x1 x2 x3 eq10) rfl mw_X9_tell wd_534 rfl rfl rfl rfl rfl rfl rfl dX10_mend_58 ?_
        refine a_iload (pc := 61) C dX10_mend_61 0 rfl ?_
        exact a_iret (pc := 63) C E rfl (som1 h) (som2 h) dX10_mend_63
    · replace h := iteF c5 h
      refine a_iconst (pc := 20) C (-1) dX10_mend_20 rfl ?_
      exact a_iret (pc := 21) C E rfl (som1 h) (som2 h) dX10_mend_21
