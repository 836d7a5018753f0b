set_option maxHeartbeats 200000 in
set_option maxRecDepth 100000 in
theorem ok_fSh_of (l : Launch) (N : Rig) (M : Mem) (x1 : Int32) (x2 : Int32) {r : Int32} (h : fSh_of M x1 x2 = some r) : Ct l N yX10_of cX10_of 3 (some .int) 2 [.ref (N.2.1 0), .int x1, .int x2] M (QcI N (some .int) r M) := by
  refine ct_of (by decide) rfl ?_
  intro X el eN eL C E
  subst el
  subst eN
  unfold fSh_of at h
  show WA X M [(0, .ref (X.N.2.1 0)), (1, .int x1), (2, .int x2)] 0 []
  refine a_aload_n (pc := 0) C dX10_of_0 rfl 0 rfl ?_
  refine gf_10_0 (pc := 1) C wd_426 dX10_of_1 ?_
  refine a_iload_n (pc := 4) C dX10_of_4 rfl 1 rfl ?_
  refine a_iload_n (pc := 5) C dX10_of_5 rfl 2 rfl ?_
  refine a_callVI (pc := 6) C [.int x1, .int x2] (ok_fWorld_isNumber X.l X.N M x1 x2) rfl mw_X9_isNumber wd_510 rfl rfl rfl rfl rfl rfl rfl dX10_of_6 (fun z1 => ?_)
  refine a_if_eq (pc := 9) C 24 dX10_of_9 rfl (fun c2 => ?_) (fun c2 => ?_)
  · replace h := iteT c2 h
    refine a_iconst (pc := 24) C (-1) dX10_of_24 rfl ?_
    exact a_iret (pc := 25) C E rfl (somI h) rfl dX10_of_25
  · replace h := iteF c2 h
    refine a_aload_n (pc := 12) C dX10_of_12 rfl 0 rfl ?_
    refine gf_10_0 (pc := 13) C wd_426 dX10_of_13 ?_
    refine a_iload_n (pc := 16) C dX10_of_16 rfl 1 rfl ?_
    refine a_iload_n (pc := 17) C dX10_of_17 rfl 2 rfl ?_
    obtain ⟨v3, ev3, h⟩ := bndS h
    refine a_callVI (pc := 18) C [.int x1, .int x2] (ok_fWorld_told X.l X.N M x1 x2 ev3) rfl mw_X9_told wd_519 rfl rfl rfl rfl rfl rfl rfl dX10_of_18 (fun z4 => ?_)
    refine a_goto (pc := 21) C 25 dX10_of_21 rfl ?_
    exact a_iret (pc := 25) C E rfl (somI h) rfl dX10_of_25
set_option maxHeartbeats 200000 in
set_option maxRecDepth 100000 in
theorem ok_fSh_feed (l : Launch) (N : Rig) (M : Mem) (x1 : Int32) {r : Int32} {M0 : Mem} (h : fSh_feed M x1 = some (r, M0)) : Ct l N yX10_feed cX10_feed 2 (some .int) 1 [.ref (N.2.1 0), .int x1] M (QcI N (some .int) r M0) := by
  refine ct_of (by decide) rfl ?_
  intro X el eN eL C E
  subst el
  subst eN
  unfold fSh_feed at h
  show WA X M [(0, .ref (X.N.2.1 0)), (1, .int x1)] 0 []
  refine a_iload_n (pc := 0) C dX10_feed_0 rfl 1 rfl ?_
  refine a_if_lt (pc := 1) C 11 dX10_feed_1 rfl (fun c1 => ?_) (fun c1 => ?_)
  · replace h := iteT c1 h
    refine a_iconst (pc := 11) C (-1) dX10_feed_11 rfl ?_
    refine a_goto (pc := 12) C 26 dX10_feed_12 rfl ?_
    exact a_iret (pc := 26) C E rfl (som1 h) (som2 h) dX10_feed_26
  · replace h := iteF c1 h
    refine a_iload_n (pc := 4) C dX10_feed_4 rfl 1 rfl ?_
    refine a_sipush (pc := 5) C 255 dX10_feed_5 rfl ?_
    refine a_icmp_le (pc := 8) C 15 dX10_feed_8 rfl (fun c2 => ?_) (fun c2 => ?_)
    · replace h := iteT c2 h
      refine a_aload_n (pc := 15) C dX10_feed_15 rfl 0 rfl ?_
      refine gf_10_0 (pc := 16) C wd_426 dX10_feed_16 ?_
      refine gf_9_2 (pc := 19) C wd_261 dX10_feed_19 ?_
      refine a_iload_n (pc := 22) C dX10_feed_22 rfl 1 rfl ?_
      obtain ⟨q3, eq3, h⟩ := bndS h
      refine a_callVI (pc := 23) C [.int x1] (ok_fLaw_take X.l X.N M x1 eq3) rfl mw_X3_take wd_557 rfl rfl rfl rfl rfl rfl rfl dX10_feed_23 (fun z4 => ?_)
      exact a_iret (pc := 26) C E rfl (som1 h) (som2 h) dX10_feed_26
    · replace h := iteF c2 h
      refine a_iconst (pc := 11) C (-1) dX10_feed_11 rfl ?_
      refine a_goto (pc := 12) C 26 dX10_feed_12 rfl ?_
      exact a_iret (pc := 26) C E rfl (som1 h) (som2 h) dX10_feed_26
set_option maxHeartbeats 200000 in
set_option maxRecDepth 100000 in
theorem ok_fSh_law (l : Launch) (N : Rig) (M : Mem) {r : Int32} {M0 : Mem} (h : fSh_law M = some (r, M0)) : Ct l N yX10_law cX10_law 1 (some .int) 106 [.ref (N.2.1 0)] M (QcI N (some .int) r M0) := by
  refine ct_of (by decide) rfl ?_
  intro X el eN eL C E
  subst el
  subst eN
  unfold fSh_law at h
  show WA X M [(0, .ref (X.N.2.1 0))] 0 []
  refine a_aload_n (pc := 0) C dX10_law_0 rfl 0 rfl ?_
  refine gf_10_0 (pc := 1) C wd_426 dX10_law_1 ?_
  refine gf_9_2 (pc := 4) C wd_261 dX10_law_4 ?_
  obtain ⟨q1, eq1, h⟩ := bndS h
  refine a_callVI (pc := 7) C [] (ok_fLaw_read X.l X.N M eq1) rfl mw_X3_read wd_565 rfl rfl rfl rfl rfl rfl rfl dX10_law_7 (fun z2 => ?_)
  exact a_iret (pc := 10) C E rfl (som1 h) (som2 h) dX10_law_10
set_option maxHeartbeats 200000 in
set_option maxRecDepth 100000 in
theorem ok_fSh_runs (l : Launch) (N : Rig) (M : Mem) (x1 : Int32) {r : Int32} {M0 : Mem} (h : fSh_runs M x1 = some (r, M0)) : Ct l N yX10_runs cX10_runs 2 (some .int) 3 [.ref (N.2.1 0), .int x1] M (QcI N (some .int) r M0) := by
  refine ct_of (by decide) rfl ?_
  intro X el eN eL C E
  subst el
  subst eN
  unfold fSh_runs at h
  show WA X M [(0, .ref (X.N.2.1 0)), (1, .int x1)] 0 []
  refine a_iload_n (pc := 0) C dX10_runs_0 rfl 1 rfl ?_
  refine a_callSI (pc := 1) C [.int x1] (ok_fSh_isCell X.l X.N M x1) rfl mw_X10_isCell wd_464 rfl rfl rfl dX10_runs_1 (fun z1 => ?_)
  refine a_if_ne (pc := 4) C 9 dX10_runs_4 rfl (fun c2 => ?_) (fun c2 => ?_)
  · replace h := iteT c2 h
    refine a_aload_n (pc := 9) C dX10_runs_9 rfl 0 rfl ?_
    refine gf_10_0 (pc := 10) C wd_426 dX10_runs_10 ?_
    refine gf_9_0 (pc := 13) C wd_253 dX10_runs_13 ?_
    refine a_iload_n (pc := 16) C dX10_runs_16 rfl 1 rfl ?_
    obtain ⟨v3, ev3, h⟩ := bndS h
    refine a_callVI (pc := 17) C [.int x1] (ok_fTown_isSink X.l X.N M x1 ev3) rfl mw_X7_isSink wd_614 rfl rfl rfl rfl rfl rfl rfl dX10_runs_17 (fun z4 => ?_)
    refine a_if_eq (pc := 20) C 28 dX10_runs_20 rfl (fun c5 => ?_) (fun c5 => ?_)
    · replace h := iteT c5 h
      refine a_aload_n (pc := 28) C dX10_runs_28 rfl 0 rfl ?_
      refine gf_10_0 (pc := 29) C wd_426 dX10_runs_29 ?_
      refine gf_9_1 (pc := 32) C wd_257 dX10_runs_32 ?_
      refine a_aload_n (pc := 35) C dX10_runs_35 rfl 0 rfl ?_
      refine gf_10_0 (pc := 36) C wd_426 dX10_runs_36 ?_
      refine gf_9_0 (pc := 39) C wd_253 dX10_runs_39 ?_
      refine a_aload_n (pc := 42) C dX10_runs_42 rfl 0 rfl ?_
      refine gf_10_0 (pc := 43) C wd_426 dX10_runs_43 ?_
      refine gf_9_2 (pc := 46) C wd_261 dX10_runs_46 ?_
      refine a_iload_n (pc := 49) C dX10_runs_49 rfl 1 rfl ?_
      obtain ⟨q6, eq6, h⟩ := bndS h
      refine a_callVI (pc := 50) C [.ref (X.N.2.1 2), .ref (X.N.2.1 7), .int x1] (ok_fStreet_outOf X.l X.N M 36 st36 x1 eq6) rfl mw_X5_outOf wd_618 (st_shp st36) (st_blt st36) rfl rfl rfl rfl rfl dX10_runs_50 (fun z7 => ?_)
      exact a_iret (pc := 53) C E rfl (som1 h) (som2 h) dX10_runs_53
    · replace h := iteF c5 h
      refine a_bipush (pc := 23) C (-2) dX10_runs_23 rfl ?_
      refine a_goto (pc := 25) C 53 dX10_runs_25 rfl ?_
      exact a_iret (pc := 53) C E rfl (som1 h) (som2 h) dX10_runs_53
  · replace h := iteF c2 h
    refine a_iconst (pc := 7) C (-1) dX10_runs_7 rfl ?_
    exact a_iret (pc := 8) C E rfl (som1 h) (som2 h) dX10_runs_8
set_option maxHeartbeats 200000 in
set_option maxRecDepth 100000 in
theorem ok_fSh_isThinkable (l : Launch) (N : Rig) (M : Mem) (x0 : Int32) : Ct l N yX10_isThinkable cX10_isThinkable 1 (some .boolean) 0 [.int x0] M (QcI N (some .boolean) (fSh_isThinkable x0) M) := by
  obtain ⟨r, h⟩ : ∃ r, fSh_isThinkable x0 = r := ⟨_, rfl⟩
  rw [h]
  refine ct_of (by decide) rfl ?_
  intro X el eN eL C E
  subst el
  subst eN
  unfold fSh_isThinkable at h
  show WA X M [(0, .int x0)] 0 []
  refine a_iload_n (pc := 0) C dX10_isThinkable_0 rfl 0 rfl ?_
  refine a_if_lt (pc := 1) C 14 dX10_isThinkable_1 rfl (fun c1 => ?_) (fun c1 => ?_)
  · replace h := iteT c1 h
    refine a_iconst (pc := 14) C 0 dX10_isThinkable_14 rfl ?_
    exact a_iret (pc := 15) C E rfl h rfl dX10_isThinkable_15
  · replace h := iteF c1 h
    refine a_iload_n (pc := 4) C dX10_isThinkable_4 rfl 0 rfl ?_
    refine a_bipush (pc := 5) C 48 dX10_isThinkable_5 rfl ?_
    refine a_icmp_gt (pc := 7) C 14 dX10_isThinkable_7 rfl (fun c2 => ?_) (fun c2 => ?_)
    · replace h := iteT c2 h
      refine a_iconst (pc := 14) C 0 dX10_isThinkable_14 rfl ?_
      exact a_iret (pc := 15) C E rfl h rfl dX10_isThinkable_15
    · replace h := iteF c2 h
      refine a_iconst (pc := 10) C 1 dX10_isThinkable_10 rfl ?_
      refine a_goto (pc := 11) C 15 dX10_isThinkable_11 rfl ?_
      exact a_iret (pc := 15) C E rfl h rfl dX10_isThinkable_15
set_option maxHeartbeats 200000 in
set_option maxRecDepth 100000 in
theorem ok_fSh_later (l : Launch) (N : Rig) (M : Mem) (x1 : Int32) (x2 : Int32) (x3 : Int32) {r : Int32} {M0 : Mem} (h : fSh_later M x1 x2 x3 = some (r, M0)) : Ct l N yX10_later cX10_later 4 (some .int) 6 [.ref (N.2.1 0), .int x1, .int x2, .int x3] M (QcI N (some .int) r M0) := by
  refine ct_of (by decide) rfl ?_
  intro X el eN eL C E
  subst el
  subst eN
  unfold fSh_later at h
  show WA X M [(0, .ref (X.N.2.1 0)), (1, .int x1), (2, .int x2), (3, .int x3)] 0 []
  refine a_iload_n (pc := 0) C dX10_later_0 rfl 1 rfl ?_
  refine a_callSI (pc := 1) C [.int x1] (ok_fSh_isThinkable X.l X.N M x1) rfl mw_X10_isThinkable wd_658 rfl rfl rfl dX10_later_1 (fun z1 => ?_)
  refine a_if_eq (pc := 4) C 16 dX10_later_4 rfl (fun c2 => ?_) (fun c2 => ?_)
  · replace h := iteT c2 h
    refine a_iconst (pc := 16) C (-1) dX10_later_16 rfl ?_
    exact a_iret (pc := 17) C E rfl (som1 h) (som2 h) dX10_later_17
  · replace h := iteF c2 h
    refine a_iload_n (pc := 7) C dX10_later_7 rfl 3 rfl ?_
    refine a_if_lt (pc := 8) C 16 dX10_later_8 rfl (fun c3 => ?_) (fun c3 => ?_)
    · replace h := iteT c3 h
      refine a_iconst (pc := 16) C (-1) dX10_later_16 rfl ?_
      exact a_iret (pc := 17) C E rfl (som1 h) (som2 h) dX10_later_17
    · replace h := iteF c3 h
      refine a_iload_n (pc := 11) C dX10_later_11 rfl 3 rfl ?_
      refine a_iconst (pc := 12) C 1 dX10_later_12 rfl ?_
      refine a_icmp_le (pc := 13) C 18 dX10_later_13 rfl (fun c4 => ?_) (fun c4 => ?_)
      · replace h := iteT c4 h
        refine a_iload_n (pc := 18) C dX10_later_18 rfl 3 rfl ?_
        refine a_if_ne (pc := 19) C 51 dX10_later_19 rfl (fun c5 => ?_) (fun c5 => ?_)
        · replace h := iteT c5 h
          refine a_aload_n (pc := 51) C dX10_later_51 rfl 0 rfl ?_
          refine gf_10_0 (pc := 52) C wd_426 dX10_later_52 ?_
          refine a_iload_n (pc := 55) C dX10_later_55 rfl 2 rfl ?_
          refine a_callVI (pc := 56) C [.int x2] (ok_fWorld_isPerson X.l X.N M x2) rfl mw_X9_isPerson wd_691 rfl rfl rfl rfl rfl rfl rfl dX10_later_56 (fun z6 => ?_)
          refine a_if_eq (pc := 59) C 82 dX10_later_59 rfl (fun c7 => ?_) (fun c7 => ?_)
          · replace h := iteT c7 h
            refine a_iconst (pc := 82) C (-1) dX10_later_82 rfl ?_
            exact a_iret (pc := 83) C E rfl (som1 h) (som2 h) dX10_later_83
          · replace h := iteF c7 h
            refine a_aload_n (pc := 62) C dX10_later_62 rfl 0 rfl ?_
            refine gf_10_1 (pc := 63) C wd_427 dX10_later_63 ?_
            refine a_aload_n (pc := 66) C dX10_later_66 rfl 0 rfl ?_
            refine gf_10_0 (pc := 67) C wd_426 dX10_later_67 ?_
            refine a_iload_n (pc := 70) C dX10_later_70 rfl 1 rfl ?_
            obtain ⟨q8, eq8, h⟩ := bndS h
            refine a_callVR (pc := 71) C [.ref (X.N.2.1 1), .int x1] (ok_fThought_behind X.l X.N M x1 eq8) rfl mw_X6_behind wd_661 rfl rfl rfl rfl rfl rfl rfl dX10_later_71 ?_
            refine gf_5_3 (pc := 74) C st42 wd_171 dX10_later_74 ?_
            refine a_iload_n (pc := 77) C dX10_later_77 rfl 2 rfl ?_
            obtain ⟨v9, ev9, h⟩ := bndS h
            refine a_iald (pc := 78) C (st_a4 st42) ev9 dX10_later_78 ?_
            refine a_goto (pc := 79) C 83 dX10_later_79 rfl ?_
            exact a_iret (pc := 83) C E rfl (som1 h) (som2 h) dX10_later_83
        · replace h := iteF c5 h
          refine a_iload_n (pc := 22) C dX10_later_22 rfl 2 rfl ?_
          refine a_callSI (pc := 23) C [.int x2] (ok_fSh_isCell X.l X.N M x2) rfl mw_X10_isCell wd_464 rfl rfl rfl dX10_later_23 (fun z10 => ?_)
          refine a_if_eq (pc := 26) C 49 dX10_later_26 rfl (fun c11 => ?_) (fun c11 => ?_)
          · replace h := iteT c11 h
            refine a_iconst (pc := 49) C (-1) dX10_later_49 rfl ?_
            exact a_iret (pc := 50) C E rfl (som1 h) (som2 h) dX10_later_50
          · replace h := iteF c11 h
            refine a_aload_n (pc := 29) C dX10_later_29 rfl 0 rfl ?_
            refine gf_10_1 (pc := 30) C wd_427 dX10_later_30 ?_
            refine a_aload_n (pc := 33) C dX10_later_33 rfl 0 rfl ?_
            refine gf_10_0 (pc := 34) C wd_426 dX10_later_34 ?_
            refine a_iload_n (pc := 37) C dX10_later_37 rfl 1 rfl ?_
            obtain ⟨q12, eq12, h⟩ := bndS h
            refine a_callVR (pc := 38) C [.ref (X.N.2.1 1), .int x1] (ok_fThought_behind X.l X.N M x1 eq12) rfl mw_X6_behind wd_661 rfl rfl rfl rfl rfl rfl rfl dX10_later_38 ?_
            refine gf_5_0 (pc := 41) C st42 wd_155 dX10_later_41 ?_
            refine a_iload_n (pc := 44) C dX10_later_44 rfl 2 rfl ?_
            obtain ⟨v13, ev13, h⟩ := bndS h
            refine a_iald (pc := 45) C (st_a1 st42) ev13 dX10_later_45 ?_
            refine a_goto (pc := 46) C 50 dX10_later_46 rfl ?_
            exact a_iret (pc := 50) C E rfl (som1 h) (som2 h) dX10_later_50
      · replace h := iteF c4 h
        refine a_iconst (pc := 16) C (-1) dX10_later_16 rfl ?_
        exact a_iret (pc := 17) C E rfl (som1 h) (som2 h) dX10_later_17
set_option maxHeartbeats 200000 in
set_option maxRecDepth 100000 in
theorem ok_fSh_all (l : Launch) (N : Rig) (M : Mem) (x1 : Int32) (x2 : Int32) {r : Int32} {M0 : Mem} (h : fSh_all M x1 x2 = some (r, M0)) : Ct l N yX10_all cX10_all 4 (some .int) 6 [.ref (N.2.1 0), .int x1, .int x2] M (QcI N (some .int) r M0) := by
  refine ct_of (by decide) rfl ?_
  intro X el eN eL C E
  subst el
  subst eN
  unfold fSh_all at h
  show WA X M [(0, .ref (X.N.2.1 0)), (1, .int x1), (2, .int x2)] 0 []
  refine a_iload_n (pc := 0) C dX10_all_0 rfl 1 rfl ?_
  refine a_callSI (pc := 1) C [.int x1] (ok_fSh_isThinkable X.l X.N M x1) rfl mw_X10_isThinkable wd_658 rfl rfl rfl dX10_all_1 (fun z1 => ?_)
  refine a_if_eq (pc := 4) C 16 dX10_all_4 rfl (fun c2 => ?_) (fun c2 => ?_)
  · replace h := iteT c2 h
    refine a_iconst (pc := 16) C (-1) dX10_all_16 rfl ?_
    exact a_iret (pc := 17) C E rfl (som1 h) (som2 h) dX10_all_17
  · replace h := iteF c2 h
    refine a_iload_n (pc := 7) C dX10_all_7 rfl 2 rfl ?_
    refine a_if_lt (pc := 8) C 16 dX10_all_8 rfl (fun c3 => ?_) (fun c3 => ?_)
    · replace h := iteT c3 h
      refine a_iconst (pc := 16) C (-1) dX10_all_16 rfl ?_
      exact a_iret (pc := 17) C E rfl (som1 h) (som2 h) dX10_all_17
    · replace h := iteF c3 h
      refine a_iload_n (pc := 11) C dX10_all_11 rfl 2 rfl ?_
      refine a_iconst (pc := 12) C 1 dX10_all_12 rfl ?_
      refine a_icmp_le (pc := 13) C 18 dX10_all_13 rfl (fun c4 => ?_) (fun c4 => ?_)
      · replace h := iteT c4 h
        refine a_aload_n (pc := 18) C dX10_all_18 rfl 0 rfl ?_
        refine gf_10_1 (pc := 19) C wd_427 dX10_all_19 ?_
        refine a_aload_n (pc := 22) C dX10_all_22 rfl 0 rfl ?_
        refine gf_10_0 (pc := 23) C wd_426 dX10_all_23 ?_
        refine a_iload_n (pc := 26) C dX10_all_26 rfl 1 rfl ?_
        obtain ⟨q5, eq5, h⟩ := bndS h
        refine a_callVR (pc := 27) C [.ref (X.N.2.1 1), .int x1] (ok_fThought_behind X.l X.N M x1 eq5) rfl mw_X6_behind wd_661 rfl rfl rfl rfl rfl rfl rfl dX10_all_27 ?_
        refine a_astore_n (pc := 30) C [(3, .ref (X.N.2.1 42)), (0, .ref (X.N.2.1 0)), (1, .int x1), (2, .int x2)] dX10_all_30 rfl (nlt eL rfl) rfl ?_
        refine a_iload_n (pc := 31) C dX10_all_31 rfl 3 rfl ?_
        refine a_if_ne (pc := 32) C 42 dX10_all_32 rfl (fun c6 => ?_) (fun c6 => ?_)
        · replace h := iteT c6 h
          refine a_aload_n (pc := 42) C dX10_all_42 rfl 0 rfl ?_
          obtain ⟨v7, ev7, h⟩ := bndS h
          refine a_callVI (pc := 43) C [] (ok_fStreet_luckiest X.l X.N q5 42 st42 ev7) rfl mw_X5_luckiest wd_700 (st_shp st42) (st_blt st42) rfl rfl rfl rfl rfl dX10_all_43 (fun z8 => ?_)
          exact a_iret (pc := 46) C E rfl (som1 h) (som2 h) dX10_all_46
        · replace h := iteF c6 h
          refine a_aload_n (pc := 35) C dX10_all_35 rfl 0 rfl ?_
          obtain ⟨v9, ev9, h⟩ := bndS h
          refine a_callVI (pc := 36) C [] (ok_fStreet_wholeLuck X.l X.N q5 42 st42 ev9) rfl mw_X5_wholeLuck wd_696 (st_shp st42) (st_blt st42) rfl rfl rfl rfl rfl dX10_all_36 (fun z10 => ?_)
          refine a_goto (pc := 39) C 46 dX10_all_39 rfl ?_
          exact a_iret (pc := 46) C E rfl (som1 h) (som2 h) dX10_all_46
      · replace h := iteF c4 h
        refine a_iconst (pc := 16) C (-1) dX10_all_16 rfl ?_
        exact a_iret (pc := 17) C E rfl (som1 h) (som2 h) dX10_all_17
set_option maxHeartbeats 200000 in
set_option maxRecDepth 100000 in
theorem ok_fSh_still (l : Launch) (N : Rig) (M : Mem) {r : Int32} {M0 : Mem} (h : fSh_still M = some (r, M0)) : Ct l N yX10_still cX10_still 1 (some .int) 5 [.ref (N.2.1 0)] M (QcI N (some .int) r M0) := by
  refine ct_of (by decide) rfl ?_
  intro X el eN eL C E
  subst el
  subst eN
  unfold fSh_still at h
  show WA X M [(0, .ref (X.N.2.1 0))] 0 []
  refine a_aload_n (pc := 0) C dX10_still_0 rfl 0 rfl ?_
  refine gf_10_1 (pc := 1) C wd_427 dX10_still_1 ?_
  refine a_aload_n (pc := 4) C dX10_still_4 rfl 0 rfl ?_
  refine gf_10_0 (pc := 5) C wd_426 dX10_still_5 ?_
  obtain ⟨q1, eq1, h⟩ := bndS h
  refine a_callVI (pc := 8) C [.ref (X.N.2.1 1)] (ok_fThought_whenStill X.l X.N M eq1) rfl mw_X6_whenStill wd_708 rfl rfl rfl rfl rfl rfl rfl dX10_still_8 (fun z2 => ?_)
  exact a_iret (pc := 11) C E rfl (som1 h) (som2 h) dX10_still_11
set_option maxHeartbeats 200000 in
set_option maxRecDepth 100000 in
theorem ok_fSh_rich (l : Launch) (N : Rig) (M : Mem) (x1 : Int32) (x2 : Int32) {r : Int32} {M0 : Mem} (h : fSh_rich M x1 x2 = some (r, M0)) : Ct l N yX10_rich cX10_rich 3 (some .int) 5 [.ref (N.2.1 0), .int x1, .int x2] M (QcI N (some .int) r M0) := by
  refine ct_of (by decide) rfl ?_
  intro X el eN eL C E
  subst el
  subst eN
  unfold fSh_rich at h
  show WA X M [(0, .ref (X.N.2.1 0)), (1, .int x1), (2, .int x2)] 0 []
  refine a_aload_n (pc := 0) C dX10_rich_0 rfl 0 rfl ?_
  refine gf_10_0 (pc := 1) C wd_426 dX10_rich_1 ?_
  refine a_iload_n (pc := 4) C dX10_rich_4 rfl 1 rfl ?_
  refine a_callVI (pc := 5) C [.int x1] (ok_fWorld_isPerson X.l X.N M x1) rfl mw_X9_isPerson wd_691 rfl rfl rfl rfl rfl rfl rfl dX10_rich_5 (fun z1 => ?_)
  refine a_if_eq (pc := 8) C 36 dX10_rich_8 rfl (fun c2 => ?_) (fun c2 => ?_)
  · replace h := iteT c2 h
    refine a_iconst (pc := 36) C (-1) dX10_rich_36 rfl ?_
    exact a_iret (pc := 37) C E rfl (som1 h) (som2 h) dX10_rich_37
  · replace h := iteF c2 h
    refine a_iload_n (pc := 11) C dX10_rich_11 rfl 2 rfl ?_
    refine a_bipush (pc := 12) C 6 dX10_rich_12 rfl ?_
    obtain ⟨v3, ev3, h⟩ := bndS h
    refine a_callSI (pc := 14) C [.int x2, .int 6] (ok_fWorld_isWithin X.l X.N M x2 6 ev3) rfl mw_X9_isWithin wd_518 rfl rfl rfl dX10_rich_14 (fun z4 => ?_)
    refine a_if_eq (pc := 17) C 36 dX10_rich_17 rfl (fun c5 => ?_) (fun c5 => ?_)
    · replace h := iteT c5 h
      refine a_iconst (pc := 36) C (-1) dX10_rich_36 rfl ?_
      exact a_iret (pc := 37) C E rfl (som1 h) (som2 h) dX10_rich_37
    · replace h := iteF c5 h
      refine a_aload_n (pc := 20) C dX10_rich_20 rfl 0 rfl ?_
      refine gf_10_1 (pc := 21) C wd_427 dX10_rich_21 ?_
      refine a_aload_n (pc := 24) C dX10_rich_24 rfl 0 rfl ?_
      refine gf_10_0 (pc := 25) C wd_426 dX10_rich_25 ?_
      refine a_iload_n (pc := 28) C dX10_rich_28 rfl 1 rfl ?_
      refine a_iload_n (pc := 29) C dX10_rich_29 rfl 2 rfl ?_
      obtain ⟨q6, eq6, h⟩ := bndS h
      refine a_callVI (pc := 30) C [.ref (X.N.2.1 1), .int x1, .int x2] (ok_fThought_whenRich X.l X.N M x1 x2 eq6) rfl mw_X6_whenRich wd_716 rfl rfl rfl rfl rfl rfl rfl dX10_rich_30 (fun z7 => ?_)
      refine a_goto (pc := 33) C 37 dX10_rich_33 rfl ?_
      exact a_iret (pc := 37) C E rfl (som1 h) (som2 h) dX10_rich_37
set_option maxHeartbeats 200000 in
set_option maxRecDepth 100000 in
theorem ok_fSh_sink (l : Launch) (N : Rig) (M : Mem) (x1 : Int32) (x2 : Int32) {r : Int32} (h : fSh_sink M x1 x2 = some r) : Ct l N yX10_sink cX10_sink 3 (some .int) 2 [.ref (N.2.1 0), .int x1, .int x2] M (QcI N (some .int) r M) := by
  refine ct_of (by decide) rfl ?_
  intro X el eN eL C E
  subst el
  subst eN
  unfold fSh_sink at h
  show WA X M [(0, .ref (X.N.2.1 0)), (1, .int x1), (2, .int x2)] 0 []
  refine a_iload_n (pc := 0) C dX10_sink_0 rfl 1 rfl ?_
  refine a_callSI (pc := 1) C [.int x1] (ok_fSh_isCell X.l X.N M x1) rfl mw_X10_isCell wd_464 rfl rfl rfl dX10_sink_1 (fun z1 => ?_)
  refine a_if_eq (pc := 4) C 16 dX10_sink_4 rfl (fun c2 => ?_) (fun c2 => ?_)
  · replace h := iteT c2 h
    refine a_iconst (pc := 16) C (-1) dX10_sink_16 rfl ?_
    exact a_iret (pc := 17) C E rfl (somI h) rfl dX10_sink_17
  · replace h := iteF c2 h
    refine a_iload_n (pc := 7) C dX10_sink_7 rfl 2 rfl ?_
    refine a_if_lt (pc := 8) C 16 dX10_sink_8 rfl (fun c3 => ?_) (fun c3 => ?_)
    · replace h := iteT c3 h
      refine a_iconst (pc := 16) C (-1) dX10_sink_16 rfl ?_
      exact a_iret (pc := 17) C E rfl (somI h) rfl dX10_sink_17
    · replace h := iteF c3 h
      refine a_iload_n (pc := 11) C dX10_sink_11 rfl 2 rfl ?_
      refine a_iconst (pc := 12) C 1 dX10_sink_12 rfl ?_
      refine a_icmp_le (pc := 13) C 18 dX10_sink_13 rfl (fun c4 => ?_) (fun c4 => ?_)
      · replace h := iteT c4 h
        refine a_iload_n (pc := 18) C dX10_sink_18 rfl 2 rfl ?_
        refine a_if_ne (pc := 19) C 36 dX10_sink_19 rfl (fun c5 => ?_) (fun c5 => ?_)
        · replace h := iteT c5 h
          refine a_aload_n (pc := 36) C dX10_sink_36 rfl 0 rfl ?_
          refine gf_10_0 (pc := 37) C wd_426 dX10_sink_37 ?_
          refine gf_9_0 (pc := 40) C wd_253 dX10_sink_40 ?_
          refine a_iload_n (pc := 43) C dX10_sink_43 rfl 1 rfl ?_
          obtain ⟨v6, ev6, h⟩ := bndS h
          refine a_callVI (pc := 44) C [.int x1] (ok_fTown_stepsFrom X.l X.N M x1 ev6) rfl mw_X7_stepsFrom wd_729 rfl rfl rfl rfl rfl rfl rfl dX10_sink_44 (fun z7 => ?_)
          exact a_iret (pc := 47) C E rfl (somI h) rfl dX10_sink_47
        · replace h := iteF c5 h
          refine a_aload_n (pc := 22) C dX10_sink_22 rfl 0 rfl ?_
          refine gf_10_0 (pc := 23) C wd_426 dX10_sink_23 ?_
          refine gf_9_0 (pc := 26) C wd_253 dX10_sink_26 ?_
          refine a_iload_n (pc := 29) C dX10_sink_29 rfl 1 rfl ?_
          obtain ⟨v8, ev8, h⟩ := bndS h
          refine a_callVI (pc := 30) C [.int x1] (ok_fTown_lowestFrom X.l X.N M x1 ev8) rfl mw_X7_lowestFrom wd_724 rfl rfl rfl rfl rfl rfl rfl dX10_sink_30 (fun z9 => ?_)
          refine a_goto (pc := 33) C 47 dX10_sink_33 rfl ?_
          exact a_iret (pc := 47) C E rfl (somI h) rfl dX10_sink_47
      · replace h := iteF c4 h
        refine a_iconst (pc := 16) C (-1) dX10_sink_16 rfl ?_
        exact a_iret (pc := 17) C E rfl (somI h) rfl dX10_sink_17
set_option maxHeartbeats 200000 in
set_option maxRecDepth 100000 in
theorem ok_fSh_basin (l : Launch) (N : Rig) (M : Mem) (x1 : Int32) {r : Int64} (h : fSh_basin M x1 = some r) : Ct l N yX10_basin cX10_basin 2 (some .long) 3 [.ref (N.2.1 0), .int x1] M (QcL N r M) := by
  refine ct_of (by decide) rfl ?_
  intro X el eN eL C E
  subst el
  subst eN
  unfold fSh_basin at h
  show WA X M [(0, .ref (X.N.2.1 0)), (1, .int x1)] 0 []
  refine a_iload_n (pc := 0) C dX10_basin_0 rfl 1 rfl ?_
  refine a_iconst (pc := 1) C (-1) dX10_basin_1 rfl ?_
  refine a_icmp_ne (pc := 2) C 16 dX10_basin_2 rfl (fun c1 => ?_) (fun c1 => ?_)
  · replace h := iteT c1 h
    refine a_iload_n (pc := 16) C dX10_basin_16 rfl 1 rfl ?_
    refine a_callSI (pc := 17) C [.int x1] (ok_fSh_isCell X.l X.N M x1) rfl mw_X10_isCell wd_464 rfl rfl rfl dX10_basin_17 (fun z2 => ?_)
    refine a_if_eq (pc := 20) C 37 dX10_basin_20 rfl (fun c3 => ?_) (fun c3 => ?_)
    · replace h := iteT c3 h
      refine a_ldc2_w (pc := 37) C (v := (-9223372036854775808)) dX10_basin_37 wd_749 ?_
      exact a_lret (pc := 40) C E (somI h) rfl dX10_basin_40
    · replace h := iteF c3 h
      refine a_aload_n (pc := 23) C dX10_basin_23 rfl 0 rfl ?_
      refine gf_10_0 (pc := 24) C wd_426 dX10_basin_24 ?_
      refine gf_9_0 (pc := 27) C wd_253 dX10_basin_27 ?_
      refine a_iload_n (pc := 30) C dX10_basin_30 rfl 1 rfl ?_
      obtain ⟨v4, ev4, h⟩ := bndS h
      refine a_callVL (pc := 31) C [.int x1] (ok_fTown_comeThrough X.l X.N M x1 ev4) rfl mw_X7_comeThrough wd_741 rfl rfl rfl rfl rfl rfl rfl dX10_basin_31 ?_
      refine a_goto (pc := 34) C 40 dX10_basin_34 rfl ?_
      exact a_lret (pc := 40) C E (somI h) rfl dX10_basin_40
  · replace h := iteF c1 h
    refine a_aload_n (pc := 5) C dX10_basin_5 rfl 0 rfl ?_
    refine gf_10_0 (pc := 6) C wd_426 dX10_basin_6 ?_
    refine gf_9_0 (pc := 9) C wd_253 dX10_basin_9 ?_
    obtain ⟨v5, ev5, h⟩ := bndS h
    refine a_callVL (pc := 12) C [] (ok_fTown_sinks X.l X.N M ev5) rfl mw_X7_sinks wd_737 rfl rfl rfl rfl rfl rfl rfl dX10_basin_12 ?_
    exact a_lret (pc := 15) C E (somI h) rfl dX10_basin_15
set_option maxHeartbeats 200000 in
set_option maxRecDepth 100000 in
theorem ok_fSh_fall_J58 {X : Amb} (eL : X.nL = 4) (C : Cx X RX10 cX10_fall 7) (r : Int32) (M0 : Mem) (E : En X (some .int) (QcI X.N (some .int) r M0)) (M : Mem) (x1 : Int32) (x2 : Int32) (x3 : Int32) (h : fSh_fall_J58 M x1 x2 x3 = some (r, M0)) : WA X M [(0, .ref (X.N.2.1 0)), (1, .int x1), (2, .int x2), (3, .int x3)] 58 [] := by
  unfold fSh_fall_J58 at h
  refine a_aload_n (pc := 58) C dX10_fall_58 rfl 0 rfl ?_
  refine gf_10_1 (pc := 59) C wd_427 dX10_fall_59 ?_
  refine a_aload_n (pc := 62) C dX10_fall_62 rfl 0 rfl ?_
  refine gf_10_0 (pc := 63) C wd_426 dX10_fall_63 ?_
  refine a_iload_n (pc := 66) C dX10_fall_66 rfl 1 rfl ?_
  refine a_bipush (pc := 67) C 100 dX10_fall_67 rfl ?_
  refine a_idiv (pc := 69) C dX10_fall_69 (by decide) ?_
  refine a_iload_n (pc := 70) C dX10_fall_70 rfl 1 rfl ?_
  refine a_bipush (pc := 71) C 100 dX10_fall_71 rfl ?_
  refine a_irem (pc := 73) C dX10_fall_73 (by decide) ?_
  refine a_iload_n (pc := 74) C dX10_fall_74 rfl 2 rfl ?_
  refine a_iload_n (pc := 75) C dX10_fall_75 rfl 3 rfl ?_
  obtain ⟨q9, eq9, h⟩ := bndS h
  refine a_callVI (pc := 76) C [.ref (X.N.2.1 1), .int (x1 / 100), .int (rmI x1 100), .int x2, .int x3] (ok_fThought_more X.l X.N M (x1 / 100) (rmI x1 100) x2 x3 eq9) rfl mw_X6_more wd_755 rfl rfl rfl rfl rfl rfl rfl dX10_fall_76 (fun z10 => ?_)
  exact a_iret (pc := 79) C E rfl (som1 h) (som2 h) dX10_fall_79
set_option maxHeartbeats 200000 in
set_option maxRecDepth 100000 in
theorem ok_fSh_fall (l : Launch) (N : Rig) (M : Mem) (x1 : Int32) (x2 : Int32) (x3 : Int32) {r : Int32} {M0 : Mem} (h : fSh_fall M x1 x2 x3 = some (r, M0)) : Ct l N yX10_fall cX10_fall 4 (some .int) 7 [.ref (N.2.1 0), .int x1, .int x2, .int x3] M (QcI N (some .int) r M0) := by
  refine ct_of (by decide) rfl ?_
  intro X el eN eL C E
  subst el
  subst eN
  unfold fSh_fall at h
  show WA X M [(0, .ref (X.N.2.1 0)), (1, .int x1), (2, .int x2), (3, .int x3)] 0 []
  refine a_iload_n (pc := 0) C dX10_fall_0 rfl 1 rfl ?_
  refine a_if_lt (pc := 1) C 36 dX10_fall_1 rfl (fun c1 => ?_) (fun c1 => ?_)
  · replace h := iteT c1 h
    refine a_ldc (pc := 36) C (v := (-2000000000)) dX10_fall_36 wd_754 ?_
    exact a_iret (pc := 38) C E rfl (som1 h) (som2 h) dX10_fall_38
  · replace h := iteF c1 h
    refine a_iload_n (pc := 4) C dX10_fall_4 rfl 1 rfl ?_
    refine a_bipush (pc := 5) C 100 dX10_fall_5 rfl ?_
    refine a_idiv (pc := 7) C dX10_fall_7 (by decide) ?_
    refine a_callSI (pc := 8) C [.int (x1 / 100)] (ok_fSh_isCell X.l X.N M (x1 / 100)) rfl mw_X10_isCell wd_464 rfl rfl rfl dX10_fall_8 (fun z2 => ?_)
    refine a_if_eq (pc := 11) C 36 dX10_fall_11 rfl (fun c3 => ?_) (fun c3 => ?_)
    · replace h := iteT c3 h
      refine a_ldc (pc := 36) C (v := (-2000000000)) dX10_fall_36 wd_754 ?_
      exact a_iret (pc := 38) C E rfl (som1 h) (som2 h) dX10_fall_38
    · replace h := iteF c3 h
      refine a_iload_n (pc := 14) C dX10_fall_14 rfl 1 rfl ?_
      refine a_bipush (pc := 15) C 100 dX10_fall_15 rfl ?_
      refine a_irem (pc := 17) C dX10_fall_17 (by decide) ?_
      refine a_callSI (pc := 18) C [.int (rmI x1 100)] (ok_fSh_isThinkable X.l X.N M (rmI x1 100)) rfl mw_X10_isThinkable wd_658 rfl rfl rfl dX10_fall_18 (fun z4 => ?_)
      refine a_if_eq (pc := 21) C 36 dX10_fall_21 rfl (fun c5 => ?_) (fun c5 => ?_)
      · replace h := iteT c5 h
        refine a_ldc (pc := 36) C (v := (-2000000000)) dX10_fall_36 wd_754 ?_
        exact a_iret (pc := 38) C E rfl (som1 h) (som2 h) dX10_fall_38
      · replace h := iteF c5 h
        refine a_iload_n (pc := 24) C dX10_fall_24 rfl 2 rfl ?_
        refine a_iconst (pc := 25) C 1 dX10_fall_25 rfl ?_
        refine a_icmp_lt (pc := 26) C 36 dX10_fall_26 rfl (fun c6 => ?_) (fun c6 => ?_)
        · replace h := iteT c6 h
          refine a_ldc (pc := 36) C (v := (-2000000000)) dX10_fall_36 wd_754 ?_
          exact a_iret (pc := 38) C E rfl (som1 h) (som2 h) dX10_fall_38
        · replace h := iteF c6 h
          refine a_iload_n (pc := 29) C dX10_fall_29 rfl 2 rfl ?_
          refine a_sipush (pc := 30) C 9999 dX10_fall_30 rfl ?_
          refine a_icmp_le (pc := 33) C 39 dX10_fall_33 rfl (fun c7 => ?_) (fun c7 => ?_)
          · replace h := iteT c7 h
            refine a_iload_n (pc := 39) C dX10_fall_39 rfl 3 rfl ?_
            refine a_iconst (pc := 40) C (-1) dX10_fall_40 rfl ?_
            refine a_icmp_eq (pc := 41) C 58 dX10_fall_41 rfl (fun c8 => ?_) (fun c8 => ?_)
            · replace h := iteT c8 h
              refine a_sub (lv2 := [(0, .ref (X.N.2.1 0)), (1, .int x1), (2, .int x2), (3, .int x3)]) [0, 1, 2, 3] rfl ?_
              exact ok_fSh_fall_J58 eL C r M0 E M x1 x2 x3 h
            · replace h := iteF c8 h
              refine a_aload_n (pc := 44) C dX10_fall_44 rfl 0 rfl ?_
              refine gf_10_0 (pc := 45) C wd_426 dX10_fall_45 ?_
              refine a_iload_n (pc := 48) C dX10_fall_48 rfl 3 rfl ?_
              refine a_callVI (pc := 49) C [.int x3] (ok_fWorld_isPerson X.l X.N M x3) rfl mw_X9_isPerson wd_691 rfl rfl rfl rfl rfl rfl rfl dX10_fall_49 (fun z11 => ?_)
              refine a_if_ne (pc := 52) C 58 dX10_fall_52 rfl (fun c12 => ?_) (fun c12 => ?_)
              · replace h := iteT c12 h
                refine a_sub (lv2 := [(0, .ref (X.N.2.1 0)), (1, .int x1), (2, .int x2), (3, .int x3)]) [0, 1, 2, 3] rfl ?_
                exact ok_fSh_fall_J58 eL C r M0 E M x1 x2 x3 h
              · replace h := iteF c12 h
                refine a_ldc (pc := 55) C (v := (-2000000000)) dX10_fall_55 wd_754 ?_
                exact a_iret (pc := 57) C E rfl (som1 h) (som2 h) dX10_fall_57
          · replace h := iteF c7 h
            refine a_ldc (pc := 36) C (v := (-2000000000)) dX10_fall_36 wd_754 ?_
            exact a_iret (pc := 38) C E rfl (som1 h) (som2 h) dX10_fall_38
set_option maxHeartbeats 200000 in
set_option maxRecDepth 100000 in
theorem ok_fSh_shoes (l : Launch) (N : Rig) (M : Mem) (x1 : Int32) (x2 : Int32) (x3 : Int32) {r : Int32} {M0 : Mem} (h : fSh_shoes M x1 x2 x3 = some (r, M0)) : Ct l N yX10_shoes cX10_shoes 6 (some .int) 7 [.ref (N.2.1 0), .int x1, .int x2, .int x3] M (QcI N (some .int) r M0) := by
  refine ct_of (by decide) rfl ?_
  intro X el eN eL C E
  subst el
  subst eN
  unfold fSh_shoes at h
  show WA X M [(0, .ref (X.N.2.1 0)), (1, .int x1), (2, .int x2), (3, .int x3)] 0 []
  refine a_iload_n (pc := 0) C dX10_shoes_0 rfl 2 rfl ?_
  refine a_sipush (pc := 1) C 10000 dX10_shoes_1 rfl ?_
  refine a_idiv (pc := 4) C dX10_shoes_4 (by decide) ?_
  refine a_istore (pc := 5) C [(4, .int (x2 / 10000)), (0, .ref (X.N.2.1 0)), (1, .int x1), (2, .int x2), (3, .int x3)] dX10_shoes_5 (nlt eL rfl) rfl ?_
  refine a_aload_n (pc := 7) C dX10_shoes_7 rfl 1 rfl ?_
  refine gf_10_0 (pc := 8) C wd_426 dX10_shoes_8 ?_
  refine a_iload_n (pc := 11) C dX10_shoes_11 rfl 2 rfl ?_
  refine a_callVI (pc := 12) C [.int x1] (ok_fWorld_isPerson X.l X.N M x1) rfl mw_X9_isPerson wd_691 rfl rfl rfl rfl rfl rfl rfl dX10_shoes_12 (fun z1 => ?_)
  refine a_if_eq (pc := 15) C 38 dX10_shoes_15 rfl (fun c2 => ?_) (fun c2 => ?_)
  · replace h := iteT c2 h
    refine a_iconst (pc := 38) C (-1) dX10_shoes_38 rfl ?_
    exact a_iret (pc := 39) C E rfl (som1 h) (som2 h) dX10_shoes_39
  · replace h := iteF c2 h
    refine a_iload_n (pc := 18) C dX10_shoes_18 rfl 3 rfl ?_
    refine a_if_lt (pc := 19) C 38 dX10_shoes_19 rfl (fun c3 => ?_) (fun c3 => ?_)
    · replace h := iteT c3 h
      refine a_iconst (pc := 38) C (-1) dX10_shoes_38 rfl ?_
      exact a_iret (pc := 39) C E rfl (som1 h) (som2 h) dX10_shoes_39
    · replace h := iteF c3 h
      refine a_iload (pc := 22) C dX10_shoes_22 0 rfl ?_
      refine a_bipush (pc := 24) C 12 dX10_shoes_24 rfl ?_
      refine a_icmp_gt (pc := 26) C 38 dX10_shoes_26 rfl (fun c4 => ?_) (fun c4 => ?_)
      · replace h := iteT c4 h
        refine a_iconst (pc := 38) C (-1) dX10_shoes_38 rfl ?_
        exact a_iret (pc := 39) C E rfl (som1 h) (som2 h) dX10_shoes_39
      · replace h := iteF c4 h
        refine a_iload_n (pc := 29) C dX10_shoes_29 rfl 4 rfl ?_
        refine a_if_lt (pc := 30) C 38 dX10_shoes_30 rfl (fun c5 => ?_) (fun c5 => ?_)
        · replace h := iteT c5 h
          refine a_iconst (pc := 38) C (-1) dX10_shoes_38 rfl ?_
          exact a_iret (pc := 39) C E rfl (som1 h) (som2 h) dX10_shoes_39
        · replace h := iteF c5 h
          refine a_iload_n (pc := 33) C dX10_shoes_33 rfl 4 rfl ?_
          refine a_iconst (pc := 34) C 1 dX10_shoes_34 rfl ?_
          refine a_icmp_le (pc := 35) C 40 dX10_shoes_35 rfl (fun c6 => ?_) (fun c6 => ?_)
          · replace h := iteT c6 h
            refine a_aload_n (pc := 40) C dX10_shoes_40 rfl 1 rfl ?_
            refine gf_10_1 (pc := 41) C wd_427 dX10_shoes_41 ?_
            refine a_aload_n (pc := 44) C dX10_shoes_44 rfl 1 rfl ?_
            refine gf_10_0 (pc := 45) C wd_426 dX10_shoes_45 ?_
            refine a_iload_n (pc := 48) C dX10_shoes_48 rfl 2 rfl ?_
            refine a_iload (pc := 49) C dX10_shoes_49 0 rfl ?_
            refine a_iload_n (pc := 51) C dX10_shoes_51 rfl 3 rfl ?_
            refine a_sipush (pc := 52) C 10000 dX10_shoes_52 rfl ?_
            refine a_irem (pc := 55) C dX10_shoes_55 (by decide) ?_
            obtain ⟨q7, eq7, h⟩ := bndS h
            refine a_callVI (pc := 56) C [.ref (X.N.2.1 1), .int x1, .int (x2 / 10000), .int (rmI x2 10000)] (ok_fThought_fewestShoes X.l X.N M x1 (x2 / 10000) (rmI x2 10000) eq7) rfl mw_X6_fewestShoes wd_773 rfl rfl rfl rfl rfl rfl rfl dX10_shoes_56 (fun z8 => ?_)
            refine a_istore (pc := 59) C [(5, .int q7.1), (4, .int (x2 / 10000)), (0, .ref (X.N.2.1 0)), (1, .int x1), (2, .int x2), (3, .int x3)] dX10_shoes_59 (nlt eL rfl) rfl ?_
            refine a_iload_n (pc := 61) C dX10_shoes_61 rfl 5 rfl ?_
            refine a_if_eq (pc := 62) C 72 dX10_shoes_62 rfl (fun c9 => ?_) (fun c9 => ?_)
            · replace h := iteT c9 h
              refine a_iload (pc := 72) C dX10_shoes_72 0 rfl ?_
              refine a_goto (pc := 74) C 84 dX10_shoes_74 rfl ?_
              exact a_iret (pc := 84) C E rfl (som1 h) (som2 h) dX10_shoes_84
            · replace h := iteF c9 h
              refine a_iload (pc := 65) C dX10_shoes_65 0 rfl ?_
              refine a_bipush (pc := 67) C (-2) dX10_shoes_67 rfl ?_
              refine a_icmp_ne (pc := 69) C 77 dX10_shoes_69 rfl (fun c10 => ?_) (fun c10 => ?_)
              · replace h := iteT c10 h
                refine a_aload_n (pc := 77) C dX10_shoes_77 rfl 2 rfl ?_
                refine gf_10_1 (pc := 78) C wd_427 dX10_shoes_78 ?_
                refine gf_6_2 (pc := 81) C wd_280 dX10_shoes_81 ?_
                exact a_iret (pc := 84) C E rfl (som1 h) (som2 h) dX10_shoes_84
              · replace h := iteF c10 h
                refine a_iload (pc := 72) C dX10_shoes_72 0 rfl ?_
                refine a_goto (pc := 74) C 84 dX10_shoes_74 rfl ?_
                exact a_iret (pc := 84) C E rfl (som1 h) (som2 h) dX10_shoes_84
          · replace h := iteF c6 h
            refine a_iconst (pc := 38) C (-1) dX10_shoes_38 rfl ?_
            exact a_iret (pc := 39) C E rfl (som1 h) (som2 h) dX10_shoes_39
set_option maxHeartbeats 200000 in
set_option maxRecDepth 100000 in
theorem ok_fSh_seat (l : Launch) (N : Rig) (M : Mem) (x1 : Int32) (x2 : Int32) (x3 : Int32) {r : Int32} {M0 : Mem} (h : fSh_seat M x1 x2 x3 = some (r, M0)) : Ct l N yX10_seat cX10_seat 5 (some .int) 6 [.ref (N.2.1 0), .int x1, .int x2, .int x3] M (QcI N (some .int) r M0) := by
  refine ct_of (by decide) rfl ?_
  intro X el eN eL C E
  subst el
  subst eN
  unfold fSh_seat at h
  show WA X M [(0, .ref (X.N.2.1 0)), (1, .int x1), (2, .int x2), (3, .int x3)] 0 []
  refine a_aload_n (pc := 0) C dX10_seat_0 rfl 0 rfl ?_
  refine gf_10_0 (pc := 1) C wd_426 dX10_seat_1 ?_
  refine a_iload_n (pc := 4) C dX10_seat_4 rfl 1 rfl ?_
  refine a_callVI (pc := 5) C [.int x1] (ok_fWorld_isPerson X.l X.N M x1) rfl mw_X9_isPerson wd_691 rfl rfl rfl rfl rfl rfl rfl dX10_seat_5 (fun z1 => ?_)
  refine a_if_eq (pc := 8) C 30 dX10_seat_8 rfl (fun c2 => ?_) (fun c2 => ?_)
  · replace h := iteT c2 h
    refine a_iconst (pc := 30) C (-1) dX10_seat_30 rfl ?_
    exact a_iret (pc := 31) C E rfl (som1 h) (som2 h) dX10_seat_31
  · replace h := iteF c2 h
    refine a_iload_n (pc := 11) C dX10_seat_11 rfl 2 rfl ?_
    refine a_if_lt (pc := 12) C 30 dX10_seat_12 rfl (fun c3 => ?_) (fun c3 => ?_)
    · replace h := iteT c3 h
      refine a_iconst (pc := 30) C (-1) dX10_seat_30 rfl ?_
      exact a_iret (pc := 31) C E rfl (som1 h) (som2 h) dX10_seat_31
    · replace h := iteF c3 h
      refine a_iload_n (pc := 15) C dX10_seat_15 rfl 2 rfl ?_
      refine a_bipush (pc := 16) C 24 dX10_seat_16 rfl ?_
      refine a_icmp_gt (pc := 18) C 30 dX10_seat_18 rfl (fun c4 => ?_) (fun c4 => ?_)
      · replace h := iteT c4 h
        refine a_iconst (pc := 30) C (-1) dX10_seat_30 rfl ?_
        exact a_iret (pc := 31) C E rfl (som1 h) (som2 h) dX10_seat_31
      · replace h := iteF c4 h
        refine a_iload_n (pc := 21) C dX10_seat_21 rfl 3 rfl ?_
        refine a_if_lt (pc := 22) C 30 dX10_seat_22 rfl (fun c5 => ?_) (fun c5 => ?_)
        · replace h := iteT c5 h
          refine a_iconst (pc := 30) C (-1) dX10_seat_30 rfl ?_
          exact a_iret (pc := 31) C E rfl (som1 h) (som2 h) dX10_seat_31
        · replace h := iteF c5 h
          refine a_iload_n (pc := 25) C dX10_seat_25 rfl 3 rfl ?_
          refine a_iconst (pc := 26) C 1 dX10_seat_26 rfl ?_
          refine a_icmp_le (pc := 27) C 32 dX10_seat_27 rfl (fun c6 => ?_) (fun c6 => ?_)
          · replace h := iteT c6 h
            refine a_aload_n (pc := 32) C dX10_seat_32 rfl 0 rfl ?_
            refine gf_10_1 (pc := 33) C wd_427 dX10_seat_33 ?_
            refine a_aload_n (pc := 36) C dX10_seat_36 rfl 0 rfl ?_
            refine gf_10_0 (pc := 37) C wd_426 dX10_seat_37 ?_
            refine a_iload_n (pc := 40) C dX10_seat_40 rfl 1 rfl ?_
            refine a_iload_n (pc := 41) C dX10_seat_41 rfl 2 rfl ?_
            obtain ⟨q7, eq7, h⟩ := bndS h
            refine a_callVI (pc := 42) C [.ref (X.N.2.1 1), .int x1, .int x2] (ok_fThought_bestSeat X.l X.N M x1 x2 eq7) rfl mw_X6_bestSeat wd_793 rfl rfl rfl rfl rfl rfl rfl dX10_seat_42 (fun z8 => ?_)
            refine a_istore (pc := 45) C [(4, .int q7.1), (0, .ref (X.N.2.1 0)), (1, .int x1), (2, .int x2), (3, .int x3)] dX10_seat_45 (nlt eL rfl) rfl ?_
            refine a_iload_n (pc := 47) C dX10_seat_47 rfl 4 rfl ?_
            refine a_if_ne (pc := 48) C 56 dX10_seat_48 rfl (fun c9 => ?_) (fun c9 => ?_)
            · replace h := iteT c9 h
              refine a_aload_n (pc := 56) C dX10_seat_56 rfl 1 rfl ?_
              refine gf_10_1 (pc := 57) C wd_427 dX10_seat_57 ?_
              refine gf_6_3 (pc := 60) C wd_282 dX10_seat_60 ?_
              exact a_iret (pc := 63) C E rfl (som1 h) (som2 h) dX10_seat_63
            · replace h := iteF c9 h
              refine a_iload (pc := 51) C dX10_seat_51 0 rfl ?_
              refine a_goto (pc := 53) C 63 dX10_seat_53 rfl ?_
              exact a_iret (pc := 63) C E rfl (som1 h) (som2 h) dX10_seat_63
          · replace h := iteF c6 h
            refine a_iconst (pc := 30) C (-1) dX10_seat_30 rfl ?_
            exact a_iret (pc := 31) C E rfl (som1 h) (som2 h) dX10_seat_31
set_option maxHeartbeats 200000 in
set_option maxRecDepth 100000 in
theorem ok_fSh_judge (l : Launch) (N : Rig) (M : Mem) (x1 : Int32) (x2 : Int32) {r : Int32} {M0 : Mem} (h : fSh_judge M x1 x2 = some (r, M0)) : Ct l N yX10_judge cX10_judge 4 (some .int) 6 [.ref (N.2.1 0), .int x1, .int x2] M (QcI N (some .int) r M0) := by
  refine ct_of (by decide) rfl ?_
  intro X el eN eL C E
  subst el
  subst eN
  unfold fSh_judge at h
  show WA X M [(0, .ref (X.N.2.1 0)), (1, .int x1), (2, .int x2)] 0 []
  refine a_iload_n (pc := 0) C dX10_judge_0 rfl 1 rfl ?_
  refine a_callSI (pc := 1) C [.int x1] (ok_fShelves_isShelf X.l X.N M x1) rfl mw_X4_isShelf wd_479 rfl rfl rfl dX10_judge_1 (fun z1 => ?_)
  refine a_if_eq (pc := 4) C 14 dX10_judge_4 rfl (fun c2 => ?_) (fun c2 => ?_)
  · replace h := iteT c2 h
    refine a_iconst (pc := 14) C (-1) dX10_judge_14 rfl ?_
    exact a_iret (pc := 15) C E rfl (som1 h) (som2 h) dX10_judge_15
  · replace h := iteF c2 h
    refine a_iload_n (pc := 7) C dX10_judge_7 rfl 2 rfl ?_
    refine a_callSI (pc := 8) C [.int x2] (ok_fSh_isCell X.l X.N M x2) rfl mw_X10_isCell wd_464 rfl rfl rfl dX10_judge_8 (fun z3 => ?_)
    refine a_if_ne (pc := 11) C 16 dX10_judge_11 rfl (fun c4 => ?_) (fun c4 => ?_)
    · replace h := iteT c4 h
      refine a_aload_n (pc := 16) C dX10_judge_16 rfl 0 rfl ?_
      refine gf_10_5 (pc := 17) C wd_431 dX10_judge_17 ?_
      refine a_iload_n (pc := 20) C dX10_judge_20 rfl 1 rfl ?_
      refine a_iconst (pc := 21) C 1 dX10_judge_21 rfl ?_
      obtain ⟨v5, ev5, h⟩ := bndS h
      refine a_callVI (pc := 22) C [.int x1, .int 1] (ok_fShelves_refusal X.l X.N M x1 1 ev5) rfl mw_X4_refusal wd_801 rfl rfl rfl rfl rfl rfl rfl dX10_judge_22 (fun z6 => ?_)
      refine a_istore_n (pc := 25) C [(3, .int v5), (0, .ref (X.N.2.1 0)), (1, .int x1), (2, .int x2)] dX10_judge_25 rfl (nlt eL rfl) rfl ?_
      refine a_iload_n (pc := 26) C dX10_judge_26 rfl 0 rfl ?_
      refine a_if_eq (pc := 27) C 34 dX10_judge_27 rfl (fun c7 => ?_) (fun c7 => ?_)
      · replace h := iteT c7 h
        refine a_aload_n (pc := 34) C dX10_judge_34 rfl 1 rfl ?_
        refine gf_10_1 (pc := 35) C wd_427 dX10_judge_35 ?_
        refine a_aload_n (pc := 38) C dX10_judge_38 rfl 1 rfl ?_
        refine gf_10_0 (pc := 39) C wd_426 dX10_judge_39 ?_
        refine a_aload_n (pc := 42) C dX10_judge_42 rfl 1 rfl ?_
        refine gf_10_5 (pc := 43) C wd_431 dX10_judge_43 ?_
        refine gf_4_2 (pc := 46) C wd_396 dX10_judge_46 ?_
        refine a_iload_n (pc := 49) C dX10_judge_49 rfl 2 rfl ?_
        obtain ⟨k8, ek8, h⟩ := bndS h
        have hk8 := rw_of ek8
        refine a_aald (pc := 50) C ek8 dX10_judge_50 ?_
        refine a_aload_n (pc := 51) C dX10_judge_51 rfl 1 rfl ?_
        refine gf_10_5 (pc := 52) C wd_431 dX10_judge_52 ?_
        refine gf_4_1 (pc := 55) C wd_394 dX10_judge_55 ?_
        refine a_iload_n (pc := 58) C dX10_judge_58 rfl 2 rfl ?_
        obtain ⟨v9, ev9, h⟩ := bndS h
        refine a_iald (pc := 59) C rfl ev9 dX10_judge_59 ?_
        refine a_iload_n (pc := 60) C dX10_judge_60 rfl 3 rfl ?_
        obtain ⟨q10, eq10, h⟩ := bndS h
        refine a_callVI (pc := 61) C [.ref (X.N.2.1 1), .ref (X.N.2.1 k8), .int v9, .int x2] (ok_fThought_firstWrong X.l X.N M k8 hk8 v9 x2 eq10) rfl mw_X6_firstWrong wd_807 rfl rfl rfl rfl rfl rfl rfl dX10_judge_61 (fun z11 => ?_)
        exact a_iret (pc := 64) C E rfl (som1 h) (som2 h) dX10_judge_64
      · replace h := iteF c7 h
        refine a_iload_n (pc := 30) C dX10_judge_30 rfl 0 rfl ?_
        refine a_goto (pc := 31) C 64 dX10_judge_31 rfl ?_
        exact a_iret (pc := 64) C E rfl (som1 h) (som2 h) dX10_judge_64
    · replace h := iteF c4 h
      refine a_iconst (pc := 14) C (-1) dX10_judge_14 rfl ?_
      exact a_iret (pc := 15) C E rfl (som1 h) (som2 h) dX10_judge_15
set_option maxHeartbeats 200000 in
set_option maxRecDepth 100000 in
theorem ok_fSh_seen (l : Launch) (N : Rig) (M : Mem) (x1 : Int32) (x2 : Int32) (x3 : Int32) {r : Int32} {M0 : Mem} (h : fSh_seen M x1 x2 x3 = some (r, M0)) : Ct l N yX10_seen cX10_seen 8 (some .int) 7 [.ref (N.2.1 0), .int x1, .int x2, .int x3] M (QcI N (some .int) r M0) := by
  refine ct_of (by decide) rfl ?_
  intro X el eN eL C E
  subst el
  subst eN
  unfold fSh_seen at h
  show WA X M [(0, .ref (X.N.2.1 0)), (1, .int x1), (2, .int x2), (3, .int x3)] 0 []
  refine a_iload_n (pc := 0) C dX10_seen_0 rfl 1 rfl ?_
  refine a_callSI (pc := 1) C [.int x1] (ok_fShelves_isShelf X.l X.N M x1) rfl mw_X4_isShelf wd_479 rfl rfl rfl dX10_seen_1 (fun z1 => ?_)
  refine a_if_eq (pc := 4) C 40 dX10_seen_4 rfl (fun c2 => ?_) (fun c2 => ?_)
  · replace h := iteT c2 h
    refine a_iconst (pc := 40) C (-1) dX10_seen_40 rfl ?_
    exact a_iret (pc := 41) C E rfl (som1 h) (som2 h) dX10_seen_41
  · replace h := iteF c2 h
    refine a_iload_n (pc := 7) C dX10_seen_7 rfl 2 rfl ?_
    refine a_if_lt (pc := 8) C 40 dX10_seen_8 rfl (fun c3 => ?_) (fun c3 => ?_)
    · replace h := iteT c3 h
      refine a_iconst (pc := 40) C (-1) dX10_seen_40 rfl ?_
      exact a_iret (pc := 41) C E rfl (som1 h) (som2 h) dX10_seen_41
    · replace h := iteF c3 h
      refine a_iload_n (pc := 11) C dX10_seen_11 rfl 2 rfl ?_
      refine a_bipush (pc := 12) C 100 dX10_seen_12 rfl ?_
      refine a_idiv (pc := 14) C dX10_seen_14 (by decide) ?_
      refine a_callSI (pc := 15) C [.int (x2 / 100)] (ok_fSh_isCell X.l X.N M (x2 / 100)) rfl mw_X10_isCell wd_464 rfl rfl rfl dX10_seen_15 (fun z4 => ?_)
      refine a_if_eq (pc := 18) C 40 dX10_seen_18 rfl (fun c5 => ?_) (fun c5 => ?_)
      · replace h := iteT c5 h
        refine a_iconst (pc := 40) C (-1) dX10_seen_40 rfl ?_
        exact a_iret (pc := 41) C E rfl (som1 h) (som2 h) dX10_seen_41
      · replace h := iteF c5 h
        refine a_iload_n (pc := 21) C dX10_seen_21 rfl 2 rfl ?_
        refine a_bipush (pc := 22) C 100 dX10_seen_22 rfl ?_
        refine a_irem (pc := 24) C dX10_seen_24 (by decide) ?_
        refine a_callSI (pc := 25) C [.int (rmI x2 100)] (ok_fSh_isCell X.l X.N M (rmI x2 100)) rfl mw_X10_isCell wd_464 rfl rfl rfl dX10_seen_25 (fun z6 => ?_)
        refine a_if_eq (pc := 28) C 40 dX10_seen_28 rfl (fun c7 => ?_) (fun c7 => ?_)
        · replace h := iteT c7 h
          refine a_iconst (pc := 40) C (-1) dX10_seen_40 rfl ?_
          exact a_iret (pc := 41) C E rfl (som1 h) (som2 h) dX10_seen_41
        · replace h := iteF c7 h
          refine a_iload_n (pc := 31) C dX10_seen_31 rfl 3 rfl ?_
          refine a_if_lt (pc := 32) C 40 dX10_seen_32 rfl (fun c8 => ?_) (fun c8 => ?_)
          · replace h := iteT c8 h
            refine a_iconst (pc := 40) C (-1) dX10_seen_40 rfl ?_
            exact a_iret (pc := 41) C E rfl (som1 h) (som2 h) dX10_seen_41
          · replace h := iteF c8 h
            refine a_iload_n (pc := 35) C dX10_seen_35 rfl 3 rfl ?_
            refine a_iconst (pc := 36) C 2 dX10_seen_36 rfl ?_
            refine a_icmp_le (pc := 37) C 42 dX10_seen_37 rfl (fun c9 => ?_) (fun c9 => ?_)
            · replace h := iteT c9 h
              refine a_aload_n (pc := 42) C dX10_seen_42 rfl 0 rfl ?_
              refine gf_10_5 (pc := 43) C wd_431 dX10_seen_43 ?_
              refine a_iload_n (pc := 46) C dX10_seen_46 rfl 1 rfl ?_
              refine a_iconst (pc := 47) C 1 dX10_seen_47 rfl ?_
              obtain ⟨v10, ev10, h⟩ := bndS h
              refine a_callVI (pc := 48) C [.int x1, .int 1] (ok_fShelves_refusal X.l X.N M x1 1 ev10) rfl mw_X4_refusal wd_801 rfl rfl rfl rfl rfl rfl rfl dX10_seen_48 (fun z11 => ?_)
              refine a_istore (pc := 51) C [(4, .int v10), (0, .ref (X.N.2.1 0)), (1, .int x1), (2, .int x2), (3, .int x3)] dX10_seen_51 (nlt eL rfl) rfl ?_
              refine a_iload (pc := 53) C dX10_seen_53 0 rfl ?_
              refine a_if_eq (pc := 55) C 61 dX10_seen_55 rfl (fun c12 => ?_) (fun c12 => ?_)
              · replace h := iteT c12 h
                refine a_aload_n (pc := 61) C dX10_seen_61 rfl 1 rfl ?_
                refine gf_10_5 (pc := 62) C wd_431 dX10_seen_62 ?_
                refine gf_4_2 (pc := 65) C wd_396 dX10_seen_65 ?_
                refine a_iload_n (pc := 68) C dX10_seen_68 rfl 2 rfl ?_
                obtain ⟨k13, ek13, h⟩ := bndS h
                have hk13 := rw_of ek13
                refine a_aald (pc := 69) C ek13 dX10_seen_69 ?_
                refine a_astore (pc := 70) C [(5, .ref (X.N.2.1 k13)), (4, .int v10), (0, .ref (X.N.2.1 0)), (1, .int x1), (2, .int x2), (3, .int x3)] dX10_seen_70 (nlt eL rfl) rfl ?_
                refine a_aload_n (pc := 72) C dX10_seen_72 rfl 2 rfl ?_
                refine gf_10_5 (pc := 73) C wd_431 dX10_seen_73 ?_
                refine gf_4_1 (pc := 76) C wd_394 dX10_seen_76 ?_
                refine a_iload_n (pc := 79) C dX10_seen_79 rfl 3 rfl ?_
                obtain ⟨v14, ev14, h⟩ := bndS h
                refine a_iald (pc := 80) C rfl ev14 dX10_seen_80 ?_
                refine a_istore (pc := 81) C [(6, .int v14), (5, .ref (X.N.2.1 k13)), (4, .int v10), (0, .ref (X.N.2.1 0)), (1, .int x1), (2, .int x2), (3, .int x3)] dX10_seen_81 (nlt eL rfl) rfl ?_
                refine a_iload_n (pc := 83) C dX10_seen_83 rfl 6 rfl ?_
                refine a_if_ne (pc := 84) C 111 dX10_seen_84 rfl (fun c15 => ?_) (fun c15 => ?_)
                · replace h := iteT c15 h
                  refine a_aload_n (pc := 111) C dX10_seen_111 rfl 3 rfl ?_
                  refine gf_10_1 (pc := 112) C wd_427 dX10_seen_112 ?_
                  refine a_aload_n (pc := 115) C dX10_seen_115 rfl 3 rfl ?_
                  refine gf_10_0 (pc := 116) C wd_426 dX10_seen_116 ?_
                  refine a_aload (pc := 119) C dX10_seen_119 1 rfl ?_
                  refine a_iload (pc := 121) C dX10_seen_121 0 rfl ?_
                  refine a_iload_n (pc := 123) C dX10_seen_123 rfl 5 rfl ?_
                  refine a_bipush (pc := 124) C 100 dX10_seen_124 rfl ?_
                  refine a_idiv (pc := 126) C dX10_seen_126 (by decide) ?_
                  refine a_iload_n (pc := 127) C dX10_seen_127 rfl 5 rfl ?_
                  refine a_bipush (pc := 128) C 100 dX10_seen_128 rfl ?_
                  refine a_irem (pc := 130) C dX10_seen_130 (by decide) ?_
                  obtain ⟨q16, eq16, h⟩ := bndS h
                  refine a_callVI (pc := 131) C [.ref (X.N.2.1 1), .ref (X.N.2.1 k13), .int v14, .int (x2 / 100), .int (rmI x2 100)] (ok_fThought_fittingLucks X.l X.N M k13 hk13 v14 (x2 / 100) (rmI x2 100) eq16) rfl mw_X6_fittingLucks wd_824 rfl rfl rfl rfl rfl rfl rfl dX10_seen_131 (fun z17 => ?_)
                  refine a_istore (pc := 134) C [(7, .int q16.1), (6, .int v14), (5, .ref (X.N.2.1 k13)), (4, .int v10), (0, .ref (X.N.2.1 0)), (1, .int x1), (2, .int x2), (3, .int x3)] dX10_seen_134 (nlt eL rfl) rfl ?_
                  refine a_iload_n (pc := 136) C dX10_seen_136 rfl 7 rfl ?_
                  refine a_iconst (pc := 137) C 1 dX10_seen_137 rfl ?_
                  refine a_icmp_ne (pc := 138) C 146 dX10_seen_138 rfl (fun c18 => ?_) (fun c18 => ?_)
                  · replace h := iteT c18 h
                    refine a_aload_n (pc := 146) C dX10_seen_146 rfl 4 rfl ?_
                    refine gf_10_1 (pc := 147) C wd_427 dX10_seen_147 ?_
                    refine gf_6_4 (pc := 150) C wd_284 dX10_seen_150 ?_
                    exact a_iret (pc := 153) C E rfl (som1 h) (som2 h) dX10_seen_153
                  · replace h := iteF c18 h
                    refine a_iload (pc := 141) C dX10_seen_141 0 rfl ?_
                    refine a_goto (pc := 143) C 153 dX10_seen_143 rfl ?_
                    exact a_iret (pc := 153) C E rfl (som1 h) (som2 h) dX10_seen_153
                · replace h := iteF c15 h
                  refine a_aload_n (pc := 87) C dX10_seen_87 rfl 3 rfl ?_
                  refine gf_10_1 (pc := 88) C wd_427 dX10_seen_88 ?_
                  refine a_aload_n (pc := 91) C dX10_seen_91 rfl 3 rfl ?_
                  refine gf_10_0 (pc := 92) C wd_426 dX10_seen_92 ?_
                  refine a_aload (pc := 95) C dX10_seen_95 1 rfl ?_
                  refine a_iload (pc := 97) C dX10_seen_97 0 rfl ?_
                  refine a_iload_n (pc := 99) C dX10_seen_99 rfl 5 rfl ?_
                  refine a_bipush (pc := 100) C 100 dX10_seen_100 rfl ?_
                  refine a_idiv (pc := 102) C dX10_seen_102 (by decide) ?_
                  refine a_iload_n (pc := 103) C dX10_seen_103 rfl 5 rfl ?_
                  refine a_bipush (pc := 104) C 100 dX10_seen_104 rfl ?_
                  refine a_irem (pc := 106) C dX10_seen_106 (by decide) ?_
                  obtain ⟨q19, eq19, h⟩ := bndS h
                  refine a_callVI (pc := 107) C [.ref (X.N.2.1 1), .ref (X.N.2.1 k13), .int v14, .int (x2 / 100), .int (rmI x2 100)] (ok_fThought_fittingShoes X.l X.N M k13 hk13 v14 (x2 / 100) (rmI x2 100) eq19) rfl mw_X6_fittingShoes wd_820 rfl rfl rfl rfl rfl rfl rfl dX10_seen_107 (fun z20 => ?_)
                  exact a_iret (pc := 110) C E rfl (som1 h) (som2 h) dX10_seen_110
              · replace h := iteF c12 h
                refine a_iload (pc := 58) C dX10_seen_58 0 rfl ?_
                exact a_iret (pc := 60) C E rfl (som1 h) (som2 h) dX10_seen_60
            · replace h := iteF c9 h
              refine a_iconst (pc := 40) C (-1) dX10_seen_40 rfl ?_
              exact a_iret (pc := 41) C E rfl (som1 h) (som2 h) dX10_seen_41
set_option maxHeartbeats 200000 in
set_option maxRecDepth 100000 in
theorem ok_fSh_bets (l : Launch) (N : Rig) (M : Mem) (x1 : Int32) (x2 : Int32) {r : Int32} {M0 : Mem} (h : fSh_bets M x1 x2 = some (r, M0)) : Ct l N yX10_bets cX10_bets 4 (some .int) 3 [.ref (N.2.1 0), .int x1, .int x2] M (QcI N (some .int) r M0) := by
  refine ct_of (by decide) rfl ?_
  intro X el eN eL C E
  subst el
  subst eN
  unfold fSh_bets at h
  show WA X M [(0, .ref (X.N.2.1 0)), (1, .int x1), (2, .int x2)] 0 []
  refine a_iload_n (pc := 0) C dX10_bets_0 rfl 1 rfl ?_
  refine a_callSI (pc := 1) C [.int x1] (ok_fShelves_isShelf X.l X.N M x1) rfl mw_X4_isShelf wd_479 rfl rfl rfl dX10_bets_1 (fun z1 => ?_)
  refine a_if_eq (pc := 4) C 16 dX10_bets_4 rfl (fun c2 => ?_) (fun c2 => ?_)
  · replace h := iteT c2 h
    refine a_iconst (pc := 16) C (-1) dX10_bets_16 rfl ?_
    exact a_iret (pc := 17) C E rfl (som1 h) (som2 h) dX10_bets_17
  · replace h := iteF c2 h
    refine a_iload_n (pc := 7) C dX10_bets_7 rfl 2 rfl ?_
    refine a_if_lt (pc := 8) C 16 dX10_bets_8 rfl (fun c3 => ?_) (fun c3 => ?_)
    · replace h := iteT c3 h
      refine a_iconst (pc := 16) C (-1) dX10_bets_16 rfl ?_
      exact a_iret (pc := 17) C E rfl (som1 h) (som2 h) dX10_bets_17
    · replace h := iteF c3 h
      refine a_iload_n (pc := 11) C dX10_bets_11 rfl 2 rfl ?_
      refine a_iconst (pc := 12) C 1 dX10_bets_12 rfl ?_
      refine a_icmp_le (pc := 13) C 18 dX10_bets_13 rfl (fun c4 => ?_) (fun c4 => ?_)
      · replace h := iteT c4 h
        refine a_aload_n (pc := 18) C dX10_bets_18 rfl 0 rfl ?_
        refine gf_10_5 (pc := 19) C wd_431 dX10_bets_19 ?_
        refine a_iload_n (pc := 22) C dX10_bets_22 rfl 1 rfl ?_
        refine a_iconst (pc := 23) C 1 dX10_bets_23 rfl ?_
        obtain ⟨v5, ev5, h⟩ := bndS h
        refine a_callVI (pc := 24) C [.int x1, .int 1] (ok_fShelves_refusal X.l X.N M x1 1 ev5) rfl mw_X4_refusal wd_801 rfl rfl rfl rfl rfl rfl rfl dX10_bets_24 (fun z6 => ?_)
        refine a_istore_n (pc := 27) C [(3, .int v5), (0, .ref (X.N.2.1 0)), (1, .int x1), (2, .int x2)] dX10_bets_27 rfl (nlt eL rfl) rfl ?_
        refine a_iload_n (pc := 28) C dX10_bets_28 rfl 0 rfl ?_
        refine a_if_eq (pc := 29) C 34 dX10_bets_29 rfl (fun c7 => ?_) (fun c7 => ?_)
        · replace h := iteT c7 h
          refine a_aload_n (pc := 34) C dX10_bets_34 rfl 1 rfl ?_
          refine gf_10_6 (pc := 35) C wd_432 dX10_bets_35 ?_
          refine a_aload_n (pc := 38) C dX10_bets_38 rfl 1 rfl ?_
          refine gf_10_5 (pc := 39) C wd_431 dX10_bets_39 ?_
          refine gf_4_2 (pc := 42) C wd_396 dX10_bets_42 ?_
          refine a_iload_n (pc := 45) C dX10_bets_45 rfl 2 rfl ?_
          obtain ⟨k8, ek8, h⟩ := bndS h
          have hk8 := rw_of ek8
          refine a_aald (pc := 46) C ek8 dX10_bets_46 ?_
          refine a_aload_n (pc := 47) C dX10_bets_47 rfl 1 rfl ?_
          refine gf_10_5 (pc := 48) C wd_431 dX10_bets_48 ?_
          refine gf_4_1 (pc := 51) C wd_394 dX10_bets_51 ?_
          refine a_iload_n (pc := 54) C dX10_bets_54 rfl 2 rfl ?_
          obtain ⟨v9, ev9, h⟩ := bndS h
          refine a_iald (pc := 55) C rfl ev9 dX10_bets_55 ?_
          obtain ⟨q10, eq10, h⟩ := bndS h
          refine a_callVV (pc := 56) C [.ref (X.N.2.1 k8), .int v9] (ok_fBets_read X.l X.N M k8 hk8 v9 eq10) rfl mw_X0_read wd_834 rfl rfl rfl rfl rfl rfl rfl dX10_bets_56 ?_
          refine a_iload_n (pc := 59) C dX10_bets_59 rfl 3 rfl ?_
          refine a_iconst (pc := 60) C 1 dX10_bets_60 rfl ?_
          refine a_icmp_ne (pc := 61) C 72 dX10_bets_61 rfl (fun c11 => ?_) (fun c11 => ?_)
          · replace h := iteT c11 h
            refine a_aload_n (pc := 72) C dX10_bets_72 rfl 1 rfl ?_
            refine gf_10_6 (pc := 73) C wd_432 dX10_bets_73 ?_
            refine a_callVI (pc := 76) C [] (ok_fBets_isSure X.l X.N q10) rfl mw_X0_isSure wd_848 rfl rfl rfl rfl rfl rfl rfl dX10_bets_76 (fun z12 => ?_)
            refine a_if_eq (pc := 79) C 86 dX10_bets_79 rfl (fun c13 => ?_) (fun c13 => ?_)
            · replace h := iteT c13 h
              refine a_iconst (pc := 86) C 0 dX10_bets_86 rfl ?_
              exact a_iret (pc := 87) C E rfl (som1 h) (som2 h) dX10_bets_87
            · replace h := iteF c13 h
              refine a_iconst (pc := 82) C 1 dX10_bets_82 rfl ?_
              refine a_goto (pc := 83) C 87 dX10_bets_83 rfl ?_
              exact a_iret (pc := 87) C E rfl (som1 h) (som2 h) dX10_bets_87
          · replace h := iteF c11 h
            refine a_aload_n (pc := 64) C dX10_bets_64 rfl 1 rfl ?_
            refine gf_10_6 (pc := 65) C wd_432 dX10_bets_65 ?_
            refine gf_0_2 (pc := 68) C wd_416 dX10_bets_68 ?_
            exact a_iret (pc := 71) C E rfl (som1 h) (som2 h) dX10_bets_71
        · replace h := iteF c7 h
          refine a_iload_n (pc := 32) C dX10_bets_32 rfl 0 rfl ?_
          exact a_iret (pc := 33) C E rfl (som1 h) (som2 h) dX10_bets_33
      · replace h := iteF c4 h
        refine a_iconst (pc := 16) C (-1) dX10_bets_16 rfl ?_
        exact a_iret (pc := 17) C E rfl (som1 h) (som2 h) dX10_bets_17
set_option maxHeartbeats 200000 in
set_option maxRecDepth 100000 in
theorem ok_fSh_margin (l : Launch) (N : Rig) (M : Mem) (x1 : Int32) (x2 : Int32) {r : Int64} {M0 : Mem} (h : fSh_margin M x1 x2 = some (r, M0)) : Ct l N yX10_margin cX10_margin 3 (some .long) 3 [.ref (N.2.1 0), .int x1, .int x2] M (QcL N r M0) := by
  refine ct_of (by decide) rfl ?_
  intro X el eN eL C E
  subst el
  subst eN
  unfold fSh_margin at h
  show WA X M [(0, .ref (X.N.2.1 0)), (1, .int x1), (2, .int x2)] 0 []
  refine a_iload_n (pc := 0) C dX10_margin_0 rfl 1 rfl ?_
  refine a_callSI (pc := 1) C [.int x1] (ok_fShelves_isShelf X.l X.N M x1) rfl mw_X4_isShelf wd_479 rfl rfl rfl dX10_margin_1 (fun z1 => ?_)
  refine a_if_eq (pc := 4) C 28 dX10_margin_4 rfl (fun c2 => ?_) (fun c2 => ?_)
  · replace h := iteT c2 h
    refine a_ldc2_w (pc := 28) C (v := (-9223372036854775808)) dX10_margin_28 wd_749 ?_
    exact a_lret (pc := 31) C E (som1 h) (som2 h) dX10_margin_31
  · replace h := iteF c2 h
    refine a_iload_n (pc := 7) C dX10_margin_7 rfl 2 rfl ?_
    refine a_if_lt (pc := 8) C 28 dX10_margin_8 rfl (fun c3 => ?_) (fun c3 => ?_)
    · replace h := iteT c3 h
      refine a_ldc2_w (pc := 28) C (v := (-9223372036854775808)) dX10_margin_28 wd_749 ?_
      exact a_lret (pc := 31) C E (som1 h) (som2 h) dX10_margin_31
    · replace h := iteF c3 h
      refine a_iload_n (pc := 11) C dX10_margin_11 rfl 2 rfl ?_
      refine a_iconst (pc := 12) C 1 dX10_margin_12 rfl ?_
      refine a_icmp_gt (pc := 13) C 28 dX10_margin_13 rfl (fun c4 => ?_) (fun c4 => ?_)
      · replace h := iteT c4 h
        refine a_ldc2_w (pc := 28) C (v := (-9223372036854775808)) dX10_margin_28 wd_749 ?_
        exact a_lret (pc := 31) C E (som1 h) (som2 h) dX10_margin_31
      · replace h := iteF c4 h
        refine a_aload_n (pc := 16) C dX10_margin_16 rfl 0 rfl ?_
        refine gf_10_5 (pc := 17) C wd_431 dX10_margin_17 ?_
        refine a_iload_n (pc := 20) C dX10_margin_20 rfl 1 rfl ?_
        refine a_iconst (pc := 21) C 1 dX10_margin_21 rfl ?_
        obtain ⟨v5, ev5, h⟩ := bndS h
        refine a_callVI (pc := 22) C [.int x1, .int 1] (ok_fShelves_isRowOf X.l X.N M x1 1 ev5) rfl mw_X4_isRowOf wd_486 rfl rfl rfl rfl rfl rfl rfl dX10_margin_22 (fun z6 => ?_)
        refine a_if_ne (pc := 25) C 32 dX10_margin_25 rfl (fun c7 => ?_) (fun c7 => ?_)
        · replace h := iteT c7 h
          refine a_aload_n (pc := 32) C dX10_margin_32 rfl 0 rfl ?_
          refine gf_10_6 (pc := 33) C wd_432 dX10_margin_33 ?_
          refine a_aload_n (pc := 36) C dX10_margin_36 rfl 0 rfl ?_
          refine gf_10_5 (pc := 37) C wd_431 dX10_margin_37 ?_
          refine gf_4_2 (pc := 40) C wd_396 dX10_margin_40 ?_
          refine a_iload_n (pc := 43) C dX10_margin_43 rfl 1 rfl ?_
          obtain ⟨k8, ek8, h⟩ := bndS h
          have hk8 := rw_of ek8
          refine a_aald (pc := 44) C ek8 dX10_margin_44 ?_
          refine a_aload_n (pc := 45) C dX10_margin_45 rfl 0 rfl ?_
          refine gf_10_5 (pc := 46) C wd_431 dX10_margin_46 ?_
          refine gf_4_1 (pc := 49) C wd_394 dX10_margin_49 ?_
          refine a_iload_n (pc := 52) C dX10_margin_52 rfl 1 rfl ?_
          obtain ⟨v9, ev9, h⟩ := bndS h
          refine a_iald (pc := 53) C rfl ev9 dX10_margin_53 ?_
          obtain ⟨q10, eq10, h⟩ := bndS h
          refine a_callVV (pc := 54) C [.ref (X.N.2.1 k8), .int v9] (ok_fBets_read X.l X.N M k8 hk8 v9 eq10) rfl mw_X0_read wd_834 rfl rfl rfl rfl rfl rfl rfl dX10_margin_54 ?_
          refine a_iload_n (pc := 57) C dX10_margin_57 rfl 2 rfl ?_
          refine a_if_ne (pc := 58) C 71 dX10_margin_58 rfl (fun c11 => ?_) (fun c11 => ?_)
          · replace h := iteT c11 h
            refine a_aload_n (pc := 71) C dX10_margin_71 rfl 0 rfl ?_
            refine gf_10_6 (pc := 72) C wd_432 dX10_margin_72 ?_
            refine gf_0_1 (pc := 75) C wd_414 dX10_margin_75 ?_
            exact a_lret (pc := 78) C E (som1 h) (som2 h) dX10_margin_78
          · replace h := iteF c11 h
            refine a_aload_n (pc := 61) C dX10_margin_61 rfl 0 rfl ?_
            refine gf_10_6 (pc := 62) C wd_432 dX10_margin_62 ?_
            refine gf_0_0 (pc := 65) C wd_412 dX10_margin_65 ?_
            refine a_goto (pc := 68) C 78 dX10_margin_68 rfl ?_
            exact a_lret (pc := 78) C E (som1 h) (som2 h) dX10_margin_78
        · replace h := iteF c7 h
          refine a_ldc2_w (pc := 28) C (v := (-9223372036854775808)) dX10_margin_28 wd_749 ?_
          exact a_lret (pc := 31) C E (som1 h) (som2 h) dX10_margin_31
set_option maxHeartbeats 200000 in
set_option maxRecDepth 100000 in
theorem ok_fSh_byTurns (l : Launch) (N : Rig) (M : Mem) (x1 : Int32) (x2 : Int32) (x3 : Int32) {r : Int32} {M0 : Mem} (h : fSh_byTurns M x1 x2 x3 = some (r, M0)) : Ct l N yX10_byTurns cX10_byTurns 6 (some .int) 107 [.ref (N.2.1 0), .int x1, .int x2, .int x3] M (QcI N (some .int) r M0) := by
  refine ct_of (by decide) rfl ?_
  intro X el eN eL C E
  subst el
  subst eN
  unfold fSh_byTurns at h
  show WA X M [(0, .ref (X.N.2.1 0)), (1, .int x1), (2, .int x2), (3, .int x3)] 0 []
  refine a_iload_n (pc := 0) C dX10_byTurns_0 rfl 1 rfl ?_
  refine a_if_lt (pc := 1) C 43 dX10_byTurns_1 rfl (fun c1 => ?_) (fun c1 => ?_)
  · replace h := iteT c1 h
    refine a_ldc (pc := 43) C (v := (-2000000000)) dX10_byTurns_43 wd_754 ?_
    exact a_iret (pc := 45) C E rfl (som1 h) (som2 h) dX10_byTurns_45
  · replace h := iteF c1 h
    refine a_aload_n (pc := 4) C dX10_byTurns_4 rfl 0 rfl ?_
    refine gf_10_0 (pc := 5) C wd_426 dX10_byTurns_5 ?_
    refine a_iload_n (pc := 8) C dX10_byTurns_8 rfl 1 rfl ?_
    refine a_bipush (pc := 9) C 10 dX10_byTurns_9 rfl ?_
    refine a_idiv (pc := 11) C dX10_byTurns_11 (by decide) ?_
    refine a_callVI (pc := 12) C [.int (x1 / 10)] (ok_fWorld_isPerson X.l X.N M (x1 / 10)) rfl mw_X9_isPerson wd_691 rfl rfl rfl rfl rfl rfl rfl dX10_byTurns_12 (fun z2 => ?_)
    refine a_if_eq (pc := 15) C 43 dX10_byTurns_15 rfl (fun c3 => ?_) (fun c3 => ?_)
    · replace h := iteT c3 h
      refine a_ldc (pc := 43) C (v := (-2000000000)) dX10_byTurns_43 wd_754 ?_
      exact a_iret (pc := 45) C E rfl (som1 h) (som2 h) dX10_byTurns_45
    · replace h := iteF c3 h
      refine a_aload_n (pc := 18) C dX10_byTurns_18 rfl 0 rfl ?_
      refine gf_10_0 (pc := 19) C wd_426 dX10_byTurns_19 ?_
      refine a_iload_n (pc := 22) C dX10_byTurns_22 rfl 1 rfl ?_
      refine a_bipush (pc := 23) C 10 dX10_byTurns_23 rfl ?_
      refine a_irem (pc := 25) C dX10_byTurns_25 (by decide) ?_
      refine a_callVI (pc := 26) C [.int (rmI x1 10)] (ok_fWorld_isPerson X.l X.N M (rmI x1 10)) rfl mw_X9_isPerson wd_691 rfl rfl rfl rfl rfl rfl rfl dX10_byTurns_26 (fun z4 => ?_)
      refine a_if_eq (pc := 29) C 43 dX10_byTurns_29 rfl (fun c5 => ?_) (fun c5 => ?_)
      · replace h := iteT c5 h
        refine a_ldc (pc := 43) C (v := (-2000000000)) dX10_byTurns_43 wd_754 ?_
        exact a_iret (pc := 45) C E rfl (som1 h) (som2 h) dX10_byTurns_45
      · replace h := iteF c5 h
        refine a_iload_n (pc := 32) C dX10_byTurns_32 rfl 1 rfl ?_
        refine a_bipush (pc := 33) C 10 dX10_byTurns_33 rfl ?_
        refine a_idiv (pc := 35) C dX10_byTurns_35 (by decide) ?_
        refine a_iload_n (pc := 36) C dX10_byTurns_36 rfl 1 rfl ?_
        refine a_bipush (pc := 37) C 10 dX10_byTurns_37 rfl ?_
        refine a_irem (pc := 39) C dX10_byTurns_39 (by decide) ?_
        refine a_icmp_ne (pc := 40) C 46 dX10_byTurns_40 rfl (fun c6 => ?_) (fun c6 => ?_)
        · replace h := iteT c6 h
          refine a_iload_n (pc := 46) C dX10_byTurns_46 rfl 2 rfl ?_
          refine a_bipush (pc := 47) C 10 dX10_byTurns_47 rfl ?_
          refine a_idiv (pc := 49) C dX10_byTurns_49 (by decide) ?_
          refine a_bipush (pc := 50) C 10 dX10_byTurns_50 rfl ?_
          refine a_irem (pc := 52) C dX10_byTurns_52 (by decide) ?_
          refine a_istore (pc := 53) C [(4, .int (rmI (x2 / 10) 10)), (0, .ref (X.N.2.1 0)), (1, .int x1), (2, .int x2), (3, .int x3)] dX10_byTurns_53 (nlt eL rfl) rfl ?_
          refine a_iload_n (pc := 55) C dX10_byTurns_55 rfl 3 rfl ?_
          refine a_if_lt (pc := 56) C 98 dX10_byTurns_56 rfl (fun c7 => ?_) (fun c7 => ?_)
          · replace h := iteT c7 h
            refine a_ldc (pc := 98) C (v := (-2000000000)) dX10_byTurns_98 wd_754 ?_
            exact a_iret (pc := 100) C E rfl (som1 h) (som2 h) dX10_byTurns_100
          · replace h := iteF c7 h
            refine a_iload_n (pc := 59) C dX10_byTurns_59 rfl 3 rfl ?_
            refine a_bipush (pc := 60) C 100 dX10_byTurns_60 rfl ?_
            refine a_idiv (pc := 62) C dX10_byTurns_62 (by decide) ?_
            refine a_bipush (pc := 63) C 6 dX10_byTurns_63 rfl ?_
            refine a_icmp_ge (pc := 65) C 98 dX10_byTurns_65 rfl (fun c8 => ?_) (fun c8 => ?_)
            · replace h := iteT c8 h
              refine a_ldc (pc := 98) C (v := (-2000000000)) dX10_byTurns_98 wd_754 ?_
              exact a_iret (pc := 100) C E rfl (som1 h) (som2 h) dX10_byTurns_100
            · replace h := iteF c8 h
              refine a_iload (pc := 68) C dX10_byTurns_68 0 rfl ?_
              refine a_iconst (pc := 70) C 1 dX10_byTurns_70 rfl ?_
              refine a_icmp_lt (pc := 71) C 98 dX10_byTurns_71 rfl (fun c9 => ?_) (fun c9 => ?_)
              · replace h := iteT c9 h
                refine a_ldc (pc := 98) C (v := (-2000000000)) dX10_byTurns_98 wd_754 ?_
                exact a_iret (pc := 100) C E rfl (som1 h) (som2 h) dX10_byTurns_100
              · replace h := iteF c9 h
                refine a_iload (pc := 74) C dX10_byTurns_74 0 rfl ?_
                refine a_iconst (pc := 76) C 3 dX10_byTurns_76 rfl ?_
                refine a_icmp_gt (pc := 77) C 98 dX10_byTurns_77 rfl (fun c10 => ?_) (fun c10 => ?_)
                · replace h := iteT c10 h
                  refine a_ldc (pc := 98) C (v := (-2000000000)) dX10_byTurns_98 wd_754 ?_
                  exact a_iret (pc := 100) C E rfl (som1 h) (som2 h) dX10_byTurns_100
                · replace h := iteF c10 h
                  refine a_iload_n (pc := 80) C dX10_byTurns_80 rfl 3 rfl ?_
                  refine a_bipush (pc := 81) C 10 dX10_byTurns_81 rfl ?_
                  refine a_irem (pc := 83) C dX10_byTurns_83 (by decide) ?_
                  refine a_bipush (pc := 84) C 6 dX10_byTurns_84 rfl ?_
                  refine a_icmp_gt (pc := 86) C 98 dX10_byTurns_86 rfl (fun c11 => ?_) (fun c11 => ?_)
                  · replace h := iteT c11 h
                    refine a_ldc (pc := 98) C (v := (-2000000000)) dX10_byTurns_98 wd_754 ?_
                    exact a_iret (pc := 100) C E rfl (som1 h) (som2 h) dX10_byTurns_100
                  · replace h := iteF c11 h
                    refine a_iload_n (pc := 89) C dX10_byTurns_89 rfl 4 rfl ?_
                    refine a_if_lt (pc := 90) C 98 dX10_byTurns_90 rfl (fun c12 => ?_) (fun c12 => ?_)
                    · replace h := iteT c12 h
                      refine a_ldc (pc := 98) C (v := (-2000000000)) dX10_byTurns_98 wd_754 ?_
                      exact a_iret (pc := 100) C E rfl (som1 h) (som2 h) dX10_byTurns_100
                    · replace h := iteF c12 h
                      refine a_iload_n (pc := 93) C dX10_byTurns_93 rfl 4 rfl ?_
                      refine a_iconst (pc := 94) C 1 dX10_byTurns_94 rfl ?_
                      refine a_icmp_le (pc := 95) C 101 dX10_byTurns_95 rfl (fun c13 => ?_) (fun c13 => ?_)
                      · replace h := iteT c13 h
                        refine a_aload_n (pc := 101) C dX10_byTurns_101 rfl 1 rfl ?_
                        refine gf_10_2 (pc := 102) C wd_428 dX10_byTurns_102 ?_
                        refine a_aload_n (pc := 105) C dX10_byTurns_105 rfl 1 rfl ?_
                        refine gf_10_0 (pc := 106) C wd_426 dX10_byTurns_106 ?_
                        refine a_iload_n (pc := 109) C dX10_byTurns_109 rfl 2 rfl ?_
                        refine a_bipush (pc := 110) C 10 dX10_byTurns_110 rfl ?_
                        refine a_idiv (pc := 112) C dX10_byTurns_112 (by decide) ?_
                        refine a_iload_n (pc := 113) C dX10_byTurns_113 rfl 2 rfl ?_
                        refine a_bipush (pc := 114) C 10 dX10_byTurns_114 rfl ?_
                        refine a_irem (pc := 116) C dX10_byTurns_116 (by decide) ?_
                        refine a_iload_n (pc := 117) C dX10_byTurns_117 rfl 3 rfl ?_
                        refine a_bipush (pc := 118) C 100 dX10_byTurns_118 rfl ?_
                        refine a_idiv (pc := 120) C dX10_byTurns_120 (by decide) ?_
                        refine a_iload (pc := 121) C dX10_byTurns_121 0 rfl ?_
                        refine a_iload_n (pc := 123) C dX10_byTurns_123 rfl 3 rfl ?_
                        refine a_bipush (pc := 124) C 10 dX10_byTurns_124 rfl ?_
                        refine a_irem (pc := 126) C dX10_byTurns_126 (by decide) ?_
                        obtain ⟨q14, eq14, h⟩ := bndS h
                        refine a_callVI (pc := 127) C [.ref (X.N.2.1 1), .int (x1 / 10), .int (rmI x1 10), .int (x2 / 100), .int (rmI (x2 / 10) 10), .int (rmI x2 10)] (ok_fTurns_play X.l X.N M (x1 / 10) (rmI x1 10) (x2 / 100) (rmI (x2 / 10) 10) (rmI x2 10) eq14) rfl mw_X8_play wd_860 rfl rfl rfl rfl rfl rfl rfl dX10_byTurns_127 (fun z15 => ?_)
                        refine a_istore (pc := 130) C [(5, .int q14.1), (4, .int (rmI (x2 / 10) 10)), (0, .ref (X.N.2.1 0)), (1, .int x1), (2, .int x2), (3, .int x3)] dX10_byTurns_130 (nlt eL rfl) rfl ?_
                        refine a_iload_n (pc := 132) C dX10_byTurns_132 rfl 5 rfl ?_
                        refine a_if_ne (pc := 133) C 141 dX10_byTurns_133 rfl (fun c16 => ?_) (fun c16 => ?_)
                        · replace h := iteT c16 h
                          refine a_aload_n (pc := 141) C dX10_byTurns_141 rfl 2 rfl ?_
                          refine gf_10_2 (pc := 142) C wd_428 dX10_byTurns_142 ?_
                          refine gf_8_7 (pc := 145) C wd_312 dX10_byTurns_145 ?_
                          exact a_iret (pc := 148) C E rfl (som1 h) (som2 h) dX10_byTurns_148
                        · replace h := iteF c16 h
                          refine a_iload (pc := 136) C dX10_byTurns_136 0 rfl ?_
                          refine a_goto (pc := 138) C 148 dX10_byTurns_138 rfl ?_
                          exact a_iret (pc := 148) C E rfl (som1 h) (som2 h) dX10_byTurns_148
                      · replace h := iteF c13 h
                        refine a_ldc (pc := 98) C (v := (-2000000000)) dX10_byTurns_98 wd_754 ?_
                        exact a_iret (pc := 100) C E rfl (som1 h) (som2 h) dX10_byTurns_100
        · replace h := iteF c6 h
          refine a_ldc (pc := 43) C (v := (-2000000000)) dX10_byTurns_43 wd_754 ?_
          exact a_iret (pc := 45) C E rfl (som1 h) (som2 h) dX10_byTurns_45
set_option maxHeartbeats 200000 in
set_option maxRecDepth 100000 in
theorem ok_fSh_drawn_J75 {X : Amb} (eL : X.nL = 6) (C : Cx X RX10 cX10_drawn 5) (r : Int32) (M0 : Mem) (E : En X (some .int) (QcI X.N (some .int) r M0)) (M : Mem) (x1 : Int32) (x2 : Int32) (x3 : Int32) (x4 : Int32) (x5 : Int32) (h : fSh_drawn_J75 M x1 x2 x3 x4 x5 = some (r, M0)) : WA X M [(0, .ref (X.N.2.1 0)), (1, .int x1), (2, .int x2), (3, .int x3), (4, .int x4), (5, .int x5)] 75 [] := by
  unfold fSh_drawn_J75 at h
  refine a_aload_n (pc := 75) C dX10_drawn_75 rfl 0 rfl ?_
  refine gf_10_1 (pc := 76) C wd_427 dX10_drawn_76 ?_
  refine a_aload_n (pc := 79) C dX10_drawn_79 rfl 0 rfl ?_
  refine gf_10_0 (pc := 80) C wd_426 dX10_drawn_80 ?_
  refine a_iload_n (pc := 83) C dX10_drawn_83 rfl 1 rfl ?_
  refine a_iload (pc := 84) C dX10_drawn_84 4 rfl ?_
  refine a_iload (pc := 86) C dX10_drawn_86 5 rfl ?_
  refine a_iload_n (pc := 88) C dX10_drawn_88 rfl 2 rfl ?_
  refine a_bipush (pc := 89) C 100 dX10_drawn_89 rfl ?_
  refine a_irem (pc := 91) C dX10_drawn_91 (by decide) ?_
  refine a_iload_n (pc := 92) C dX10_drawn_92 rfl 3 rfl ?_
  obtain ⟨q8, eq8, h⟩ := bndS h
  refine a_callVI (pc := 93) C [.ref (X.N.2.1 1), .int x1, .int x4, .int x5, .int (rmI x2 100), .int x3] (ok_fThought_byDraws X.l X.N M x1 x4 x5 (rmI x2 100) x3 eq8) rfl mw_X6_byDraws wd_883 rfl rfl rfl rfl rfl rfl rfl dX10_drawn_93 (fun z9 => ?_)
  exact a_iret (pc := 96) C E rfl (som1 h) (som2 h) dX10_drawn_96
set_option maxHeartbeats 200000 in
set_option maxRecDepth 100000 in
theorem ok_fSh_drawn (l : Launch) (N : Rig) (M : Mem) (x1 : Int32) (x2 : Int32) (x3 : Int32) {r : Int32} {M0 : Mem} (h : fSh_drawn M x1 x2 x3 = some (r, M0)) : Ct l N yX10_drawn cX10_drawn 6 (some .int) 5 [.ref (N.2.1 0), .int x1, .int x2, .int x3] M (QcI N (some .int) r M0) := by
  refine ct_of (by decide) rfl ?_
  intro X el eN eL C E
  subst el
  subst eN
  unfold fSh_drawn at h
  show WA X M [(0, .ref (X.N.2.1 0)), (1, .int x1), (2, .int x2), (3, .int x3)] 0 []
  refine a_iload_n (pc := 0) C dX10_drawn_0 rfl 2 rfl ?_
  refine a_sipush (pc := 1) C 10000 dX10_drawn_1 rfl ?_
  refine a_idiv (pc := 4) C dX10_drawn_4 (by decide) ?_
  refine a_istore (pc := 5) C [(4, .int (x2 / 10000)), (0, .ref (X.N.2.1 0)), (1, .int x1), (2, .int x2), (3, .int x3)] dX10_drawn_5 (nlt eL rfl) rfl ?_
  refine a_iload_n (pc := 7) C dX10_drawn_7 rfl 3 rfl ?_
  refine a_bipush (pc := 8) C 100 dX10_drawn_8 rfl ?_
  refine a_idiv (pc := 10) C dX10_drawn_10 (by decide) ?_
  refine a_bipush (pc := 11) C 100 dX10_drawn_11 rfl ?_
  refine a_irem (pc := 13) C dX10_drawn_13 (by decide) ?_
  refine a_istore (pc := 14) C [(5, .int (rmI (x2 / 100) 100)), (4, .int (x2 / 10000)), (0, .ref (X.N.2.1 0)), (1, .int x1), (2, .int x2), (3, .int x3)] dX10_drawn_14 (nlt eL rfl) rfl ?_
  refine a_iload_n (pc := 16) C dX10_drawn_16 rfl 4 rfl ?_
  refine a_if_lt (pc := 17) C 55 dX10_drawn_17 rfl (fun c1 => ?_) (fun c1 => ?_)
  · replace h := iteT c1 h
    refine a_iconst (pc := 55) C (-1) dX10_drawn_55 rfl ?_
    exact a_iret (pc := 56) C E rfl (som1 h) (som2 h) dX10_drawn_56
  · replace h := iteF c1 h
    refine a_iload (pc := 20) C dX10_drawn_20 1 rfl ?_
    refine a_iconst (pc := 22) C 1 dX10_drawn_22 rfl ?_
    refine a_icmp_lt (pc := 23) C 55 dX10_drawn_23 rfl (fun c2 => ?_) (fun c2 => ?_)
    · replace h := iteT c2 h
      refine a_iconst (pc := 55) C (-1) dX10_drawn_55 rfl ?_
      exact a_iret (pc := 56) C E rfl (som1 h) (som2 h) dX10_drawn_56
    · replace h := iteF c2 h
      refine a_iload (pc := 26) C dX10_drawn_26 1 rfl ?_
      refine a_bipush (pc := 28) C 30 dX10_drawn_28 rfl ?_
      refine a_icmp_gt (pc := 30) C 55 dX10_drawn_30 rfl (fun c3 => ?_) (fun c3 => ?_)
      · replace h := iteT c3 h
        refine a_iconst (pc := 55) C (-1) dX10_drawn_55 rfl ?_
        exact a_iret (pc := 56) C E rfl (som1 h) (som2 h) dX10_drawn_56
      · replace h := iteF c3 h
        refine a_iload (pc := 33) C dX10_drawn_33 0 rfl ?_
        refine a_iconst (pc := 35) C 1 dX10_drawn_35 rfl ?_
        refine a_icmp_lt (pc := 36) C 55 dX10_drawn_36 rfl (fun c4 => ?_) (fun c4 => ?_)
        · replace h := iteT c4 h
          refine a_iconst (pc := 55) C (-1) dX10_drawn_55 rfl ?_
          exact a_iret (pc := 56) C E rfl (som1 h) (som2 h) dX10_drawn_56
        · replace h := iteF c4 h
          refine a_iload (pc := 39) C dX10_drawn_39 0 rfl ?_
          refine a_bipush (pc := 41) C 40 dX10_drawn_41 rfl ?_
          refine a_icmp_gt (pc := 43) C 55 dX10_drawn_43 rfl (fun c5 => ?_) (fun c5 => ?_)
          · replace h := iteT c5 h
            refine a_iconst (pc := 55) C (-1) dX10_drawn_55 rfl ?_
            exact a_iret (pc := 56) C E rfl (som1 h) (som2 h) dX10_drawn_56
          · replace h := iteF c5 h
            refine a_iload_n (pc := 46) C dX10_drawn_46 rfl 4 rfl ?_
            refine a_bipush (pc := 47) C 100 dX10_drawn_47 rfl ?_
            refine a_irem (pc := 49) C dX10_drawn_49 (by decide) ?_
            refine a_bipush (pc := 50) C 12 dX10_drawn_50 rfl ?_
            refine a_icmp_le (pc := 52) C 57 dX10_drawn_52 rfl (fun c6 => ?_) (fun c6 => ?_)
            · replace h := iteT c6 h
              refine a_iload_n (pc := 57) C dX10_drawn_57 rfl 5 rfl ?_
              refine a_iconst (pc := 58) C (-1) dX10_drawn_58 rfl ?_
              refine a_icmp_eq (pc := 59) C 75 dX10_drawn_59 rfl (fun c7 => ?_) (fun c7 => ?_)
              · replace h := iteT c7 h
                refine a_sub (lv2 := [(0, .ref (X.N.2.1 0)), (1, .int x1), (2, .int x2), (3, .int x3), (4, .int (x2 / 10000)), (5, .int (rmI (x2 / 100) 100))]) [2, 3, 4, 5, 1, 0] rfl ?_
                exact ok_fSh_drawn_J75 eL C r M0 E M x1 x2 x3 (x2 / 10000) (rmI (x2 / 100) 100) h
              · replace h := iteF c7 h
                refine a_aload_n (pc := 62) C dX10_drawn_62 rfl 2 rfl ?_
                refine gf_10_0 (pc := 63) C wd_426 dX10_drawn_63 ?_
                refine a_iload_n (pc := 66) C dX10_drawn_66 rfl 5 rfl ?_
                refine a_callVI (pc := 67) C [.int x3] (ok_fWorld_isPerson X.l X.N M x3) rfl mw_X9_isPerson wd_691 rfl rfl rfl rfl rfl rfl rfl dX10_drawn_67 (fun z10 => ?_)
                refine a_if_ne (pc := 70) C 75 dX10_drawn_70 rfl (fun c11 => ?_) (fun c11 => ?_)
                · replace h := iteT c11 h
                  refine a_sub (lv2 := [(0, .ref (X.N.2.1 0)), (1, .int x1), (2, .int x2), (3, .int x3), (4, .int (x2 / 10000)), (5, .int (rmI (x2 / 100) 100))]) [2, 3, 4, 5, 1, 0] rfl ?_
                  exact ok_fSh_drawn_J75 eL C r M0 E M x1 x2 x3 (x2 / 10000) (rmI (x2 / 100) 100) h
                · replace h := iteF c11 h
                  refine a_iconst (pc := 73) C (-1) dX10_drawn_73 rfl ?_
                  exact a_iret (pc := 74) C E rfl (som1 h) (som2 h) dX10_drawn_74
            · replace h := iteF c6 h
              refine a_iconst (pc := 55) C (-1) dX10_drawn_55 rfl ?_
              exact a_iret (pc := 56) C E rfl (som1 h) (som2 h) dX10_drawn_56
set_option maxHeartbeats 200000 in
set_option maxRecDepth 100000 in
theorem ok_fSh_hour (l : Launch) (N : Rig) (M : Mem) {r : Int32} {M0 : Mem} (h : fSh_hour M = some (r, M0)) : Ct l N yX10_hour cX10_hour 1 (some .int) 4 [.ref (N.2.1 0)] M (QcI N (some .int) r M0) := by
  refine ct_of (by decide) rfl ?_
  intro X el eN eL C E
  subst el
  subst eN
  unfold fSh_hour at h
  show WA X M [(0, .ref (X.N.2.1 0))] 0 []
  refine a_aload_n (pc := 0) C dX10_hour_0 rfl 0 rfl ?_
  refine gf_10_0 (pc := 1) C wd_426 dX10_hour_1 ?_
  refine gf_9_1 (pc := 4) C wd_257 dX10_hour_4 ?_
  refine a_aload_n (pc := 7) C dX10_hour_7 rfl 0 rfl ?_
  refine gf_10_0 (pc := 8) C wd_426 dX10_hour_8 ?_
  refine gf_9_0 (pc := 11) C wd_253 dX10_hour_11 ?_
  refine a_aload_n (pc := 14) C dX10_hour_14 rfl 0 rfl ?_
  refine gf_10_0 (pc := 15) C wd_426 dX10_hour_15 ?_
  refine gf_9_2 (pc := 18) C wd_261 dX10_hour_18 ?_
  obtain ⟨q1, eq1, h⟩ := bndS h
  refine a_callVV (pc := 21) C [.ref (X.N.2.1 2), .ref (X.N.2.1 7)] (ok_fStreet_pass X.l X.N M 36 st36 eq1) rfl mw_X5_pass wd_900 (st_shp st36) (st_blt st36) rfl rfl rfl rfl rfl dX10_hour_21 ?_
  refine a_aload_n (pc := 24) C dX10_hour_24 rfl 0 rfl ?_
  refine gf_10_7 (pc := 25) C wd_433 dX10_hour_25 ?_
  refine a_iconst (pc := 28) C 0 dX10_hour_28 rfl ?_
  refine a_dup2 (pc := 29) C dX10_hour_29 rfl rfl ?_
  obtain ⟨v2, ev2, h⟩ := bndS h
  refine a_iald (pc := 30) C rfl ev2 dX10_hour_30 ?_
  refine a_iconst (pc := 31) C 1 dX10_hour_31 rfl ?_
  refine a_iadd (pc := 32) C dX10_hour_32 ?_
  obtain ⟨M3, eM3, h⟩ := bndS h
  refine a_iast (pc := 33) C rfl eM3 dX10_hour_33 ?_
  refine a_aload_n (pc := 34) C dX10_hour_34 rfl 0 rfl ?_
  refine gf_10_7 (pc := 35) C wd_433 dX10_hour_35 ?_
  refine a_iconst (pc := 38) C 1 dX10_hour_38 rfl ?_
  refine a_dup2 (pc := 39) C dX10_hour_39 rfl rfl ?_
  obtain ⟨v4, ev4, h⟩ := bndS h
  refine a_iald (pc := 40) C rfl ev4 dX10_hour_40 ?_
  refine a_aload_n (pc := 41) C dX10_hour_41 rfl 0 rfl ?_
  refine gf_10_0 (pc := 42) C wd_426 dX10_hour_42 ?_
  refine gf_9_1 (pc := 45) C wd_257 dX10_hour_45 ?_
  refine gf_5_5 (pc := 48) C st36 wd_175 dX10_hour_48 ?_
  refine a_iadd (pc := 51) C dX10_hour_51 ?_
  obtain ⟨M5, eM5, h⟩ := bndS h
  refine a_iast (pc := 52) C rfl eM5 dX10_hour_52 ?_
  refine a_aload_n (pc := 53) C dX10_hour_53 rfl 0 rfl ?_
  refine gf_10_7 (pc := 54) C wd_433 dX10_hour_54 ?_
  refine a_iconst (pc := 57) C 2 dX10_hour_57 rfl ?_
  refine a_dup2 (pc := 58) C dX10_hour_58 rfl rfl ?_
  obtain ⟨v6, ev6, h⟩ := bndS h
  refine a_iald (pc := 59) C rfl ev6 dX10_hour_59 ?_
  refine a_aload_n (pc := 60) C dX10_hour_60 rfl 0 rfl ?_
  refine gf_10_0 (pc := 61) C wd_426 dX10_hour_61 ?_
  refine gf_9_1 (pc := 64) C wd_257 dX10_hour_64 ?_
  refine gf_5_6 (pc := 67) C st36 wd_177 dX10_hour_67 ?_
  refine a_iadd (pc := 70) C dX10_hour_70 ?_
  obtain ⟨M7, eM7, h⟩ := bndS h
  refine a_iast (pc := 71) C rfl eM7 dX10_hour_71 ?_
  refine a_aload_n (pc := 72) C dX10_hour_72 rfl 0 rfl ?_
  refine gf_10_0 (pc := 73) C wd_426 dX10_hour_73 ?_
  refine gf_9_1 (pc := 76) C wd_257 dX10_hour_76 ?_
  refine gf_5_5 (pc := 79) C st36 wd_175 dX10_hour_79 ?_
  exact a_iret (pc := 82) C E rfl (som1 h) (som2 h) dX10_hour_82
set_option maxHeartbeats 200000 in
set_option maxRecDepth 100000 in
theorem ok_fSh_pour (l : Launch) (N : Rig) (M : Mem) (x1 : Int32) (x2 : Int32) {r : Int32} {M0 : Mem} (h : fSh_pour M x1 x2 = some (r, M0)) : Ct l N yX10_pour cX10_pour 3 (some .int) 2 [.ref (N.2.1 0), .int x1, .int x2] M (QcI N (some .int) r M0) := by
  refine ct_of (by decide) rfl ?_
  intro X el eN eL C E
  subst el
  subst eN
  unfold fSh_pour at h
  show WA X M [(0, .ref (X.N.2.1 0)), (1, .int x1), (2, .int x2)] 0 []
  refine a_iload_n (pc := 0) C dX10_pour_0 rfl 1 rfl ?_
  refine a_callSI (pc := 1) C [.int x1] (ok_fSh_isCell X.l X.N M x1) rfl mw_X10_isCell wd_464 rfl rfl rfl dX10_pour_1 (fun z1 => ?_)
  refine a_if_eq (pc := 4) C 19 dX10_pour_4 rfl (fun c2 => ?_) (fun c2 => ?_)
  · replace h := iteT c2 h
    refine a_iconst (pc := 19) C (-1) dX10_pour_19 rfl ?_
    exact a_iret (pc := 20) C E rfl (som1 h) (som2 h) dX10_pour_20
  · replace h := iteF c2 h
    refine a_iload_n (pc := 7) C dX10_pour_7 rfl 2 rfl ?_
    refine a_iconst (pc := 8) C 1 dX10_pour_8 rfl ?_
    refine a_icmp_lt (pc := 9) C 19 dX10_pour_9 rfl (fun c3 => ?_) (fun c3 => ?_)
    · replace h := iteT c3 h
      refine a_iconst (pc := 19) C (-1) dX10_pour_19 rfl ?_
      exact a_iret (pc := 20) C E rfl (som1 h) (som2 h) dX10_pour_20
    · replace h := iteF c3 h
      refine a_iload_n (pc := 12) C dX10_pour_12 rfl 2 rfl ?_
      refine a_sipush (pc := 13) C 9999 dX10_pour_13 rfl ?_
      refine a_icmp_le (pc := 16) C 21 dX10_pour_16 rfl (fun c4 => ?_) (fun c4 => ?_)
      · replace h := iteT c4 h
        refine a_aload_n (pc := 21) C dX10_pour_21 rfl 0 rfl ?_
        refine gf_10_7 (pc := 22) C wd_433 dX10_pour_22 ?_
        refine a_iconst (pc := 25) C 3 dX10_pour_25 rfl ?_
        refine a_dup2 (pc := 26) C dX10_pour_26 rfl rfl ?_
        obtain ⟨v5, ev5, h⟩ := bndS h
        refine a_iald (pc := 27) C rfl ev5 dX10_pour_27 ?_
        refine a_iload_n (pc := 28) C dX10_pour_28 rfl 2 rfl ?_
        refine a_iadd (pc := 29) C dX10_pour_29 ?_
        obtain ⟨M6, eM6, h⟩ := bndS h
        refine a_iast (pc := 30) C rfl eM6 dX10_pour_30 ?_
        refine a_aload_n (pc := 31) C dX10_pour_31 rfl 0 rfl ?_
        refine gf_10_0 (pc := 32) C wd_426 dX10_pour_32 ?_
        refine gf_9_1 (pc := 35) C wd_257 dX10_pour_35 ?_
        refine a_iload_n (pc := 38) C dX10_pour_38 rfl 1 rfl ?_
        refine a_iload_n (pc := 39) C dX10_pour_39 rfl 2 rfl ?_
        obtain ⟨q7, eq7, h⟩ := bndS h
        refine a_callVI (pc := 40) C [.int x1, .int x2] (ok_fStreet_poured X.l X.N M6 36 st36 x1 x2 eq7) rfl mw_X5_poured wd_905 (st_shp st36) (st_blt st36) rfl rfl rfl rfl rfl dX10_pour_40 (fun z8 => ?_)
        exact a_iret (pc := 43) C E rfl (som1 h) (som2 h) dX10_pour_43
      · replace h := iteF c4 h
        refine a_iconst (pc := 19) C (-1) dX10_pour_19 rfl ?_
        exact a_iret (pc := 20) C E rfl (som1 h) (som2 h) dX10_pour_20
set_option maxHeartbeats 200000 in
set_option maxRecDepth 100000 in
theorem ok_fSh_hang (l : Launch) (N : Rig) (M : Mem) (x1 : Int32) (x2 : Int32) {r : Int32} {M0 : Mem} (h : fSh_hang M x1 x2 = some (r, M0)) : Ct l N yX10_hang cX10_hang 4 (some .int) 1 [.ref (N.2.1 0), .int x1, .int x2] M (QcI N (some .int) r M0) := by
  refine ct_of (by decide) rfl ?_
  intro X el eN eL C E
  subst el
  subst eN
  unfold fSh_hang at h
  show WA X M [(0, .ref (X.N.2.1 0)), (1, .int x1), (2, .int x2)] 0 []
  refine a_iload_n (pc := 0) C dX10_hang_0 rfl 1 rfl ?_
  refine a_callSI (pc := 1) C [.int x1] (ok_fSh_isCell X.l X.N M x1) rfl mw_X10_isCell wd_464 rfl rfl rfl dX10_hang_1 (fun z1 => ?_)
  refine a_if_eq (pc := 4) C 16 dX10_hang_4 rfl (fun c2 => ?_) (fun c2 => ?_)
  · replace h := iteT c2 h
    refine a_iconst (pc := 16) C (-1) dX10_hang_16 rfl ?_
    exact a_iret (pc := 17) C E rfl (som1 h) (som2 h) dX10_hang_17
  · replace h := iteF c2 h
    refine a_iload_n (pc := 7) C dX10_hang_7 rfl 2 rfl ?_
    refine a_if_lt (pc := 8) C 16 dX10_hang_8 rfl (fun c3 => ?_) (fun c3 => ?_)
    · replace h := iteT c3 h
      refine a_iconst (pc := 16) C (-1) dX10_hang_16 rfl ?_
      exact a_iret (pc := 17) C E rfl (som1 h) (som2 h) dX10_hang_17
    · replace h := iteF c3 h
      refine a_iload_n (pc := 11) C dX10_hang_11 rfl 2 rfl ?_
      refine a_iconst (pc := 12) C 3 dX10_hang_12 rfl ?_
      refine a_icmp_lt (pc := 13) C 18 dX10_hang_13 rfl (fun c4 => ?_) (fun c4 => ?_)
      · replace h := iteT c4 h
        refine a_aload_n (pc := 18) C dX10_hang_18 rfl 0 rfl ?_
        refine gf_10_0 (pc := 19) C wd_426 dX10_hang_19 ?_
        refine gf_9_1 (pc := 22) C wd_257 dX10_hang_22 ?_
        refine gf_5_1 (pc := 25) C st36 wd_161 dX10_hang_25 ?_
        refine a_iload_n (pc := 28) C dX10_hang_28 rfl 1 rfl ?_
        obtain ⟨v5, ev5, h⟩ := bndS h
        refine a_iald (pc := 29) C (st_a2 st36) ev5 dX10_hang_29 ?_
        refine a_istore_n (pc := 30) C [(3, .int v5), (0, .ref (X.N.2.1 0)), (1, .int x1), (2, .int x2)] dX10_hang_30 rfl (nlt eL rfl) rfl ?_
        refine a_aload_n (pc := 31) C dX10_hang_31 rfl 1 rfl ?_
        refine gf_10_0 (pc := 32) C wd_426 dX10_hang_32 ?_
        refine gf_9_1 (pc := 35) C wd_257 dX10_hang_35 ?_
        refine gf_5_1 (pc := 38) C st36 wd_161 dX10_hang_38 ?_
        refine a_iload_n (pc := 41) C dX10_hang_41 rfl 2 rfl ?_
        refine a_iload_n (pc := 42) C dX10_hang_42 rfl 3 rfl ?_
        obtain ⟨M6, eM6, h⟩ := bndS h
        refine a_iast (pc := 43) C (st_a2 st36) eM6 dX10_hang_43 ?_
        refine a_aload_n (pc := 44) C dX10_hang_44 rfl 1 rfl ?_
        refine gf_10_7 (pc := 45) C wd_433 dX10_hang_45 ?_
        refine a_iconst (pc := 48) C 4 dX10_hang_48 rfl ?_
        refine a_dup2 (pc := 49) C dX10_hang_49 rfl rfl ?_
        obtain ⟨v7, ev7, h⟩ := bndS h
        refine a_iald (pc := 50) C rfl ev7 dX10_hang_50 ?_
        refine a_iconst (pc := 51) C 1 dX10_hang_51 rfl ?_
        refine a_iadd (pc := 52) C dX10_hang_52 ?_
        obtain ⟨M8, eM8, h⟩ := bndS h
        refine a_iast (pc := 53) C rfl eM8 dX10_hang_53 ?_
        refine a_iload_n (pc := 54) C dX10_hang_54 rfl 0 rfl ?_
        exact a_iret (pc := 55) C E rfl (som1 h) (som2 h) dX10_hang_55
      · replace h := iteF c4 h
        refine a_iconst (pc := 16) C (-1) dX10_hang_16 rfl ?_
        exact a_iret (pc := 17) C E rfl (som1 h) (som2 h) dX10_hang_17
set_option maxHeartbeats 200000 in
set_option maxRecDepth 100000 in
theorem ok_fSh_moves (l : Launch) (N : Rig) (M : Mem) (x1 : Int32) (x2 : Int32) {r : Int32} {M0 : Mem} (h : fSh_moves M x1 x2 = some (r, M0)) : Ct l N yX10_moves cX10_moves 4 (some .int) 1 [.ref (N.2.1 0), .int x1, .int x2] M (QcI N (some .int) r M0) := by
  refine ct_of (by decide) rfl ?_
  intro X el eN eL C E
  subst el
  subst eN
  unfold fSh_moves at h
  show WA X M [(0, .ref (X.N.2.1 0)), (1, .int x1), (2, .int x2)] 0 []
  refine a_aload_n (pc := 0) C dX10_moves_0 rfl 0 rfl ?_
  refine gf_10_0 (pc := 1) C wd_426 dX10_moves_1 ?_
  refine a_iload_n (pc := 4) C dX10_moves_4 rfl 1 rfl ?_
  refine a_callVI (pc := 5) C [.int x1] (ok_fWorld_isPerson X.l X.N M x1) rfl mw_X9_isPerson wd_691 rfl rfl rfl rfl rfl rfl rfl dX10_moves_5 (fun z1 => ?_)
  refine a_if_eq (pc := 8) C 18 dX10_moves_8 rfl (fun c2 => ?_) (fun c2 => ?_)
  · replace h := iteT c2 h
    refine a_iconst (pc := 18) C (-1) dX10_moves_18 rfl ?_
    exact a_iret (pc := 19) C E rfl (som1 h) (som2 h) dX10_moves_19
  · replace h := iteF c2 h
    refine a_iload_n (pc := 11) C dX10_moves_11 rfl 2 rfl ?_
    refine a_callSI (pc := 12) C [.int x2] (ok_fSh_isCell X.l X.N M x2) rfl mw_X10_isCell wd_464 rfl rfl rfl dX10_moves_12 (fun z3 => ?_)
    refine a_if_ne (pc := 15) C 20 dX10_moves_15 rfl (fun c4 => ?_) (fun c4 => ?_)
    · replace h := iteT c4 h
      refine a_aload_n (pc := 20) C dX10_moves_20 rfl 0 rfl ?_
      refine gf_10_0 (pc := 21) C wd_426 dX10_moves_21 ?_
      refine gf_9_1 (pc := 24) C wd_257 dX10_moves_24 ?_
      refine gf_5_2 (pc := 27) C st36 wd_166 dX10_moves_27 ?_
      refine a_iload_n (pc := 30) C dX10_moves_30 rfl 1 rfl ?_
      obtain ⟨v5, ev5, h⟩ := bndS h
      refine a_iald (pc := 31) C (st_a3 st36) ev5 dX10_moves_31 ?_
      refine a_istore_n (pc := 32) C [(3, .int v5), (0, .ref (X.N.2.1 0)), (1, .int x1), (2, .int x2)] dX10_moves_32 rfl (nlt eL rfl) rfl ?_
      refine a_aload_n (pc := 33) C dX10_moves_33 rfl 1 rfl ?_
      refine gf_10_0 (pc := 34) C wd_426 dX10_moves_34 ?_
      refine gf_9_1 (pc := 37) C wd_257 dX10_moves_37 ?_
      refine gf_5_2 (pc := 40) C st36 wd_166 dX10_moves_40 ?_
      refine a_iload_n (pc := 43) C dX10_moves_43 rfl 2 rfl ?_
      refine a_iload_n (pc := 44) C dX10_moves_44 rfl 3 rfl ?_
      obtain ⟨M6, eM6, h⟩ := bndS h
      refine a_iast (pc := 45) C (st_a3 st36) eM6 dX10_moves_45 ?_
      refine a_iload_n (pc := 46) C dX10_moves_46 rfl 0 rfl ?_
      exact a_iret (pc := 47) C E rfl (som1 h) (som2 h) dX10_moves_47
    · replace h := iteF c4 h
      refine a_iconst (pc := 18) C (-1) dX10_moves_18 rfl ?_
      exact a_iret (pc := 19) C E rfl (som1 h) (som2 h) dX10_moves_19
set_option maxHeartbeats 200000 in
set_option maxRecDepth 100000 in
theorem ok_fSh_led (l : Launch) (N : Rig) (M : Mem) (x1 : Int32) {r : Int32} (h : fSh_led M x1 = some r) : Ct l N yX10_led cX10_led 2 (some .int) 0 [.ref (N.2.1 0), .int x1] M (QcI N (some .int) r M) := by
  refine ct_of (by decide) rfl ?_
  intro X el eN eL C E
  subst el
  subst eN
  unfold fSh_led at h
  show WA X M [(0, .ref (X.N.2.1 0)), (1, .int x1)] 0 []
  refine a_iload_n (pc := 0) C dX10_led_0 rfl 1 rfl ?_
  refine a_if_lt (pc := 1) C 18 dX10_led_1 rfl (fun c1 => ?_) (fun c1 => ?_)
  · replace h := iteT c1 h
    refine a_iconst (pc := 18) C (-1) dX10_led_18 rfl ?_
    exact a_iret (pc := 19) C E rfl (somI h) rfl dX10_led_19
  · replace h := iteF c1 h
    refine a_iload_n (pc := 4) C dX10_led_4 rfl 1 rfl ?_
    refine a_iconst (pc := 5) C 5 dX10_led_5 rfl ?_
    refine a_icmp_ge (pc := 6) C 18 dX10_led_6 rfl (fun c2 => ?_) (fun c2 => ?_)
    · replace h := iteT c2 h
      refine a_iconst (pc := 18) C (-1) dX10_led_18 rfl ?_
      exact a_iret (pc := 19) C E rfl (somI h) rfl dX10_led_19
    · replace h := iteF c2 h
      refine a_aload_n (pc := 9) C dX10_led_9 rfl 0 rfl ?_
      refine gf_10_7 (pc := 10) C wd_433 dX10_led_10 ?_
      refine a_iload_n (pc := 13) C dX10_led_13 rfl 1 rfl ?_
      obtain ⟨v3, ev3, h⟩ := bndS h
      refine a_iald (pc := 14) C rfl ev3 dX10_led_14 ?_
      refine a_goto (pc := 15) C 19 dX10_led_15 rfl ?_
      exact a_iret (pc := 19) C E rfl (somI h) rfl dX10_led_19
set_option maxHeartbeats 200000 in
set_option maxRecDepth 100000 in
theorem ok_fSh_image (l : Launch) (N : Rig) (M : Mem) {r : Int32} {M0 : Mem} (h : fSh_image M = some (r, M0)) : Ct l N yX10_image cX10_image 1 (some .int) 2 [.ref (N.2.1 0)] M (QcI N (some .int) r M0) := by
  refine ct_of (by decide) rfl ?_
  intro X el eN eL C E
  subst el
  subst eN
  unfold fSh_image at h
  show WA X M [(0, .ref (X.N.2.1 0))] 0 []
  refine a_aload_n (pc := 0) C dX10_image_0 rfl 0 rfl ?_
  refine gf_10_8 (pc := 1) C wd_434 dX10_image_1 ?_
  refine a_aload_n (pc := 4) C dX10_image_4 rfl 0 rfl ?_
  refine gf_10_0 (pc := 5) C wd_426 dX10_image_5 ?_
  refine gf_9_1 (pc := 8) C wd_257 dX10_image_8 ?_
  refine a_aload_n (pc := 11) C dX10_image_11 rfl 0 rfl ?_
  refine gf_10_0 (pc := 12) C wd_426 dX10_image_12 ?_
  refine gf_9_0 (pc := 15) C wd_253 dX10_image_15 ?_
  refine gf_7_4 (pc := 18) C wd_134 dX10_image_18 ?_
  obtain ⟨q1, eq1, h⟩ := bndS h
  refine a_callVV (pc := 21) C [.ref (X.N.2.1 36), .int (M.1 2 4)] (ok_fStreet_become X.l X.N M 60 36 st60 st36 (M.1 2 4) eq1) rfl mw_X5_become wd_922 (st_shp st60) (st_blt st60) rfl rfl rfl rfl rfl dX10_image_21 ?_
  refine a_aload_n (pc := 24) C dX10_image_24 rfl 0 rfl ?_
  refine gf_10_7 (pc := 25) C wd_433 dX10_image_25 ?_
  refine a_iconst (pc := 28) C 0 dX10_image_28 rfl ?_
  refine a_aload_n (pc := 29) C dX10_image_29 rfl 0 rfl ?_
  refine gf_10_9 (pc := 30) C wd_435 dX10_image_30 ?_
  refine a_iconst (pc := 33) C 0 dX10_image_33 rfl ?_
  refine a_iconst (pc := 34) C 5 dX10_image_34 rfl ?_
  obtain ⟨M2, eM2, h⟩ := bndS h
  refine a_copyI (pc := 35) C rfl rfl eM2 rfl wd_923 wd_533 wd_532 wd_93 rfl dX10_image_35 ?_
  refine a_aload_n (pc := 38) C dX10_image_38 rfl 0 rfl ?_
  refine a_aload_n (pc := 39) C dX10_image_39 rfl 0 rfl ?_
  refine gf_10_0 (pc := 40) C wd_426 dX10_image_40 ?_
  refine gf_9_0 (pc := 43) C wd_253 dX10_image_43 ?_
  refine gf_7_4 (pc := 46) C wd_134 dX10_image_46 ?_
  refine pf_10_10 (pc := 49) C wd_436 dX10_image_49 ?_
  refine a_aload_n (pc := 52) C dX10_image_52 rfl 0 rfl ?_
  refine gf_10_7 (pc := 53) C wd_433 dX10_image_53 ?_
  refine a_iconst (pc := 56) C 0 dX10_image_56 rfl ?_
  obtain ⟨v3, ev3, h⟩ := bndS h
  refine a_iald (pc := 57) C rfl ev3 dX10_image_57 ?_
  exact a_iret (pc := 58) C E rfl (som1 h) (som2 h) dX10_image_58
set_option maxHeartbeats 200000 in
set_option maxRecDepth 100000 in
theorem ok_fSh_back (l : Launch) (N : Rig) (M : Mem) {r : Int32} {M0 : Mem} (h : fSh_back M = some (r, M0)) : Ct l N yX10_back cX10_back 1 (some .int) 2 [.ref (N.2.1 0)] M (QcI N (some .int) r M0) := by
  refine ct_of (by decide) rfl ?_
  intro X el eN eL C E
  subst el
  subst eN
  unfold fSh_back at h
  show WA X M [(0, .ref (X.N.2.1 0))] 0 []
  refine a_aload_n (pc := 0) C dX10_back_0 rfl 0 rfl ?_
  refine gf_10_10 (pc := 1) C wd_436 dX10_back_1 ?_
  refine a_iconst (pc := 4) C (-1) dX10_back_4 rfl ?_
  refine a_icmp_ne (pc := 5) C 11 dX10_back_5 rfl (fun c1 => ?_) (fun c1 => ?_)
  · replace h := iteT c1 h
    refine a_aload_n (pc := 11) C dX10_back_11 rfl 0 rfl ?_
    refine gf_10_0 (pc := 12) C wd_426 dX10_back_12 ?_
    refine gf_9_1 (pc := 15) C wd_257 dX10_back_15 ?_
    refine a_aload_n (pc := 18) C dX10_back_18 rfl 0 rfl ?_
    refine gf_10_8 (pc := 19) C wd_434 dX10_back_19 ?_
    refine a_aload_n (pc := 22) C dX10_back_22 rfl 0 rfl ?_
    refine gf_10_10 (pc := 23) C wd_436 dX10_back_23 ?_
    obtain ⟨q2, eq2, h⟩ := bndS h
    refine a_callVV (pc := 26) C [.ref (X.N.2.1 60), .int (M.1 0 10)] (ok_fStreet_become X.l X.N M 36 60 st36 st60 (M.1 0 10) eq2) rfl mw_X5_become wd_922 (st_shp st36) (st_blt st36) rfl rfl rfl rfl rfl dX10_back_26 ?_
    refine a_aload_n (pc := 29) C dX10_back_29 rfl 0 rfl ?_
    refine gf_10_9 (pc := 30) C wd_435 dX10_back_30 ?_
    refine a_iconst (pc := 33) C 0 dX10_back_33 rfl ?_
    refine a_aload_n (pc := 34) C dX10_back_34 rfl 0 rfl ?_
    refine gf_10_7 (pc := 35) C wd_433 dX10_back_35 ?_
    refine a_iconst (pc := 38) C 0 dX10_back_38 rfl ?_
    refine a_iconst (pc := 39) C 5 dX10_back_39 rfl ?_
    obtain ⟨M3, eM3, h⟩ := bndS h
    refine a_copyI (pc := 40) C rfl rfl eM3 rfl wd_923 wd_533 wd_532 wd_93 rfl dX10_back_40 ?_
    refine a_aload_n (pc := 43) C dX10_back_43 rfl 0 rfl ?_
    refine gf_10_7 (pc := 44) C wd_433 dX10_back_44 ?_
    refine a_iconst (pc := 47) C 0 dX10_back_47 rfl ?_
    obtain ⟨v4, ev4, h⟩ := bndS h
    refine a_iald (pc := 48) C rfl ev4 dX10_back_48 ?_
    exact a_iret (pc := 49) C E rfl (som1 h) (som2 h) dX10_back_49
  · replace h := iteF c1 h
    refine a_bipush (pc := 8) C (-5) dX10_back_8 rfl ?_
    exact a_iret (pc := 10) C E rfl (som1 h) (som2 h) dX10_back_10
set_option maxHeartbeats 200000 in
set_option maxRecDepth 100000 in
theorem ok_fSh_undo (l : Launch) (N : Rig) (M : Mem) {r : Int32} {M0 : Mem} (h : fSh_undo M = some (r, M0)) : Ct l N yX10_undo cX10_undo 2 (some .int) 4 [.ref (N.2.1 0)] M (QcI N (some .int) r M0) := by
  refine ct_of (by decide) rfl ?_
  intro X el eN eL C E
  subst el
  subst eN
  unfold fSh_undo at h
  show WA X M [(0, .ref (X.N.2.1 0))] 0 []
  refine a_aload_n (pc := 0) C dX10_undo_0 rfl 0 rfl ?_
  refine gf_10_3 (pc := 1) C wd_429 dX10_undo_1 ?_
  obtain ⟨q1, eq1, h⟩ := bndS h
  refine a_callVI (pc := 4) C [] (ok_fChanges_stepBack X.l X.N M eq1) rfl mw_X2_stepBack wd_932 rfl rfl rfl rfl rfl rfl rfl dX10_undo_4 (fun z2 => ?_)
  refine a_istore_n (pc := 7) C [(1, .int q1.1), (0, .ref (X.N.2.1 0))] dX10_undo_7 rfl (nlt eL rfl) rfl ?_
  refine a_iload_n (pc := 8) C dX10_undo_8 rfl 0 rfl ?_
  refine a_iconst (pc := 9) C (-1) dX10_undo_9 rfl ?_
  refine a_icmp_ne (pc := 10) C 16 dX10_undo_10 rfl (fun c3 => ?_) (fun c3 => ?_)
  · replace h := iteT c3 h
    refine a_aload_n (pc := 16) C dX10_undo_16 rfl 1 rfl ?_
    refine gf_10_0 (pc := 17) C wd_426 dX10_undo_17 ?_
    refine a_aload_n (pc := 20) C dX10_undo_20 rfl 1 rfl ?_
    refine gf_10_3 (pc := 21) C wd_429 dX10_undo_21 ?_
    refine gf_2_0 (pc := 24) C wd_337 dX10_undo_24 ?_
    refine a_iload_n (pc := 27) C dX10_undo_27 rfl 0 rfl ?_
    obtain ⟨v4, ev4, h⟩ := bndS h
    refine a_iald (pc := 28) C rfl ev4 dX10_undo_28 ?_
    refine a_aload_n (pc := 29) C dX10_undo_29 rfl 1 rfl ?_
    refine gf_10_3 (pc := 30) C wd_429 dX10_undo_30 ?_
    refine gf_2_1 (pc := 33) C wd_339 dX10_undo_33 ?_
    refine a_iload_n (pc := 36) C dX10_undo_36 rfl 0 rfl ?_
    obtain ⟨v5, ev5, h⟩ := bndS h
    refine a_iald (pc := 37) C rfl ev5 dX10_undo_37 ?_
    refine a_aload_n (pc := 38) C dX10_undo_38 rfl 1 rfl ?_
    refine gf_10_3 (pc := 39) C wd_429 dX10_undo_39 ?_
    refine gf_2_2 (pc := 42) C wd_341 dX10_undo_42 ?_
    refine a_iload_n (pc := 45) C dX10_undo_45 rfl 0 rfl ?_
    obtain ⟨v6, ev6, h⟩ := bndS h
    refine a_iald (pc := 46) C rfl ev6 dX10_undo_46 ?_
    obtain ⟨q7, eq7, h⟩ := bndS h
    refine a_callVV (pc := 47) C [.int v4, .int v5, .int v6] (ok_fWorld_tell X.l X.N q1.2 v4 v5 v6 eq7) rfl mw_X9_tell wd_534 rfl rfl rfl rfl rfl rfl rfl dX10_undo_47 ?_
    refine a_aload_n (pc := 50) C dX10_undo_50 rfl 1 rfl ?_
    refine gf_10_3 (pc := 51) C wd_429 dX10_undo_51 ?_
    refine gf_2_4 (pc := 54) C wd_345 dX10_undo_54 ?_
    exact a_iret (pc := 57) C E rfl (som1 h) (som2 h) dX10_undo_57
  · replace h := iteF c3 h
    refine a_bipush (pc := 13) C (-5) dX10_undo_13 rfl ?_
    exact a_iret (pc := 15) C E rfl (som1 h) (som2 h) dX10_undo_15
set_option maxHeartbeats 200000 in
set_option maxRecDepth 100000 in
theorem ok_fSh_redo (l : Launch) (N : Rig) (M : Mem) {r : Int32} {M0 : Mem} (h : fSh_redo M = some (r, M0)) : Ct l N yX10_redo cX10_redo 2 (some .int) 4 [.ref (N.2.1 0)] M (QcI N (some .int) r M0) := by
  refine ct_of (by decide) rfl ?_
  intro X el eN eL C E
  subst el
  subst eN
  unfold fSh_redo at h
  show WA X M [(0, .ref (X.N.2.1 0))] 0 []
  refine a_aload_n (pc := 0) C dX10_redo_0 rfl 0 rfl ?_
  refine gf_10_3 (pc := 1) C wd_429 dX10_redo_1 ?_
  obtain ⟨q1, eq1, h⟩ := bndS h
  refine a_callVI (pc := 4) C [] (ok_fChanges_stepOn X.l X.N M eq1) rfl mw_X2_stepOn wd_940 rfl rfl rfl rfl rfl rfl rfl dX10_redo_4 (fun z2 => ?_)
  refine a_istore_n (pc := 7) C [(1, .int q1.1), (0, .ref (X.N.2.1 0))] dX10_redo_7 rfl (nlt eL rfl) rfl ?_
  refine a_iload_n (pc := 8) C dX10_redo_8 rfl 0 rfl ?_
  refine a_iconst (pc := 9) C (-1) dX10_redo_9 rfl ?_
  refine a_icmp_ne (pc := 10) C 16 dX10_redo_10 rfl (fun c3 => ?_) (fun c3 => ?_)
  · replace h := iteT c3 h
    refine a_aload_n (pc := 16) C dX10_redo_16 rfl 1 rfl ?_
    refine gf_10_0 (pc := 17) C wd_426 dX10_redo_17 ?_
    refine a_aload_n (pc := 20) C dX10_redo_20 rfl 1 rfl ?_
    refine gf_10_3 (pc := 21) C wd_429 dX10_redo_21 ?_
    refine gf_2_0 (pc := 24) C wd_337 dX10_redo_24 ?_
    refine a_iload_n (pc := 27) C dX10_redo_27 rfl 0 rfl ?_
    obtain ⟨v4, ev4, h⟩ := bndS h
    refine a_iald (pc := 28) C rfl ev4 dX10_redo_28 ?_
    refine a_aload_n (pc := 29) C dX10_redo_29 rfl 1 rfl ?_
    refine gf_10_3 (pc := 30) C wd_429 dX10_redo_30 ?_
    refine gf_2_1 (pc := 33) C wd_339 dX10_redo_33 ?_
    refine a_iload_n (pc := 36) C dX10_redo_36 rfl 0 rfl ?_
    obtain ⟨v5, ev5, h⟩ := bndS h
    refine a_iald (pc := 37) C rfl ev5 dX10_redo_37 ?_
    refine a_aload_n (pc := 38) C dX10_redo_38 rfl 1 rfl ?_
    refine gf_10_3 (pc := 39) C wd_429 dX10_redo_39 ?_
    refine gf_2_3 (pc := 42) C wd_343 dX10_redo_42 ?_
    refine a_iload_n (pc := 45) C dX10_redo_45 rfl 0 rfl ?_
    obtain ⟨v6, ev6, h⟩ := bndS h
    refine a_iald (pc := 46) C rfl ev6 dX10_redo_46 ?_
    obtain ⟨q7, eq7, h⟩ := bndS h
    refine a_callVV (pc := 47) C [.int v4, .int v5, .int v6] (ok_fWorld_tell X.l X.N q1.2 v4 v5 v6 eq7) rfl mw_X9_tell wd_534 rfl rfl rfl rfl rfl rfl rfl dX10_redo_47 ?_
    refine a_aload_n (pc := 50) C dX10_redo_50 rfl 1 rfl ?_
    refine gf_10_3 (pc := 51) C wd_429 dX10_redo_51 ?_
    refine a_callVI (pc := 54) C [] (ok_fChanges_redoable X.l X.N q7) rfl mw_X2_redoable wd_944 rfl rfl rfl rfl rfl rfl rfl dX10_redo_54 (fun z8 => ?_)
    exact a_iret (pc := 57) C E rfl (som1 h) (som2 h) dX10_redo_57
  · replace h := iteF c3 h
    refine a_bipush (pc := 13) C (-5) dX10_redo_13 rfl ?_
    exact a_iret (pc := 15) C E rfl (som1 h) (som2 h) dX10_redo_15
set_option maxHeartbeats 200000 in
set_option maxRecDepth 100000 in
theorem ok_fSh_body (l : Launch) (N : Rig) (M : Mem) (x1 : Int32) {r : Int32} {M0 : Mem} (h : fSh_body M x1 = some (r, M0)) : Ct l N yX10_body cX10_body 2 (some .int) 1 [.ref (N.2.1 0), .int x1] M (QcI N (some .int) r M0) := by
  refine ct_of (by decide) rfl ?_
  intro X el eN eL C E
  subst el
  subst eN
  unfold fSh_body at h
  show WA X M [(0, .ref (X.N.2.1 0)), (1, .int x1)] 0 []
  refine a_iload_n (pc := 0) C dX10_body_0 rfl 1 rfl ?_
  refine a_callSI (pc := 1) C [.int x1] (ok_fBodies_isKind X.l X.N M x1) rfl mw_X1_isKind wd_952 rfl rfl rfl dX10_body_1 (fun z1 => ?_)
  refine a_if_eq (pc := 4) C 18 dX10_body_4 rfl (fun c2 => ?_) (fun c2 => ?_)
  · replace h := iteT c2 h
    refine a_iconst (pc := 18) C (-1) dX10_body_18 rfl ?_
    exact a_iret (pc := 19) C E rfl (som1 h) (som2 h) dX10_body_19
  · replace h := iteF c2 h
    refine a_aload_n (pc := 7) C dX10_body_7 rfl 0 rfl ?_
    refine gf_10_4 (pc := 8) C wd_430 dX10_body_8 ?_
    refine a_iload_n (pc := 11) C dX10_body_11 rfl 1 rfl ?_
    obtain ⟨q3, eq3, h⟩ := bndS h
    refine a_callVI (pc := 12) C [.int x1] (ok_fBodies_made X.l X.N M x1 eq3) rfl mw_X1_made wd_955 rfl rfl rfl rfl rfl rfl rfl dX10_body_12 (fun z4 => ?_)
    refine a_goto (pc := 15) C 19 dX10_body_15 rfl ?_
    exact a_iret (pc := 19) C E rfl (som1 h) (som2 h) dX10_body_19
set_option maxHeartbeats 200000 in
set_option maxRecDepth 100000 in
theorem ok_fSh_act (l : Launch) (N : Rig) (M : Mem) (x1 : Int32) (x2 : Int32) (x3 : Int32) {r : Int32} {M0 : Mem} (h : fSh_act M x1 x2 x3 = some (r, M0)) : Ct l N yX10_act cX10_act 4 (some .int) 102 [.ref (N.2.1 0), .int x1, .int x2, .int x3] M (QcI N (some .int) r M0) := by
  refine ct_of (by decide) rfl ?_
  intro X el eN eL C E
  subst el
  subst eN
  unfold fSh_act at h
  show WA X M [(0, .ref (X.N.2.1 0)), (1, .int x1), (2, .int x2), (3, .int x3)] 0 []
  refine a_aload_n (pc := 0) C dX10_act_0 rfl 0 rfl ?_
  refine gf_10_4 (pc := 1) C wd_430 dX10_act_1 ?_
  refine a_iload_n (pc := 4) C dX10_act_4 rfl 1 rfl ?_
  refine a_iload_n (pc := 5) C dX10_act_5 rfl 2 rfl ?_
  refine a_iload_n (pc := 6) C dX10_act_6 rfl 3 rfl ?_
  obtain ⟨q1, eq1, h⟩ := bndS h
  refine a_callVI (pc := 7) C [.int x1, .int x2, .int x3] (ok_fBodies_acted X.l X.N M x1 x2 x3 eq1) rfl mw_X1_acted wd_963 rfl rfl rfl rfl rfl rfl rfl dX10_act_7 (fun z2 => ?_)
  exact a_iret (pc := 10) C E rfl (som1 h) (som2 h) dX10_act_10
set_option maxHeartbeats 200000 in
set_option maxRecDepth 100000 in
theorem ok_fSh_trace (l : Launch) (N : Rig) (M : Mem) (x1 : Int32) {r : Int32} (h : fSh_trace M x1 = some r) : Ct l N yX10_trace cX10_trace 2 (some .int) 2 [.ref (N.2.1 0), .int x1] M (QcI N (some .int) r M) := by
  refine ct_of (by decide) rfl ?_
  intro X el eN eL C E
  subst el
  subst eN
  unfold fSh_trace at h
  show WA X M [(0, .ref (X.N.2.1 0)), (1, .int x1)] 0 []
  refine a_iload_n (pc := 0) C dX10_trace_0 rfl 1 rfl ?_
  refine a_if_lt (pc := 1) C 27 dX10_trace_1 rfl (fun c1 => ?_) (fun c1 => ?_)
  · replace h := iteT c1 h
    refine a_iconst (pc := 27) C (-1) dX10_trace_27 rfl ?_
    exact a_iret (pc := 28) C E rfl (somI h) rfl dX10_trace_28
  · replace h := iteF c1 h
    refine a_iload_n (pc := 4) C dX10_trace_4 rfl 1 rfl ?_
    refine a_aload_n (pc := 5) C dX10_trace_5 rfl 0 rfl ?_
    refine gf_10_4 (pc := 6) C wd_430 dX10_trace_6 ?_
    refine a_callVI (pc := 9) C [] (ok_fBodies_traced X.l X.N M) rfl mw_X1_traced wd_995 rfl rfl rfl rfl rfl rfl rfl dX10_trace_9 (fun z2 => ?_)
    refine a_icmp_ge (pc := 12) C 27 dX10_trace_12 rfl (fun c3 => ?_) (fun c3 => ?_)
    · replace h := iteT c3 h
      refine a_iconst (pc := 27) C (-1) dX10_trace_27 rfl ?_
      exact a_iret (pc := 28) C E rfl (somI h) rfl dX10_trace_28
    · replace h := iteF c3 h
      refine a_aload_n (pc := 15) C dX10_trace_15 rfl 0 rfl ?_
      refine gf_10_4 (pc := 16) C wd_430 dX10_trace_16 ?_
      refine gf_1_2 (pc := 19) C wd_371 dX10_trace_19 ?_
      refine a_iload_n (pc := 22) C dX10_trace_22 rfl 1 rfl ?_
      obtain ⟨v4, ev4, h⟩ := bndS h
      refine a_iald (pc := 23) C rfl ev4 dX10_trace_23 ?_
      refine a_goto (pc := 24) C 28 dX10_trace_24 rfl ?_
      exact a_iret (pc := 28) C E rfl (somI h) rfl dX10_trace_28
set_option maxHeartbeats 200000 in
set_option maxRecDepth 100000 in
theorem ok_fSh_keep_J25 {X : Amb} (eL : X.nL = 3) (C : Cx X RX10 cX10_keep 1) (r : Int32) (M0 : Mem) (E : En X (some .int) (QcI X.N (some .int) r M0)) (M : Mem) (x1 : Int32) (x2 : Int32) (h : fSh_keep_J25 M x1 x2 = some (r, M0)) : WA X M [(0, .ref (X.N.2.1 0)), (1, .int x1), (2, .int x2)] 25 [] := by
  unfold fSh_keep_J25 at h
  refine a_iload_n (pc := 25) C dX10_keep_25 rfl 2 rfl ?_
  refine a_iconst (pc := 26) C (-1) dX10_keep_26 rfl ?_
  refine a_icmp_ne (pc := 27) C 41 dX10_keep_27 rfl (fun c4 => ?_) (fun c4 => ?_)
  · replace h := iteT c4 h
    refine a_aload_n (pc := 41) C dX10_keep_41 rfl 0 rfl ?_
    refine gf_10_5 (pc := 42) C wd_431 dX10_keep_42 ?_
    refine a_iload_n (pc := 45) C dX10_keep_45 rfl 1 rfl ?_
    refine a_iload_n (pc := 46) C dX10_keep_46 rfl 2 rfl ?_
    obtain ⟨q5, eq5, h⟩ := bndS h
    refine a_callVV (pc := 47) C [.int x1, .int x2] (ok_fShelves_holdShoe X.l X.N M x1 x2 eq5) rfl mw_X4_holdShoe wd_1009 rfl rfl rfl rfl rfl rfl rfl dX10_keep_47 ?_
    refine a_iconst (pc := 50) C 1 dX10_keep_50 rfl ?_
    exact a_iret (pc := 51) C E rfl (som1 h) (som2 h) dX10_keep_51
  · replace h := iteF c4 h
    refine a_aload_n (pc := 30) C dX10_keep_30 rfl 0 rfl ?_
    refine gf_10_5 (pc := 31) C wd_431 dX10_keep_31 ?_
    refine a_iload_n (pc := 34) C dX10_keep_34 rfl 1 rfl ?_
    obtain ⟨q6, eq6, h⟩ := bndS h
    refine a_callVV (pc := 35) C [.int x1] (ok_fShelves_clear X.l X.N M x1 eq6) rfl mw_X4_clear wd_1005 rfl rfl rfl rfl rfl rfl rfl dX10_keep_35 ?_
    refine a_goto (pc := 38) C 50 dX10_keep_38 rfl ?_
    refine a_iconst (pc := 50) C 1 dX10_keep_50 rfl ?_
    exact a_iret (pc := 51) C E rfl (som1 h) (som2 h) dX10_keep_51
set_option maxHeartbeats 200000 in
set_option maxRecDepth 100000 in
theorem ok_fSh_keep (l : Launch) (N : Rig) (M : Mem) (x1 : Int32) (x2 : Int32) {r : Int32} {M0 : Mem} (h : fSh_keep M x1 x2 = some (r, M0)) : Ct l N yX10_keep cX10_keep 3 (some .int) 1 [.ref (N.2.1 0), .int x1, .int x2] M (QcI N (some .int) r M0) := by
  refine ct_of (by decide) rfl ?_
  intro X el eN eL C E
  subst el
  subst eN
  unfold fSh_keep at h
  show WA X M [(0, .ref (X.N.2.1 0)), (1, .int x1), (2, .int x2)] 0 []
  refine a_iload_n (pc := 0) C dX10_keep_0 rfl 1 rfl ?_
  refine a_callSI (pc := 1) C [.int x1] (ok_fShelves_isShelf X.l X.N M x1) rfl mw_X4_isShelf wd_479 rfl rfl rfl dX10_keep_1 (fun z1 => ?_)
  refine a_if_eq (pc := 4) C 23 dX10_keep_4 rfl (fun c2 => ?_) (fun c2 => ?_)
  · replace h := iteT c2 h
    refine a_iconst (pc := 23) C (-1) dX10_keep_23 rfl ?_
    exact a_iret (pc := 24) C E rfl (som1 h) (som2 h) dX10_keep_24
  · replace h := iteF c2 h
    refine a_iload_n (pc := 7) C dX10_keep_7 rfl 2 rfl ?_
    refine a_iconst (pc := 8) C (-1) dX10_keep_8 rfl ?_
    refine a_icmp_eq (pc := 9) C 25 dX10_keep_9 rfl (fun c3 => ?_) (fun c3 => ?_)
    · replace h := iteT c3 h
      refine a_sub (lv2 := [(0, .ref (X.N.2.1 0)), (1, .int x1), (2, .int x2)]) [0, 1, 2] rfl ?_
      exact ok_fSh_keep_J25 eL C r M0 E M x1 x2 h
    · replace h := iteF c3 h
      refine a_aload_n (pc := 12) C dX10_keep_12 rfl 0 rfl ?_
      refine gf_10_4 (pc := 13) C wd_430 dX10_keep_13 ?_
      refine a_iload_n (pc := 16) C dX10_keep_16 rfl 2 rfl ?_
      refine a_callVI (pc := 17) C [.int x2] (ok_fBodies_isBody X.l X.N M x2) rfl mw_X1_isBody wd_1004 rfl rfl rfl rfl rfl rfl rfl dX10_keep_17 (fun z7 => ?_)
      refine a_if_ne (pc := 20) C 25 dX10_keep_20 rfl (fun c8 => ?_) (fun c8 => ?_)
      · replace h := iteT c8 h
        refine a_sub (lv2 := [(0, .ref (X.N.2.1 0)), (1, .int x1), (2, .int x2)]) [0, 1, 2] rfl ?_
        exact ok_fSh_keep_J25 eL C r M0 E M x1 x2 h
      · replace h := iteF c8 h
        refine a_iconst (pc := 23) C (-1) dX10_keep_23 rfl ?_
        exact a_iret (pc := 24) C E rfl (som1 h) (som2 h) dX10_keep_24
set_option maxHeartbeats 200000 in
set_option maxRecDepth 100000 in
theorem ok_fSh_row (l : Launch) (N : Rig) (M : Mem) (x1 : Int32) (x2 : Int32) (x3 : Int32) {r : Int32} {M0 : Mem} (h : fSh_row M x1 x2 x3 = some (r, M0)) : Ct l N yX10_row cX10_row 4 (some .int) 2 [.ref (N.2.1 0), .int x1, .int x2, .int x3] M (QcI N (some .int) r M0) := by
  refine ct_of (by decide) rfl ?_
  intro X el eN eL C E
  subst el
  subst eN
  unfold fSh_row at h
  show WA X M [(0, .ref (X.N.2.1 0)), (1, .int x1), (2, .int x2), (3, .int x3)] 0 []
  refine a_iload_n (pc := 0) C dX10_row_0 rfl 1 rfl ?_
  refine a_callSI (pc := 1) C [.int x1] (ok_fShelves_isShelf X.l X.N M x1) rfl mw_X4_isShelf wd_479 rfl rfl rfl dX10_row_1 (fun z1 => ?_)
  refine a_if_eq (pc := 4) C 20 dX10_row_4 rfl (fun c2 => ?_) (fun c2 => ?_)
  · replace h := iteT c2 h
    refine a_iconst (pc := 20) C (-1) dX10_row_20 rfl ?_
    exact a_iret (pc := 21) C E rfl (som1 h) (som2 h) dX10_row_21
  · replace h := iteF c2 h
    refine a_iload_n (pc := 7) C dX10_row_7 rfl 2 rfl ?_
    refine a_callSI (pc := 8) C [.int x2] (ok_fShelves_isSort X.l X.N M x2) rfl mw_X4_isSort wd_1017 rfl rfl rfl dX10_row_8 (fun z3 => ?_)
    refine a_if_eq (pc := 11) C 20 dX10_row_11 rfl (fun c4 => ?_) (fun c4 => ?_)
    · replace h := iteT c4 h
      refine a_iconst (pc := 20) C (-1) dX10_row_20 rfl ?_
      exact a_iret (pc := 21) C E rfl (som1 h) (som2 h) dX10_row_21
    · replace h := iteF c4 h
      refine a_iload_n (pc := 14) C dX10_row_14 rfl 3 rfl ?_
      refine a_bipush (pc := 15) C 60 dX10_row_15 rfl ?_
      refine a_icmp_le (pc := 17) C 22 dX10_row_17 rfl (fun c5 => ?_) (fun c5 => ?_)
      · replace h := iteT c5 h
        refine a_iload_n (pc := 22) C dX10_row_22 rfl 3 rfl ?_
        refine a_if_ge (pc := 23) C 29 dX10_row_23 rfl (fun c6 => ?_) (fun c6 => ?_)
        · replace h := iteT c6 h
          refine a_aload_n (pc := 29) C dX10_row_29 rfl 0 rfl ?_
          refine gf_10_5 (pc := 30) C wd_431 dX10_row_30 ?_
          refine a_iload_n (pc := 33) C dX10_row_33 rfl 1 rfl ?_
          refine a_iload_n (pc := 34) C dX10_row_34 rfl 2 rfl ?_
          refine a_iload_n (pc := 35) C dX10_row_35 rfl 3 rfl ?_
          obtain ⟨q7, eq7, h⟩ := bndS h
          refine a_callVV (pc := 36) C [.int x1, .int x2, .int x3] (ok_fShelves_holdRow X.l X.N M x1 x2 x3 eq7) rfl mw_X4_holdRow wd_1020 rfl rfl rfl rfl rfl rfl rfl dX10_row_36 ?_
          refine a_iconst (pc := 39) C 1 dX10_row_39 rfl ?_
          exact a_iret (pc := 40) C E rfl (som1 h) (som2 h) dX10_row_40
        · replace h := iteF c6 h
          refine a_bipush (pc := 26) C (-14) dX10_row_26 rfl ?_
          exact a_iret (pc := 28) C E rfl (som1 h) (som2 h) dX10_row_28
      · replace h := iteF c5 h
        refine a_iconst (pc := 20) C (-1) dX10_row_20 rfl ?_
        exact a_iret (pc := 21) C E rfl (som1 h) (som2 h) dX10_row_21
set_option maxHeartbeats 200000 in
set_option maxRecDepth 100000 in
theorem ok_fSh_put (l : Launch) (N : Rig) (M : Mem) (x1 : Int32) (x2 : Int32) (y3 : Int64) {r : Int32} {M0 : Mem} (h : fSh_put M x1 x2 y3 = some (r, M0)) : Ct l N yX10_put cX10_put 6 (some .int) 3 [.ref (N.2.1 0), .int x1, .int x2, .long y3] M (QcI N (some .int) r M0) := by
  refine ct_of (by decide) rfl ?_
  intro X el eN eL C E
  subst el
  subst eN
  unfold fSh_put at h
  show WA X M [(0, .ref (X.N.2.1 0)), (1, .int x1), (2, .int x2), (3, .long y3)] 0 []
  refine a_iload_n (pc := 0) C dX10_put_0 rfl 1 rfl ?_
  refine a_callSI (pc := 1) C [.int x1] (ok_fShelves_isShelf X.l X.N M x1) rfl mw_X4_isShelf wd_479 rfl rfl rfl dX10_put_1 (fun z1 => ?_)
  refine a_if_ne (pc := 4) C 9 dX10_put_4 rfl (fun c2 => ?_) (fun c2 => ?_)
  · replace h := iteT c2 h
    refine a_aload_n (pc := 9) C dX10_put_9 rfl 0 rfl ?_
    refine gf_10_5 (pc := 10) C wd_431 dX10_put_10 ?_
    refine a_iload_n (pc := 13) C dX10_put_13 rfl 1 rfl ?_
    refine a_iload_n (pc := 14) C dX10_put_14 rfl 2 rfl ?_
    obtain ⟨v3, ev3, h⟩ := bndS h
    refine a_callVI (pc := 15) C [.int x1, .int x2] (ok_fShelves_refusalAt X.l X.N M x1 x2 ev3) rfl mw_X4_refusalAt wd_1031 rfl rfl rfl rfl rfl rfl rfl dX10_put_15 (fun z4 => ?_)
    refine a_istore (pc := 18) C [(5, .int v3), (0, .ref (X.N.2.1 0)), (1, .int x1), (2, .int x2), (3, .long y3)] dX10_put_18 (nlt eL rfl) rfl ?_
    refine a_iload (pc := 20) C dX10_put_20 0 rfl ?_
    refine a_if_eq (pc := 22) C 28 dX10_put_22 rfl (fun c5 => ?_) (fun c5 => ?_)
    · replace h := iteT c5 h
      refine a_aload_n (pc := 28) C dX10_put_28 rfl 1 rfl ?_
      refine gf_10_5 (pc := 29) C wd_431 dX10_put_29 ?_
      refine gf_4_2 (pc := 32) C wd_396 dX10_put_32 ?_
      refine a_iload_n (pc := 35) C dX10_put_35 rfl 2 rfl ?_
      obtain ⟨k6, ek6, h⟩ := bndS h
      have hk6 := rw_of ek6
      refine a_aald (pc := 36) C ek6 dX10_put_36 ?_
      refine a_iload_n (pc := 37) C dX10_put_37 rfl 3 rfl ?_
      refine a_aload_n (pc := 38) C dX10_put_38 rfl 1 rfl ?_
      refine gf_10_5 (pc := 39) C wd_431 dX10_put_39 ?_
      refine gf_4_0 (pc := 42) C wd_392 dX10_put_42 ?_
      refine a_iload_n (pc := 45) C dX10_put_45 rfl 2 rfl ?_
      obtain ⟨v7, ev7, h⟩ := bndS h
      refine a_iald (pc := 46) C rfl ev7 dX10_put_46 ?_
      refine a_lload_n (pc := 47) C dX10_put_47 rfl 4 rfl ?_
      refine a_callSL (pc := 48) C [.int v7, .long y3] (ok_fShelves_lowest X.l X.N M v7 y3) rfl mw_X4_lowest wd_1040 rfl rfl rfl dX10_put_48 ?_
      obtain ⟨M8, eM8, h⟩ := bndS h
      refine a_last (pc := 51) C (rw_shp hk6) eM8 dX10_put_51 ?_
      refine a_iconst (pc := 52) C 1 dX10_put_52 rfl ?_
      exact a_iret (pc := 53) C E rfl (som1 h) (som2 h) dX10_put_53
    · replace h := iteF c5 h
      refine a_iload (pc := 25) C dX10_put_25 0 rfl ?_
      exact a_iret (pc := 27) C E rfl (som1 h) (som2 h) dX10_put_27
  · replace h := iteF c2 h
    refine a_iconst (pc := 7) C (-1) dX10_put_7 rfl ?_
    exact a_iret (pc := 8) C E rfl (som1 h) (som2 h) dX10_put_8
set_option maxHeartbeats 200000 in
set_option maxRecDepth 100000 in
theorem ok_fSh_element (l : Launch) (N : Rig) (M : Mem) (x1 : Int32) (x2 : Int32) {r : Int64} (h : fSh_element M x1 x2 = some r) : Ct l N yX10_element cX10_element 3 (some .long) 3 [.ref (N.2.1 0), .int x1, .int x2] M (QcL N r M) := by
  refine ct_of (by decide) rfl ?_
  intro X el eN eL C E
  subst el
  subst eN
  unfold fSh_element at h
  show WA X M [(0, .ref (X.N.2.1 0)), (1, .int x1), (2, .int x2)] 0 []
  refine a_iload_n (pc := 0) C dX10_element_0 rfl 1 rfl ?_
  refine a_callSI (pc := 1) C [.int x1] (ok_fShelves_isShelf X.l X.N M x1) rfl mw_X4_isShelf wd_479 rfl rfl rfl dX10_element_1 (fun z1 => ?_)
  refine a_if_eq (pc := 4) C 19 dX10_element_4 rfl (fun c2 => ?_) (fun c2 => ?_)
  · replace h := iteT c2 h
    refine a_ldc2_w (pc := 19) C (v := (-9223372036854775808)) dX10_element_19 wd_749 ?_
    exact a_lret (pc := 22) C E (somI h) rfl dX10_element_22
  · replace h := iteF c2 h
    refine a_aload_n (pc := 7) C dX10_element_7 rfl 0 rfl ?_
    refine gf_10_5 (pc := 8) C wd_431 dX10_element_8 ?_
    refine a_iload_n (pc := 11) C dX10_element_11 rfl 1 rfl ?_
    refine a_iload_n (pc := 12) C dX10_element_12 rfl 2 rfl ?_
    obtain ⟨v3, ev3, h⟩ := bndS h
    refine a_callVI (pc := 13) C [.int x1, .int x2] (ok_fShelves_refusalAt X.l X.N M x1 x2 ev3) rfl mw_X4_refusalAt wd_1031 rfl rfl rfl rfl rfl rfl rfl dX10_element_13 (fun z4 => ?_)
    refine a_if_eq (pc := 16) C 23 dX10_element_16 rfl (fun c5 => ?_) (fun c5 => ?_)
    · replace h := iteT c5 h
      refine a_aload_n (pc := 23) C dX10_element_23 rfl 0 rfl ?_
      refine gf_10_5 (pc := 24) C wd_431 dX10_element_24 ?_
      refine gf_4_2 (pc := 27) C wd_396 dX10_element_27 ?_
      refine a_iload_n (pc := 30) C dX10_element_30 rfl 1 rfl ?_
      obtain ⟨k6, ek6, h⟩ := bndS h
      have hk6 := rw_of ek6
      refine a_aald (pc := 31) C ek6 dX10_element_31 ?_
      refine a_iload_n (pc := 32) C dX10_element_32 rfl 2 rfl ?_
      obtain ⟨v7, ev7, h⟩ := bndS h
      refine a_lald (pc := 33) C (rw_shp hk6) ev7 dX10_element_33 ?_
      exact a_lret (pc := 34) C E (somI h) rfl dX10_element_34
    · replace h := iteF c5 h
      refine a_ldc2_w (pc := 19) C (v := (-9223372036854775808)) dX10_element_19 wd_749 ?_
      exact a_lret (pc := 22) C E (somI h) rfl dX10_element_22
set_option maxHeartbeats 200000 in
set_option maxRecDepth 100000 in
theorem ok_fSh_shift (l : Launch) (N : Rig) (M : Mem) (x1 : Int32) (x2 : Int32) (x3 : Int32) (x4 : Int32) (x5 : Int32) {r : Int32} {M0 : Mem} (h : fSh_shift M x1 x2 x3 x4 x5 = some (r, M0)) : Ct l N yX10_shift cX10_shift 6 (some .int) 2 [.ref (N.2.1 0), .int x1, .int x2, .int x3, .int x4, .int x5] M (QcI N (some .int) r M0) := by
  refine ct_of (by decide) rfl ?_
  intro X el eN eL C E
  subst el
  subst eN
  unfold fSh_shift at h
  show WA X M [(0, .ref (X.N.2.1 0)), (1, .int x1), (2, .int x2), (3, .int x3), (4, .int x4), (5, .int x5)] 0 []
  refine a_iload_n (pc := 0) C dX10_shift_0 rfl 1 rfl ?_
  refine a_callSI (pc := 1) C [.int x1] (ok_fShelves_isShelf X.l X.N M x1) rfl mw_X4_isShelf wd_479 rfl rfl rfl dX10_shift_1 (fun z1 => ?_)
  refine a_if_eq (pc := 4) C 14 dX10_shift_4 rfl (fun c2 => ?_) (fun c2 => ?_)
  · replace h := iteT c2 h
    refine a_iconst (pc := 14) C (-1) dX10_shift_14 rfl ?_
    exact a_iret (pc := 15) C E rfl (som1 h) (som2 h) dX10_shift_15
  · replace h := iteF c2 h
    refine a_iload_n (pc := 7) C dX10_shift_7 rfl 3 rfl ?_
    refine a_callSI (pc := 8) C [.int x3] (ok_fShelves_isShelf X.l X.N M x3) rfl mw_X4_isShelf wd_479 rfl rfl rfl dX10_shift_8 (fun z3 => ?_)
    refine a_if_ne (pc := 11) C 16 dX10_shift_11 rfl (fun c4 => ?_) (fun c4 => ?_)
    · replace h := iteT c4 h
      refine a_aload_n (pc := 16) C dX10_shift_16 rfl 0 rfl ?_
      refine gf_10_5 (pc := 17) C wd_431 dX10_shift_17 ?_
      refine a_iload_n (pc := 20) C dX10_shift_20 rfl 1 rfl ?_
      obtain ⟨v5, ev5, h⟩ := bndS h
      refine a_callVI (pc := 21) C [.int x1] (ok_fShelves_isEmpty X.l X.N M x1 ev5) rfl mw_X4_isEmpty wd_482 rfl rfl rfl rfl rfl rfl rfl dX10_shift_21 (fun z6 => ?_)
      refine a_if_ne (pc := 24) C 38 dX10_shift_24 rfl (fun c7 => ?_) (fun c7 => ?_)
      · replace h := iteT c7 h
        refine a_bipush (pc := 38) C (-11) dX10_shift_38 rfl ?_
        exact a_iret (pc := 40) C E rfl (som1 h) (som2 h) dX10_shift_40
      · replace h := iteF c7 h
        refine a_aload_n (pc := 27) C dX10_shift_27 rfl 0 rfl ?_
        refine gf_10_5 (pc := 28) C wd_431 dX10_shift_28 ?_
        refine a_iload_n (pc := 31) C dX10_shift_31 rfl 3 rfl ?_
        obtain ⟨v8, ev8, h⟩ := bndS h
        refine a_callVI (pc := 32) C [.int x3] (ok_fShelves_isEmpty X.l X.N M x3 ev8) rfl mw_X4_isEmpty wd_482 rfl rfl rfl rfl rfl rfl rfl dX10_shift_32 (fun z9 => ?_)
        refine a_if_eq (pc := 35) C 41 dX10_shift_35 rfl (fun c10 => ?_) (fun c10 => ?_)
        · replace h := iteT c10 h
          refine a_aload_n (pc := 41) C dX10_shift_41 rfl 0 rfl ?_
          refine gf_10_5 (pc := 42) C wd_431 dX10_shift_42 ?_
          refine a_iload_n (pc := 45) C dX10_shift_45 rfl 1 rfl ?_
          obtain ⟨v11, ev11, h⟩ := bndS h
          refine a_callVI (pc := 46) C [.int x1] (ok_fShelves_isRow X.l X.N M x1 ev11) rfl mw_X4_isRow wd_1051 rfl rfl rfl rfl rfl rfl rfl dX10_shift_46 (fun z12 => ?_)
          refine a_if_eq (pc := 49) C 72 dX10_shift_49 rfl (fun c13 => ?_) (fun c13 => ?_)
          · replace h := iteT c13 h
            refine a_bipush (pc := 72) C (-12) dX10_shift_72 rfl ?_
            exact a_iret (pc := 74) C E rfl (som1 h) (som2 h) dX10_shift_74
          · replace h := iteF c13 h
            refine a_aload_n (pc := 52) C dX10_shift_52 rfl 0 rfl ?_
            refine gf_10_5 (pc := 53) C wd_431 dX10_shift_53 ?_
            refine a_iload_n (pc := 56) C dX10_shift_56 rfl 3 rfl ?_
            refine a_aload_n (pc := 57) C dX10_shift_57 rfl 0 rfl ?_
            refine gf_10_5 (pc := 58) C wd_431 dX10_shift_58 ?_
            refine gf_4_0 (pc := 61) C wd_392 dX10_shift_61 ?_
            refine a_iload_n (pc := 64) C dX10_shift_64 rfl 1 rfl ?_
            obtain ⟨v14, ev14, h⟩ := bndS h
            refine a_iald (pc := 65) C rfl ev14 dX10_shift_65 ?_
            obtain ⟨v15, ev15, h⟩ := bndS h
            refine a_callVI (pc := 66) C [.int x3, .int v14] (ok_fShelves_isRowOf X.l X.N M x3 v14 ev15) rfl mw_X4_isRowOf wd_486 rfl rfl rfl rfl rfl rfl rfl dX10_shift_66 (fun z16 => ?_)
            refine a_if_ne (pc := 69) C 75 dX10_shift_69 rfl (fun c17 => ?_) (fun c17 => ?_)
            · replace h := iteT c17 h
              refine a_aload_n (pc := 75) C dX10_shift_75 rfl 0 rfl ?_
              refine gf_10_5 (pc := 76) C wd_431 dX10_shift_76 ?_
              refine a_iload_n (pc := 79) C dX10_shift_79 rfl 1 rfl ?_
              refine a_iload_n (pc := 80) C dX10_shift_80 rfl 2 rfl ?_
              refine a_iload (pc := 81) C dX10_shift_81 5 rfl ?_
              obtain ⟨v18, ev18, h⟩ := bndS h
              refine a_callVI (pc := 83) C [.int x1, .int x2, .int x5] (ok_fShelves_hasPart X.l X.N M x1 x2 x5 ev18) rfl mw_X4_hasPart wd_490 rfl rfl rfl rfl rfl rfl rfl dX10_shift_83 (fun z19 => ?_)
              refine a_if_eq (pc := 86) C 104 dX10_shift_86 rfl (fun c20 => ?_) (fun c20 => ?_)
              · replace h := iteT c20 h
                refine a_bipush (pc := 104) C (-13) dX10_shift_104 rfl ?_
                exact a_iret (pc := 106) C E rfl (som1 h) (som2 h) dX10_shift_106
              · replace h := iteF c20 h
                refine a_aload_n (pc := 89) C dX10_shift_89 rfl 0 rfl ?_
                refine gf_10_5 (pc := 90) C wd_431 dX10_shift_90 ?_
                refine a_iload_n (pc := 93) C dX10_shift_93 rfl 3 rfl ?_
                refine a_iload (pc := 94) C dX10_shift_94 4 rfl ?_
                refine a_iload (pc := 96) C dX10_shift_96 5 rfl ?_
                obtain ⟨v21, ev21, h⟩ := bndS h
                refine a_callVI (pc := 98) C [.int x3, .int x4, .int x5] (ok_fShelves_hasPart X.l X.N M x3 x4 x5 ev21) rfl mw_X4_hasPart wd_490 rfl rfl rfl rfl rfl rfl rfl dX10_shift_98 (fun z22 => ?_)
                refine a_if_ne (pc := 101) C 107 dX10_shift_101 rfl (fun c23 => ?_) (fun c23 => ?_)
                · replace h := iteT c23 h
                  refine a_aload_n (pc := 107) C dX10_shift_107 rfl 0 rfl ?_
                  refine gf_10_5 (pc := 108) C wd_431 dX10_shift_108 ?_
                  refine gf_4_2 (pc := 111) C wd_396 dX10_shift_111 ?_
                  refine a_iload_n (pc := 114) C dX10_shift_114 rfl 1 rfl ?_
                  obtain ⟨k24, ek24, h⟩ := bndS h
                  have hk24 := rw_of ek24
                  refine a_aald (pc := 115) C ek24 dX10_shift_115 ?_
                  refine a_iload_n (pc := 116) C dX10_shift_116 rfl 2 rfl ?_
                  refine a_aload_n (pc := 117) C dX10_shift_117 rfl 0 rfl ?_
                  refine gf_10_5 (pc := 118) C wd_431 dX10_shift_118 ?_
                  refine gf_4_2 (pc := 121) C wd_396 dX10_shift_121 ?_
                  refine a_iload_n (pc := 124) C dX10_shift_124 rfl 3 rfl ?_
                  obtain ⟨k25, ek25, h⟩ := bndS h
                  have hk25 := rw_of ek25
                  refine a_aald (pc := 125) C ek25 dX10_shift_125 ?_
                  refine a_iload (pc := 126) C dX10_shift_126 4 rfl ?_
                  refine a_iload (pc := 128) C dX10_shift_128 5 rfl ?_
                  obtain ⟨M26, eM26, h⟩ := bndS h
                  refine a_copyL (pc := 130) C (rw_shp hk24) (rw_shp hk25) eM26 rfl wd_923 wd_533 wd_532 wd_93 rfl dX10_shift_130 ?_
                  refine a_iload (pc := 133) C dX10_shift_133 5 rfl ?_
                  exact a_iret (pc := 135) C E rfl (som1 h) (som2 h) dX10_shift_135
                · replace h := iteF c23 h
                  refine a_bipush (pc := 104) C (-13) dX10_shift_104 rfl ?_
                  exact a_iret (pc := 106) C E rfl (som1 h) (som2 h) dX10_shift_106
            · replace h := iteF c17 h
              refine a_bipush (pc := 72) C (-12) dX10_shift_72 rfl ?_
              exact a_iret (pc := 74) C E rfl (som1 h) (som2 h) dX10_shift_74
        · replace h := iteF c10 h
          refine a_bipush (pc := 38) C (-11) dX10_shift_38 rfl ?_
          exact a_iret (pc := 40) C E rfl (som1 h) (som2 h) dX10_shift_40
    · replace h := iteF c4 h
      refine a_iconst (pc := 14) C (-1) dX10_shift_14 rfl ?_
      exact a_iret (pc := 15) C E rfl (som1 h) (som2 h) dX10_shift_15
set_option maxHeartbeats 200000 in
set_option maxRecDepth 100000 in
theorem ok_fSh_taken (l : Launch) (N : Rig) (M : Mem) (x1 : Int32) (x2 : Int32) {r : Int32} (h : fSh_taken M x1 x2 = some r) : Ct l N yX10_taken cX10_taken 4 (some .int) 2 [.ref (N.2.1 0), .int x1, .int x2] M (QcI N (some .int) r M) := by
  refine ct_of (by decide) rfl ?_
  intro X el eN eL C E
  subst el
  subst eN
  unfold fSh_taken at h
  show WA X M [(0, .ref (X.N.2.1 0)), (1, .int x1), (2, .int x2)] 0 []
  refine a_iload_n (pc := 0) C dX10_taken_0 rfl 1 rfl ?_
  refine a_callSI (pc := 1) C [.int x1] (ok_fShelves_isShelf X.l X.N M x1) rfl mw_X4_isShelf wd_479 rfl rfl rfl dX10_taken_1 (fun z1 => ?_)
  refine a_if_eq (pc := 4) C 14 dX10_taken_4 rfl (fun c2 => ?_) (fun c2 => ?_)
  · replace h := iteT c2 h
    refine a_iconst (pc := 14) C (-1) dX10_taken_14 rfl ?_
    exact a_iret (pc := 15) C E rfl (somI h) rfl dX10_taken_15
  · replace h := iteF c2 h
    refine a_iload_n (pc := 7) C dX10_taken_7 rfl 2 rfl ?_
    refine a_callSI (pc := 8) C [.int x2] (ok_fBodies_isKind X.l X.N M x2) rfl mw_X1_isKind wd_952 rfl rfl rfl dX10_taken_8 (fun z3 => ?_)
    refine a_if_ne (pc := 11) C 16 dX10_taken_11 rfl (fun c4 => ?_) (fun c4 => ?_)
    · replace h := iteT c4 h
      refine a_aload_n (pc := 16) C dX10_taken_16 rfl 0 rfl ?_
      refine gf_10_5 (pc := 17) C wd_431 dX10_taken_17 ?_
      refine a_iload_n (pc := 20) C dX10_taken_20 rfl 1 rfl ?_
      obtain ⟨v5, ev5, h⟩ := bndS h
      refine a_callVI (pc := 21) C [.int x1] (ok_fShelves_isEmpty X.l X.N M x1 ev5) rfl mw_X4_isEmpty wd_482 rfl rfl rfl rfl rfl rfl rfl dX10_taken_21 (fun z6 => ?_)
      refine a_if_eq (pc := 24) C 30 dX10_taken_24 rfl (fun c7 => ?_) (fun c7 => ?_)
      · replace h := iteT c7 h
        refine a_aload_n (pc := 30) C dX10_taken_30 rfl 0 rfl ?_
        refine gf_10_5 (pc := 31) C wd_431 dX10_taken_31 ?_
        refine a_iload_n (pc := 34) C dX10_taken_34 rfl 1 rfl ?_
        obtain ⟨v8, ev8, h⟩ := bndS h
        refine a_callVI (pc := 35) C [.int x1] (ok_fShelves_isRow X.l X.N M x1 ev8) rfl mw_X4_isRow wd_1051 rfl rfl rfl rfl rfl rfl rfl dX10_taken_35 (fun z9 => ?_)
        refine a_if_eq (pc := 38) C 44 dX10_taken_38 rfl (fun c10 => ?_) (fun c10 => ?_)
        · replace h := iteT c10 h
          refine a_aload_n (pc := 44) C dX10_taken_44 rfl 0 rfl ?_
          refine gf_10_4 (pc := 45) C wd_430 dX10_taken_45 ?_
          refine a_aload_n (pc := 48) C dX10_taken_48 rfl 0 rfl ?_
          refine gf_10_5 (pc := 49) C wd_431 dX10_taken_49 ?_
          refine gf_4_1 (pc := 52) C wd_394 dX10_taken_52 ?_
          refine a_iload_n (pc := 55) C dX10_taken_55 rfl 1 rfl ?_
          obtain ⟨v11, ev11, h⟩ := bndS h
          refine a_iald (pc := 56) C rfl ev11 dX10_taken_56 ?_
          obtain ⟨v12, ev12, h⟩ := bndS h
          refine a_callVI (pc := 57) C [.int v11] (ok_fBodies_kindOf X.l X.N M v11 ev12) rfl mw_X1_kindOf wd_1056 rfl rfl rfl rfl rfl rfl rfl dX10_taken_57 (fun z13 => ?_)
          refine a_istore_n (pc := 60) C [(3, .int v12), (0, .ref (X.N.2.1 0)), (1, .int x1), (2, .int x2)] dX10_taken_60 rfl (nlt eL rfl) rfl ?_
          refine a_iload_n (pc := 61) C dX10_taken_61 rfl 0 rfl ?_
          refine a_iload_n (pc := 62) C dX10_taken_62 rfl 3 rfl ?_
          obtain ⟨v14, ev14, h⟩ := bndS h
          refine a_callSI (pc := 63) C [.int v12, .int x2] (ok_fBodies_isUnder X.l X.N M v12 x2 ev14) rfl mw_X1_isUnder wd_1060 rfl rfl rfl dX10_taken_63 (fun z15 => ?_)
          refine a_if_eq (pc := 66) C 73 dX10_taken_66 rfl (fun c16 => ?_) (fun c16 => ?_)
          · replace h := iteT c16 h
            refine a_bipush (pc := 73) C (-12) dX10_taken_73 rfl ?_
            exact a_iret (pc := 75) C E rfl (somI h) rfl dX10_taken_75
          · replace h := iteF c16 h
            refine a_iload_n (pc := 69) C dX10_taken_69 rfl 0 rfl ?_
            refine a_goto (pc := 70) C 75 dX10_taken_70 rfl ?_
            exact a_iret (pc := 75) C E rfl (somI h) rfl dX10_taken_75
        · replace h := iteF c10 h
          refine a_bipush (pc := 41) C (-12) dX10_taken_41 rfl ?_
          exact a_iret (pc := 43) C E rfl (somI h) rfl dX10_taken_43
      · replace h := iteF c7 h
        refine a_bipush (pc := 27) C (-11) dX10_taken_27 rfl ?_
        exact a_iret (pc := 29) C E rfl (somI h) rfl dX10_taken_29
    · replace h := iteF c4 h
      refine a_iconst (pc := 14) C (-1) dX10_taken_14 rfl ?_
      exact a_iret (pc := 15) C E rfl (somI h) rfl dX10_taken_15
set_option maxHeartbeats 200000 in
set_option maxRecDepth 100000 in
theorem ok_fSh_count (l : Launch) (N : Rig) (M : Mem) (x1 : Int32) {r : Int32} (h : fSh_count M x1 = some r) : Ct l N yX10_count cX10_count 2 (some .int) 1 [.ref (N.2.1 0), .int x1] M (QcI N (some .int) r M) := by
  refine ct_of (by decide) rfl ?_
  intro X el eN eL C E
  subst el
  subst eN
  unfold fSh_count at h
  show WA X M [(0, .ref (X.N.2.1 0)), (1, .int x1)] 0 []
  refine a_iload_n (pc := 0) C dX10_count_0 rfl 1 rfl ?_
  by_cases c1 : x1 = 0
  · replace h := iteT c1 h
    refine a_tsw_in (pc := 1) C 0 40 dX10_count_1 c1 (by decide) (by decide) rfl rfl ?_
    refine a_aload_n (pc := 40) C dX10_count_40 rfl 0 rfl ?_
    refine gf_10_0 (pc := 41) C wd_426 dX10_count_41 ?_
    refine gf_9_0 (pc := 44) C wd_253 dX10_count_44 ?_
    refine gf_7_4 (pc := 47) C wd_134 dX10_count_47 ?_
    exact a_iret (pc := 50) C E rfl (somI h) rfl dX10_count_50
  replace h := iteF c1 h
  by_cases c2 : x1 = 1
  · replace h := iteT c2 h
    refine a_tsw_in (pc := 1) C 1 51 dX10_count_1 c2 (by decide) (by decide) rfl rfl ?_
    refine a_aload_n (pc := 51) C dX10_count_51 rfl 0 rfl ?_
    refine gf_10_0 (pc := 52) C wd_426 dX10_count_52 ?_
    refine gf_9_1 (pc := 55) C wd_257 dX10_count_55 ?_
    obtain ⟨v3, ev3, h⟩ := bndS h
    refine a_callVI (pc := 58) C [] (ok_fStreet_luckyCells X.l X.N M 36 st36 ev3) rfl mw_X5_luckyCells wd_1067 (st_shp st36) (st_blt st36) rfl rfl rfl rfl rfl dX10_count_58 (fun z4 => ?_)
    exact a_iret (pc := 61) C E rfl (somI h) rfl dX10_count_61
  replace h := iteF c2 h
  by_cases c5 : x1 = 2
  · replace h := iteT c5 h
    refine a_tsw_in (pc := 1) C 2 62 dX10_count_1 c5 (by decide) (by decide) rfl rfl ?_
    refine a_aload_n (pc := 62) C dX10_count_62 rfl 0 rfl ?_
    refine gf_10_0 (pc := 63) C wd_426 dX10_count_63 ?_
    refine gf_9_2 (pc := 66) C wd_261 dX10_count_66 ?_
    refine gf_3_0 (pc := 69) C wd_207 dX10_count_69 ?_
    exact a_iret (pc := 72) C E rfl (somI h) rfl dX10_count_72
  replace h := iteF c5 h
  by_cases c6 : x1 = 3
  · replace h := iteT c6 h
    refine a_tsw_in (pc := 1) C 3 73 dX10_count_1 c6 (by decide) (by decide) rfl rfl ?_
    refine a_aload_n (pc := 73) C dX10_count_73 rfl 0 rfl ?_
    refine gf_10_3 (pc := 74) C wd_429 dX10_count_74 ?_
    refine gf_2_4 (pc := 77) C wd_345 dX10_count_77 ?_
    exact a_iret (pc := 80) C E rfl (somI h) rfl dX10_count_80
  replace h := iteF c6 h
  by_cases c7 : x1 = 4
  · replace h := iteT c7 h
    refine a_tsw_in (pc := 1) C 4 81 dX10_count_1 c7 (by decide) (by decide) rfl rfl ?_
    refine a_aload_n (pc := 81) C dX10_count_81 rfl 0 rfl ?_
    refine gf_10_4 (pc := 82) C wd_430 dX10_count_82 ?_
    refine gf_1_0 (pc := 85) C wd_367 dX10_count_85 ?_
    exact a_iret (pc := 88) C E rfl (somI h) rfl dX10_count_88
  replace h := iteF c7 h
  by_cases c8 : x1 = 5
  · replace h := iteT c8 h
    refine a_tsw_in (pc := 1) C 5 89 dX10_count_1 c8 (by decide) (by decide) rfl rfl ?_
    refine a_aload_n (pc := 89) C dX10_count_89 rfl 0 rfl ?_
    refine gf_10_4 (pc := 90) C wd_430 dX10_count_90 ?_
    refine gf_1_1 (pc := 93) C wd_369 dX10_count_93 ?_
    exact a_iret (pc := 96) C E rfl (somI h) rfl dX10_count_96
  replace h := iteF c8 h
  refine a_tsw_out (pc := 1) C 97 dX10_count_1 (by have := neI 0 rfl c1; have := neI 1 rfl c2; have := neI 2 rfl c5; have := neI 3 rfl c6; have := neI 4 rfl c7; have := neI 5 rfl c8; omega) rfl ?_
  refine a_iconst (pc := 97) C (-1) dX10_count_97 rfl ?_
  exact a_iret (pc := 98) C E rfl (somI h) rfl dX10_count_98
set_option maxHeartbeats 200000 in
set_option maxRecDepth 100000 in
theorem ok_fMd_within (l : Launch) (N : Rig) (M : Mem) (x0 : Int32) (x1 : Int32) (x2 : Int32) : Ct l N yX11_within cX11_within 3 (some .boolean) 0 [.int x0, .int x1, .int x2] M (QcI N (some .boolean) (fMd_within x0 x1 x2) M) := by
  obtain ⟨r, h⟩ : ∃ r, fMd_within x0 x1 x2 = r := ⟨_, rfl⟩
  rw [h]
  refine ct_of (by decide) rfl ?_
  intro X el eN eL C E
  subst el
  subst eN
  unfold fMd_within at h
  show WA X M [(0, .int x0), (1, .int x1), (2, .int x2)] 0 []
  refine a_iload_n (pc := 0) C dX11_within_0 rfl 0 rfl ?_
  refine a_iload_n (pc := 1) C dX11_within_1 rfl 1 rfl ?_
  refine a_icmp_lt (pc := 2) C 14 dX11_within_2 rfl (fun c1 => ?_) (fun c1 => ?_)
  · replace h := iteT c1 h
    refine a_iconst (pc := 14) C 0 dX11_within_14 rfl ?_
    exact a_iret (pc := 15) C E rfl h rfl dX11_within_15
  · replace h := iteF c1 h
    refine a_iload_n (pc := 5) C dX11_within_5 rfl 0 rfl ?_
    refine a_iload_n (pc := 6) C dX11_within_6 rfl 2 rfl ?_
    refine a_icmp_gt (pc := 7) C 14 dX11_within_7 rfl (fun c2 => ?_) (fun c2 => ?_)
    · replace h := iteT c2 h
      refine a_iconst (pc := 14) C 0 dX11_within_14 rfl ?_
      exact a_iret (pc := 15) C E rfl h rfl dX11_within_15
    · replace h := iteF c2 h
      refine a_iconst (pc := 10) C 1 dX11_within_10 rfl ?_
      refine a_goto (pc := 11) C 15 dX11_within_11 rfl ?_
      exact a_iret (pc := 15) C E rfl h rfl dX11_within_15
set_option maxHeartbeats 200000 in
set_option maxRecDepth 100000 in
theorem ok_fMd_isCell (l : Launch) (N : Rig) (M : Mem) (x0 : Int32) : Ct l N yX11_isCell cX11_isCell 1 (some .boolean) 1 [.int x0] M (QcI N (some .boolean) (fMd_isCell x0) M) := by
  obtain ⟨r, h⟩ : ∃ r, fMd_isCell x0 = r := ⟨_, rfl⟩
  rw [h]
  refine ct_of (by decide) rfl ?_
  intro X el eN eL C E
  subst el
  subst eN
  unfold fMd_isCell at h
  show WA X M [(0, .int x0)] 0 []
  refine a_iload_n (pc := 0) C dX11_isCell_0 rfl 0 rfl ?_
  refine a_iconst (pc := 1) C 0 dX11_isCell_1 rfl ?_
  refine a_bipush (pc := 2) C 35 dX11_isCell_2 rfl ?_
  refine a_callSI (pc := 4) C [.int x0, .int 0, .int 35] (ok_fMd_within X.l X.N M x0 0 35) rfl mw_X11_within wd_1220 rfl rfl rfl dX11_isCell_4 (fun z1 => ?_)
  exact a_iret (pc := 7) C E (z1 _ rfl) h rfl dX11_isCell_7
set_option maxHeartbeats 200000 in
set_option maxRecDepth 100000 in
theorem ok_fMd_isOne (l : Launch) (N : Rig) (M : Mem) (x1 : Int32) : Ct l N yX11_isOne cX11_isOne 2 (some .boolean) 1 [.ref (N.2.1 66), .int x1] M (QcI N (some .boolean) (fMd_isOne M x1) M) := by
  obtain ⟨r, h⟩ : ∃ r, fMd_isOne M x1 = r := ⟨_, rfl⟩
  rw [h]
  refine ct_of (by decide) rfl ?_
  intro X el eN eL C E
  subst el
  subst eN
  unfold fMd_isOne at h
  show WA X M [(0, .ref (X.N.2.1 66)), (1, .int x1)] 0 []
  refine a_iload_n (pc := 0) C dX11_isOne_0 rfl 1 rfl ?_
  refine a_iconst (pc := 1) C 0 dX11_isOne_1 rfl ?_
  refine a_aload_n (pc := 2) C dX11_isOne_2 rfl 0 rfl ?_
  refine gf_11_3 (pc := 3) C wd_1080 dX11_isOne_3 ?_
  refine a_iconst (pc := 6) C 1 dX11_isOne_6 rfl ?_
  refine a_isub (pc := 7) C dX11_isOne_7 ?_
  refine a_callSI (pc := 8) C [.int x1, .int 0, .int ((M.1 66 3) - 1)] (ok_fMd_within X.l X.N M x1 0 ((M.1 66 3) - 1)) rfl mw_X11_within wd_1220 rfl rfl rfl dX11_isOne_8 (fun z1 => ?_)
  exact a_iret (pc := 11) C E (z1 _ rfl) h rfl dX11_isOne_11
set_option maxHeartbeats 200000 in
set_option maxRecDepth 100000 in
theorem ok_fMd_isTime (l : Launch) (N : Rig) (M : Mem) (x0 : Int32) : Ct l N yX11_isTime cX11_isTime 1 (some .boolean) 1 [.int x0] M (QcI N (some .boolean) (fMd_isTime x0) M) := by
  obtain ⟨r, h⟩ : ∃ r, fMd_isTime x0 = r := ⟨_, rfl⟩
  rw [h]
  refine ct_of (by decide) rfl ?_
  intro X el eN eL C E
  subst el
  subst eN
  unfold fMd_isTime at h
  show WA X M [(0, .int x0)] 0 []
  refine a_iload_n (pc := 0) C dX11_isTime_0 rfl 0 rfl ?_
  refine a_iconst (pc := 1) C 0 dX11_isTime_1 rfl ?_
  refine a_bipush (pc := 2) C 48 dX11_isTime_2 rfl ?_
  refine a_callSI (pc := 4) C [.int x0, .int 0, .int 48] (ok_fMd_within X.l X.N M x0 0 48) rfl mw_X11_within wd_1220 rfl rfl rfl dX11_isTime_4 (fun z1 => ?_)
  exact a_iret (pc := 7) C E (z1 _ rfl) h rfl dX11_isTime_7
set_option maxHeartbeats 200000 in
set_option maxRecDepth 100000 in
theorem ok_fMd_isShelf (l : Launch) (N : Rig) (M : Mem) (x0 : Int32) : Ct l N yX11_isShelf cX11_isShelf 1 (some .boolean) 1 [.int x0] M (QcI N (some .boolean) (fMd_isShelf x0) M) := by
  obtain ⟨r, h⟩ : ∃ r, fMd_isShelf x0 = r := ⟨_, rfl⟩
  rw [h]
  refine ct_of (by decide) rfl ?_
  intro X el eN eL C E
  subst el
  subst eN
  unfold fMd_isShelf at h
  show WA X M [(0, .int x0)] 0 []
  refine a_iload_n (pc := 0) C dX11_isShelf_0 rfl 0 rfl ?_
  refine a_iconst (pc := 1) C 0 dX11_isShelf_1 rfl ?_
  refine a_iconst (pc := 2) C 5 dX11_isShelf_2 rfl ?_
  refine a_callSI (pc := 3) C [.int x0, .int 0, .int 5] (ok_fMd_within X.l X.N M x0 0 5) rfl mw_X11_within wd_1220 rfl rfl rfl dX11_isShelf_3 (fun z1 => ?_)
  exact a_iret (pc := 6) C E (z1 _ rfl) h rfl dX11_isShelf_6
set_option maxHeartbeats 200000 in
set_option maxRecDepth 100000 in
theorem ok_fMd_newOne (l : Launch) (N : Rig) (M : Mem) (x1 : Int32) (x2 : Int32) (x3 : Int32) {r : Int32} {M0 : Mem} (h : fMd_newOne M x1 x2 x3 = some (r, M0)) : Ct l N yX11_newOne cX11_newOne 4 (some .int) 0 [.ref (N.2.1 66), .int x1, .int x2, .int x3] M (QcI N (some .int) r M0) := by
  refine ct_of (by decide) rfl ?_
  intro X el eN eL C E
  subst el
  subst eN
  unfold fMd_newOne at h
  show WA X M [(0, .ref (X.N.2.1 66)), (1, .int x1), (2, .int x2), (3, .int x3)] 0 []
  refine a_aload_n (pc := 0) C dX11_newOne_0 rfl 0 rfl ?_
  refine gf_11_4 (pc := 1) C wd_1081 dX11_newOne_1 ?_
  refine a_aload_n (pc := 4) C dX11_newOne_4 rfl 0 rfl ?_
  refine gf_11_3 (pc := 5) C wd_1080 dX11_newOne_5 ?_
  refine a_iload_n (pc := 8) C dX11_newOne_8 rfl 1 rfl ?_
  obtain ⟨M1, eM1, h⟩ := bndS h
  refine a_iast (pc := 9) C rfl eM1 dX11_newOne_9 ?_
  refine a_aload_n (pc := 10) C dX11_newOne_10 rfl 0 rfl ?_
  refine gf_11_4 (pc := 11) C wd_1081 dX11_newOne_11 ?_
  refine a_bipush (pc := 14) C 8 dX11_newOne_14 rfl ?_
  refine a_aload_n (pc := 16) C dX11_newOne_16 rfl 0 rfl ?_
  refine gf_11_3 (pc := 17) C wd_1080 dX11_newOne_17 ?_
  refine a_iadd (pc := 20) C dX11_newOne_20 ?_
  refine a_iload_n (pc := 21) C dX11_newOne_21 rfl 2 rfl ?_
  obtain ⟨M2, eM2, h⟩ := bndS h
  refine a_iast (pc := 22) C rfl eM2 dX11_newOne_22 ?_
  refine a_aload_n (pc := 23) C dX11_newOne_23 rfl 0 rfl ?_
  refine gf_11_4 (pc := 24) C wd_1081 dX11_newOne_24 ?_
  refine a_bipush (pc := 27) C 16 dX11_newOne_27 rfl ?_
  refine a_aload_n (pc := 29) C dX11_newOne_29 rfl 0 rfl ?_
  refine gf_11_3 (pc := 30) C wd_1080 dX11_newOne_30 ?_
  refine a_iadd (pc := 33) C dX11_newOne_33 ?_
  refine a_iload_n (pc := 34) C dX11_newOne_34 rfl 3 rfl ?_
  obtain ⟨M3, eM3, h⟩ := bndS h
  refine a_iast (pc := 35) C rfl eM3 dX11_newOne_35 ?_
  refine a_aload_n (pc := 36) C dX11_newOne_36 rfl 0 rfl ?_
  refine gf_11_4 (pc := 37) C wd_1081 dX11_newOne_37 ?_
  refine a_bipush (pc := 40) C 24 dX11_newOne_40 rfl ?_
  refine a_aload_n (pc := 42) C dX11_newOne_42 rfl 0 rfl ?_
  refine gf_11_3 (pc := 43) C wd_1080 dX11_newOne_43 ?_
  refine a_iadd (pc := 46) C dX11_newOne_46 ?_
  refine a_iconst (pc := 47) C 0 dX11_newOne_47 rfl ?_
  obtain ⟨M4, eM4, h⟩ := bndS h
  refine a_iast (pc := 48) C rfl eM4 dX11_newOne_48 ?_
  refine a_aload_n (pc := 49) C dX11_newOne_49 rfl 0 rfl ?_
  refine a_dup (pc := 50) C dX11_newOne_50 rfl ?_
  refine gf_11_3 (pc := 51) C wd_1080 dX11_newOne_51 ?_
  refine a_dup_x1 (pc := 54) C dX11_newOne_54 rfl rfl ?_
  refine a_iconst (pc := 55) C 1 dX11_newOne_55 rfl ?_
  refine a_iadd (pc := 56) C dX11_newOne_56 ?_
  refine pf_11_3 (pc := 57) C wd_1080 dX11_newOne_57 ?_
  exact a_iret (pc := 60) C E rfl (som1 h) (som2 h) dX11_newOne_60
set_option maxHeartbeats 200000 in
set_option maxRecDepth 100000 in
theorem ok_fMd_person (l : Launch) (N : Rig) (M : Mem) (x1 : Int32) {r : Int32} {M0 : Mem} (h : fMd_person M x1 = some (r, M0)) : Ct l N yX11_person cX11_person 2 (some .int) 2 [.ref (N.2.1 66), .int x1] M (QcI N (some .int) r M0) := by
  refine ct_of (by decide) rfl ?_
  intro X el eN eL C E
  subst el
  subst eN
  unfold fMd_person at h
  show WA X M [(0, .ref (X.N.2.1 66)), (1, .int x1)] 0 []
  refine a_iload_n (pc := 0) C dX11_person_0 rfl 1 rfl ?_
  refine a_callSI (pc := 1) C [.int x1] (ok_fMd_isCell X.l X.N M x1) rfl mw_X11_isCell wd_1217 rfl rfl rfl dX11_person_1 (fun z1 => ?_)
  refine a_if_ne (pc := 4) C 9 dX11_person_4 rfl (fun c2 => ?_) (fun c2 => ?_)
  · replace h := iteT c2 h
    refine a_aload_n (pc := 9) C dX11_person_9 rfl 0 rfl ?_
    refine gf_11_3 (pc := 10) C wd_1080 dX11_person_10 ?_
    refine a_bipush (pc := 13) C 8 dX11_person_13 rfl ?_
    refine a_icmp_ne (pc := 15) C 23 dX11_person_15 rfl (fun c3 => ?_) (fun c3 => ?_)
    · replace h := iteT c3 h
      refine a_aload_n (pc := 23) C dX11_person_23 rfl 0 rfl ?_
      refine a_iload_n (pc := 24) C dX11_person_24 rfl 1 rfl ?_
      refine a_iconst (pc := 25) C 5 dX11_person_25 rfl ?_
      refine a_iconst (pc := 26) C 0 dX11_person_26 rfl ?_
      obtain ⟨q4, eq4, h⟩ := bndS h
      refine a_callVI (pc := 27) C [.int x1, .int 5, .int 0] (ok_fMd_newOne X.l X.N M x1 5 0 eq4) rfl mw_X11_newOne wd_1223 rfl rfl rfl rfl rfl rfl rfl dX11_person_27 (fun z5 => ?_)
      exact a_iret (pc := 30) C E rfl (som1 h) (som2 h) dX11_person_30
    · replace h := iteF c3 h
      refine a_bipush (pc := 18) C (-3) dX11_person_18 rfl ?_
      refine a_goto (pc := 20) C 30 dX11_person_20 rfl ?_
      exact a_iret (pc := 30) C E rfl (som1 h) (som2 h) dX11_person_30
  · replace h := iteF c2 h
    refine a_iconst (pc := 7) C (-1) dX11_person_7 rfl ?_
    exact a_iret (pc := 8) C E rfl (som1 h) (som2 h) dX11_person_8
set_option maxHeartbeats 200000 in
set_option maxRecDepth 100000 in
theorem ok_fMd_toldAt (l : Launch) (N : Rig) (M : Mem) (x1 : Int32) (x2 : Int32) {r : Int32} (h : fMd_toldAt M x1 x2 = some r) : Ct l N yX11_toldAt cX11_toldAt 3 (some .int) 0 [.ref (N.2.1 66), .int x1, .int x2] M (QcI N (some .int) r M) := by
  refine ct_of (by decide) rfl ?_
  intro X el eN eL C E
  subst el
  subst eN
  unfold fMd_toldAt at h
  show WA X M [(0, .ref (X.N.2.1 66)), (1, .int x1), (2, .int x2)] 0 []
  refine a_aload_n (pc := 0) C dX11_toldAt_0 rfl 0 rfl ?_
  refine gf_11_38 (pc := 1) C wd_1115 dX11_toldAt_1 ?_
  refine a_bipush (pc := 4) C 60 dX11_toldAt_4 rfl ?_
  refine a_iload_n (pc := 6) C dX11_toldAt_6 rfl 1 rfl ?_
  refine a_imul (pc := 7) C dX11_toldAt_7 ?_
  refine a_iload_n (pc := 8) C dX11_toldAt_8 rfl 2 rfl ?_
  refine a_iadd (pc := 9) C dX11_toldAt_9 ?_
  obtain ⟨v1, ev1, h⟩ := bndS h
  refine a_lald (pc := 10) C rfl ev1 dX11_toldAt_10 ?_
  refine a_l2i (pc := 11) C dX11_toldAt_11 ?_
  exact a_iret (pc := 12) C E rfl (somI h) rfl dX11_toldAt_12
set_option maxHeartbeats 200000 in
set_option maxRecDepth 100000 in
theorem ok_fMd_people_L49 {X : Amb} (eL : X.nL = 9) (C : Cx X RX11 cX11_people 2) (x1 : Int32) (x2 : Int32) (x3 : Int32) (r : Int32) (M0 : Mem) (E : En X (some .int) (QcI X.N (some .int) r M0)) : ∀ (n : Nat) (M : Mem) (x4 : Int32) (x5 : Int32), fMd_people_L49 n M x1 x2 x3 x4 x5 = some (r, M0) → WA X M [(0, .ref (X.N.2.1 66)), (1, .int x1), (2, .int x2), (3, .int x3), (4, .int x4), (5, .int x5)] 49 [] := by
  intro n
  induction n with
  | zero => intro _ _ _ h; cases h
  | succ n ih =>
    intro M x4 x5 h
    replace h : fMd_people_L49_F (fMd_people_L49 n) M x1 x2 x3 x4 x5 = some (r, M0) := h
    unfold fMd_people_L49_F at h
    refine a_iload (pc := 49) C dX11_people_49 5 rfl ?_
    refine a_iload_n (pc := 51) C dX11_people_51 rfl 3 rfl ?_
    refine a_icmp_ge (pc := 52) C 198 dX11_people_52 rfl (fun c9 => ?_) (fun c9 => ?_)
    · replace h := iteT c9 h
      refine a_iload (pc := 198) C dX11_people_198 4 rfl ?_
      exact a_iret (pc := 200) C E rfl (som1 h) (som2 h) dX11_people_200
    · replace h := iteF c9 h
      refine a_iload_n (pc := 55) C dX11_people_55 rfl 2 rfl ?_
      refine a_i2l (pc := 56) C dX11_people_56 ?_
      refine a_ldc2_w (pc := 57) C (v := 3) dX11_people_57 wd_1234 ?_
      refine a_iload (pc := 60) C dX11_people_60 5 rfl ?_
      refine a_i2l (pc := 62) C dX11_people_62 ?_
      refine a_lmul (pc := 63) C dX11_people_63 ?_
      refine a_ladd (pc := 64) C dX11_people_64 ?_
      refine a_lstore (pc := 65) C [(6, .long (x2.toInt64 + (3 * x5.toInt64))), (0, .ref (X.N.2.1 66)), (1, .int x1), (2, .int x2), (3, .int x3), (4, .int x4), (5, .int x5)] dX11_people_65 (nltL eL rfl) rfl ?_
      refine a_lload (pc := 67) C dX11_people_67 0 rfl ?_
      refine a_lconst (pc := 69) C 0 dX11_people_69 rfl ?_
      refine a_lcmp (pc := 70) C dX11_people_70 ?_
      refine a_if_lt (pc := 71) C 100 dX11_people_71 rfl (fun c10 => ?_) (fun c10 => ?_)
      · replace h := iteT c10 h
        refine a_iload (pc := 100) C dX11_people_100 5 rfl ?_
        exact a_iret (pc := 102) C E rfl (som1 h) (som2 h) dX11_people_102
      · replace h := iteF c10 h
        refine a_lload (pc := 74) C dX11_people_74 0 rfl ?_
        refine a_ldc2_w (pc := 76) C (v := 3) dX11_people_76 wd_1234 ?_
        refine a_ladd (pc := 79) C dX11_people_79 ?_
        refine a_aload_n (pc := 80) C dX11_people_80 rfl 1 rfl ?_
        refine gf_11_37 (pc := 81) C wd_1114 dX11_people_81 ?_
        refine a_iload_n (pc := 84) C dX11_people_84 rfl 2 rfl ?_
        obtain ⟨v11, ev11, h⟩ := bndS h
        refine a_iald (pc := 85) C rfl ev11 dX11_people_85 ?_
        refine a_i2l (pc := 86) C dX11_people_86 ?_
        refine a_lcmp (pc := 87) C dX11_people_87 ?_
        refine a_if_gt (pc := 88) C 100 dX11_people_88 rfl (fun c12 => ?_) (fun c12 => ?_)
        · replace h := iteT c12 h
          refine a_iload (pc := 100) C dX11_people_100 5 rfl ?_
          exact a_iret (pc := 102) C E rfl (som1 h) (som2 h) dX11_people_102
        · replace h := iteF c12 h
          refine a_aload_n (pc := 91) C dX11_people_91 rfl 1 rfl ?_
          refine gf_11_3 (pc := 92) C wd_1080 dX11_people_92 ?_
          refine a_bipush (pc := 95) C 8 dX11_people_95 rfl ?_
          refine a_icmp_ne (pc := 97) C 103 dX11_people_97 rfl (fun c13 => ?_) (fun c13 => ?_)
          · replace h := iteT c13 h
            refine a_lload (pc := 103) C dX11_people_103 0 rfl ?_
            refine a_l2i (pc := 105) C dX11_people_105 ?_
            refine a_istore (pc := 106) C [(8, .int ((x2.toInt64 + (3 * x5.toInt64)).toInt32)), (6, .long (x2.toInt64 + (3 * x5.toInt64))), (0, .ref (X.N.2.1 66)), (1, .int x1), (2, .int x2), (3, .int x3), (4, .int x4), (5, .int x5)] dX11_people_106 (nlt eL rfl) rfl ?_
            refine a_aload_n (pc := 108) C dX11_people_108 rfl 2 rfl ?_
            refine a_iload_n (pc := 109) C dX11_people_109 rfl 3 rfl ?_
            refine a_iload (pc := 110) C dX11_people_110 0 rfl ?_
            obtain ⟨v14, ev14, h⟩ := bndS h
            refine a_callVI (pc := 112) C [.int x1, .int ((x2.toInt64 + (3 * x5.toInt64)).toInt32)] (ok_fMd_toldAt X.l X.N M x1 ((x2.toInt64 + (3 * x5.toInt64)).toInt32) ev14) rfl mw_X11_toldAt wd_1235 rfl rfl rfl rfl rfl rfl rfl dX11_people_112 (fun z15 => ?_)
            refine a_callSI (pc := 115) C [.int v14] (ok_fMd_isCell X.l X.N M v14) rfl mw_X11_isCell wd_1217 rfl rfl rfl dX11_people_115 (fun z16 => ?_)
            refine a_if_eq (pc := 118) C 156 dX11_people_118 rfl (fun c17 => ?_) (fun c17 => ?_)
            · replace h := iteT c17 h
              refine a_iload (pc := 156) C dX11_people_156 6 rfl ?_
              exact a_iret (pc := 158) C E rfl (som1 h) (som2 h) dX11_people_158
            · replace h := iteF c17 h
              refine a_aload_n (pc := 121) C dX11_people_121 rfl 2 rfl ?_
              refine a_iload_n (pc := 122) C dX11_people_122 rfl 3 rfl ?_
              refine a_iload (pc := 123) C dX11_people_123 0 rfl ?_
              refine a_iconst (pc := 125) C 1 dX11_people_125 rfl ?_
              refine a_iadd (pc := 126) C dX11_people_126 ?_
              obtain ⟨v18, ev18, h⟩ := bndS h
              refine a_callVI (pc := 127) C [.int x1, .int (((x2.toInt64 + (3 * x5.toInt64)).toInt32) + 1)] (ok_fMd_toldAt X.l X.N M x1 (((x2.toInt64 + (3 * x5.toInt64)).toInt32) + 1) ev18) rfl mw_X11_toldAt wd_1235 rfl rfl rfl rfl rfl rfl rfl dX11_people_127 (fun z19 => ?_)
              refine a_iconst (pc := 130) C 0 dX11_people_130 rfl ?_
              refine a_bipush (pc := 131) C 99 dX11_people_131 rfl ?_
              refine a_callSI (pc := 133) C [.int v18, .int 0, .int 99] (ok_fMd_within X.l X.N M v18 0 99) rfl mw_X11_within wd_1220 rfl rfl rfl dX11_people_133 (fun z20 => ?_)
              refine a_if_eq (pc := 136) C 156 dX11_people_136 rfl (fun c21 => ?_) (fun c21 => ?_)
              · replace h := iteT c21 h
                refine a_iload (pc := 156) C dX11_people_156 6 rfl ?_
                exact a_iret (pc := 158) C E rfl (som1 h) (som2 h) dX11_people_158
              · replace h := iteF c21 h
                refine a_aload_n (pc := 139) C dX11_people_139 rfl 2 rfl ?_
                refine a_iload_n (pc := 140) C dX11_people_140 rfl 3 rfl ?_
                refine a_iload (pc := 141) C dX11_people_141 0 rfl ?_
                refine a_iconst (pc := 143) C 2 dX11_people_143 rfl ?_
                refine a_iadd (pc := 144) C dX11_people_144 ?_
                obtain ⟨v22, ev22, h⟩ := bndS h
                refine a_callVI (pc := 145) C [.int x1, .int (((x2.toInt64 + (3 * x5.toInt64)).toInt32) + 2)] (ok_fMd_toldAt X.l X.N M x1 (((x2.toInt64 + (3 * x5.toInt64)).toInt32) + 2) ev22) rfl mw_X11_toldAt wd_1235 rfl rfl rfl rfl rfl rfl rfl dX11_people_145 (fun z23 => ?_)
                refine a_iconst (pc := 148) C 0 dX11_people_148 rfl ?_
                refine a_iconst (pc := 149) C 1 dX11_people_149 rfl ?_
                refine a_callSI (pc := 150) C [.int v22, .int 0, .int 1] (ok_fMd_within X.l X.N M v22 0 1) rfl mw_X11_within wd_1220 rfl rfl rfl dX11_people_150 (fun z24 => ?_)
                refine a_if_ne (pc := 153) C 159 dX11_people_153 rfl (fun c25 => ?_) (fun c25 => ?_)
                · replace h := iteT c25 h
                  refine a_aload_n (pc := 159) C dX11_people_159 rfl 2 rfl ?_
                  refine a_aload_n (pc := 160) C dX11_people_160 rfl 2 rfl ?_
                  refine a_iload_n (pc := 161) C dX11_people_161 rfl 3 rfl ?_
                  refine a_iload (pc := 162) C dX11_people_162 0 rfl ?_
                  obtain ⟨v26, ev26, h⟩ := bndS h
                  refine a_callVI (pc := 164) C [.int x1, .int ((x2.toInt64 + (3 * x5.toInt64)).toInt32)] (ok_fMd_toldAt X.l X.N M x1 ((x2.toInt64 + (3 * x5.toInt64)).toInt32) ev26) rfl mw_X11_toldAt wd_1235 rfl rfl rfl rfl rfl rfl rfl dX11_people_164 (fun z27 => ?_)
                  refine a_aload_n (pc := 167) C dX11_people_167 rfl 2 rfl ?_
                  refine a_iload_n (pc := 168) C dX11_people_168 rfl 3 rfl ?_
                  refine a_iload (pc := 169) C dX11_people_169 0 rfl ?_
                  refine a_iconst (pc := 171) C 1 dX11_people_171 rfl ?_
                  refine a_iadd (pc := 172) C dX11_people_172 ?_
                  obtain ⟨v28, ev28, h⟩ := bndS h
                  refine a_callVI (pc := 173) C [.int x1, .int (((x2.toInt64 + (3 * x5.toInt64)).toInt32) + 1)] (ok_fMd_toldAt X.l X.N M x1 (((x2.toInt64 + (3 * x5.toInt64)).toInt32) + 1) ev28) rfl mw_X11_toldAt wd_1235 rfl rfl rfl rfl rfl rfl rfl dX11_people_173 (fun z29 => ?_)
                  refine a_aload_n (pc := 176) C dX11_people_176 rfl 2 rfl ?_
                  refine a_iload_n (pc := 177) C dX11_people_177 rfl 3 rfl ?_
                  refine a_iload (pc := 178) C dX11_people_178 0 rfl ?_
                  refine a_iconst (pc := 180) C 2 dX11_people_180 rfl ?_
                  refine a_iadd (pc := 181) C dX11_people_181 ?_
                  obtain ⟨v30, ev30, h⟩ := bndS h
                  refine a_callVI (pc := 182) C [.int x1, .int (((x2.toInt64 + (3 * x5.toInt64)).toInt32) + 2)] (ok_fMd_toldAt X.l X.N M x1 (((x2.toInt64 + (3 * x5.toInt64)).toInt32) + 2) ev30) rfl mw_X11_toldAt wd_1235 rfl rfl rfl rfl rfl rfl rfl dX11_people_182 (fun z31 => ?_)
                  obtain ⟨q32, eq32, h⟩ := bndS h
                  refine a_callVI (pc := 185) C [.int v26, .int v28, .int v30] (ok_fMd_newOne X.l X.N M v26 v28 v30 eq32) rfl mw_X11_newOne wd_1223 rfl rfl rfl rfl rfl rfl rfl dX11_people_185 (fun z33 => ?_)
                  refine a_pop (pc := 188) C dX11_people_188 rfl ?_
                  refine a_iinc (pc := 189) C 6 (x4 + 1) [(4, .int (x4 + 1)), (8, .int ((x2.toInt64 + (3 * x5.toInt64)).toInt32)), (6, .long (x2.toInt64 + (3 * x5.toInt64))), (0, .ref (X.N.2.1 66)), (1, .int x1), (2, .int x2), (3, .int x3), (5, .int x5)] dX11_people_189 rfl rfl (nlt eL rfl) rfl ?_
                  refine a_iinc (pc := 192) C 7 (x5 + 1) [(5, .int (x5 + 1)), (4, .int (x4 + 1)), (8, .int ((x2.toInt64 + (3 * x5.toInt64)).toInt32)), (6, .long (x2.toInt64 + (3 * x5.toInt64))), (0, .ref (X.N.2.1 66)), (1, .int x1), (2, .int x2), (3, .int x3)] dX11_people_192 rfl rfl (nlt eL rfl) rfl ?_
                  refine a_goto (pc := 195) C 49 dX11_people_195 rfl ?_
                  refine a_sub [4, 5, 6, 7, 1, 0] rfl ?_
                  exact ih q32.2 (x4 + 1) (x5 + 1) h
                · replace h := iteF c25 h
                  refine a_iload (pc := 156) C dX11_people_156 6 rfl ?_
                  exact a_iret (pc := 158) C E rfl (som1 h) (som2 h) dX11_people_158
          · replace h := iteF c13 h
            refine a_iload (pc := 100) C dX11_people_100 5 rfl ?_
            exact a_iret (pc := 102) C E rfl (som1 h) (som2 h) dX11_people_102
set_option maxHeartbeats 200000 in
set_option maxRecDepth 100000 in
theorem ok_fMd_people (l : Launch) (N : Rig) (M : Mem) (x1 : Int32) (x2 : Int32) (x3 : Int32) {r : Int32} {M0 : Mem} (h : fMd_people M x1 x2 x3 = some (r, M0)) : Ct l N yX11_people cX11_people 9 (some .int) 2 [.ref (N.2.1 66), .int x1, .int x2, .int x3] M (QcI N (some .int) r M0) := by
  refine ct_of (by decide) rfl ?_
  intro X el eN eL C E
  subst el
  subst eN
  unfold fMd_people at h
  show WA X M [(0, .ref (X.N.2.1 66)), (1, .int x1), (2, .int x2), (3, .int x3)] 0 []
  refine a_iload_n (pc := 0) C dX11_people_0 rfl 1 rfl ?_
  refine a_callSI (pc := 1) C [.int x1] (ok_fMd_isShelf X.l X.N M x1) rfl mw_X11_isShelf wd_1231 rfl rfl rfl dX11_people_1 (fun z1 => ?_)
  refine a_if_eq (pc := 4) C 17 dX11_people_4 rfl (fun c2 => ?_) (fun c2 => ?_)
  · replace h := iteT c2 h
    refine a_iconst (pc := 17) C (-1) dX11_people_17 rfl ?_
    exact a_iret (pc := 18) C E rfl (som1 h) (som2 h) dX11_people_18
  · replace h := iteF c2 h
    refine a_iload_n (pc := 7) C dX11_people_7 rfl 3 rfl ?_
    refine a_iconst (pc := 8) C 1 dX11_people_8 rfl ?_
    refine a_bipush (pc := 9) C 8 dX11_people_9 rfl ?_
    refine a_callSI (pc := 11) C [.int x3, .int 1, .int 8] (ok_fMd_within X.l X.N M x3 1 8) rfl mw_X11_within wd_1220 rfl rfl rfl dX11_people_11 (fun z3 => ?_)
    refine a_if_ne (pc := 14) C 19 dX11_people_14 rfl (fun c4 => ?_) (fun c4 => ?_)
    · replace h := iteT c4 h
      refine a_aload_n (pc := 19) C dX11_people_19 rfl 0 rfl ?_
      refine gf_11_36 (pc := 20) C wd_1113 dX11_people_20 ?_
      refine a_iload_n (pc := 23) C dX11_people_23 rfl 1 rfl ?_
      obtain ⟨v5, ev5, h⟩ := bndS h
      refine a_iald (pc := 24) C rfl ev5 dX11_people_24 ?_
      refine a_iconst (pc := 25) C (-1) dX11_people_25 rfl ?_
      refine a_icmp_ne (pc := 26) C 31 dX11_people_26 rfl (fun c6 => ?_) (fun c6 => ?_)
      · replace h := iteT c6 h
        refine a_aload_n (pc := 31) C dX11_people_31 rfl 0 rfl ?_
        refine gf_11_36 (pc := 32) C wd_1113 dX11_people_32 ?_
        refine a_iload_n (pc := 35) C dX11_people_35 rfl 1 rfl ?_
        obtain ⟨v7, ev7, h⟩ := bndS h
        refine a_iald (pc := 36) C rfl ev7 dX11_people_36 ?_
        refine a_if_eq (pc := 37) C 43 dX11_people_37 rfl (fun c8 => ?_) (fun c8 => ?_)
        · replace h := iteT c8 h
          refine a_iconst (pc := 43) C 0 dX11_people_43 rfl ?_
          refine a_istore (pc := 44) C [(4, .int 0), (0, .ref (X.N.2.1 66)), (1, .int x1), (2, .int x2), (3, .int x3)] dX11_people_44 (nlt eL rfl) rfl ?_
          refine a_iconst (pc := 46) C 0 dX11_people_46 rfl ?_
          refine a_istore (pc := 47) C [(5, .int 0), (4, .int 0), (0, .ref (X.N.2.1 66)), (1, .int x1), (2, .int x2), (3, .int x3)] dX11_people_47 (nlt eL rfl) rfl ?_
          refine a_sub (lv2 := [(0, .ref (X.N.2.1 66)), (1, .int x1), (2, .int x2), (3, .int x3), (4, .int 0), (5, .int 0)]) [2, 3, 4, 5, 1, 0] rfl ?_
          exact ok_fMd_people_L49 eL C x1 x2 x3 r M0 E FU M 0 0 h
        · replace h := iteF c8 h
          refine a_bipush (pc := 40) C (-12) dX11_people_40 rfl ?_
          exact a_iret (pc := 42) C E rfl (som1 h) (som2 h) dX11_people_42
      · replace h := iteF c6 h
        refine a_iconst (pc := 29) C 0 dX11_people_29 rfl ?_
        exact a_iret (pc := 30) C E rfl (som1 h) (som2 h) dX11_people_30
    · replace h := iteF c4 h
      refine a_iconst (pc := 17) C (-1) dX11_people_17 rfl ?_
      exact a_iret (pc := 18) C E rfl (som1 h) (som2 h) dX11_people_18
set_option maxHeartbeats 200000 in
set_option maxRecDepth 100000 in
theorem ok_fMd_isOf (l : Launch) (N : Rig) (M : Mem) (x1 : Int32) (x2 : Int32) : Ct l N yX11_isOf cX11_isOf 3 (some .boolean) 2 [.ref (N.2.1 66), .int x1, .int x2] M (QcI N (some .boolean) (fMd_isOf M x1 x2) M) := by
  obtain ⟨r, h⟩ : ∃ r, fMd_isOf M x1 x2 = r := ⟨_, rfl⟩
  rw [h]
  refine ct_of (by decide) rfl ?_
  intro X el eN eL C E
  subst el
  subst eN
  unfold fMd_isOf at h
  show WA X M [(0, .ref (X.N.2.1 66)), (1, .int x1), (2, .int x2)] 0 []
  refine a_iload_n (pc := 0) C dX11_isOf_0 rfl 2 rfl ?_
  refine a_iconst (pc := 1) C 0 dX11_isOf_1 rfl ?_
  refine a_iconst (pc := 2) C 2 dX11_isOf_2 rfl ?_
  refine a_callSI (pc := 3) C [.int x2, .int 0, .int 2] (ok_fMd_within X.l X.N M x2 0 2) rfl mw_X11_within wd_1220 rfl rfl rfl dX11_isOf_3 (fun z1 => ?_)
  refine a_if_eq (pc := 6) C 16 dX11_isOf_6 rfl (fun c2 => ?_) (fun c2 => ?_)
  · replace h := iteT c2 h
    refine a_iload_n (pc := 16) C dX11_isOf_16 rfl 2 rfl ?_
    refine a_iconst (pc := 17) C 3 dX11_isOf_17 rfl ?_
    refine a_bipush (pc := 18) C 6 dX11_isOf_18 rfl ?_
    refine a_callSI (pc := 20) C [.int x2, .int 3, .int 6] (ok_fMd_within X.l X.N M x2 3 6) rfl mw_X11_within wd_1220 rfl rfl rfl dX11_isOf_20 (fun z3 => ?_)
    refine a_if_eq (pc := 23) C 34 dX11_isOf_23 rfl (fun c4 => ?_) (fun c4 => ?_)
    · replace h := iteT c4 h
      refine a_iload_n (pc := 34) C dX11_isOf_34 rfl 2 rfl ?_
      refine a_bipush (pc := 35) C 7 dX11_isOf_35 rfl ?_
      refine a_icmp_ne (pc := 37) C 48 dX11_isOf_37 rfl (fun c5 => ?_) (fun c5 => ?_)
      · replace h := iteT c5 h
        refine a_iconst (pc := 48) C 0 dX11_isOf_48 rfl ?_
        exact a_iret (pc := 49) C E rfl h rfl dX11_isOf_49
      · replace h := iteF c5 h
        refine a_iload_n (pc := 40) C dX11_isOf_40 rfl 1 rfl ?_
        refine a_if_ne (pc := 41) C 48 dX11_isOf_41 rfl (fun c6 => ?_) (fun c6 => ?_)
        · replace h := iteT c6 h
          refine a_iconst (pc := 48) C 0 dX11_isOf_48 rfl ?_
          exact a_iret (pc := 49) C E rfl h rfl dX11_isOf_49
        · replace h := iteF c6 h
          refine a_iconst (pc := 44) C 1 dX11_isOf_44 rfl ?_
          refine a_goto (pc := 45) C 49 dX11_isOf_45 rfl ?_
          exact a_iret (pc := 49) C E rfl h rfl dX11_isOf_49
    · replace h := iteF c4 h
      refine a_aload_n (pc := 26) C dX11_isOf_26 rfl 0 rfl ?_
      refine a_iload_n (pc := 27) C dX11_isOf_27 rfl 1 rfl ?_
      refine a_callVI (pc := 28) C [.int x1] (ok_fMd_isOne X.l X.N M x1) rfl mw_X11_isOne wd_1247 rfl rfl rfl rfl rfl rfl rfl dX11_isOf_28 (fun z7 => ?_)
      refine a_goto (pc := 31) C 49 dX11_isOf_31 rfl ?_
      exact a_iret (pc := 49) C E (z7 _ rfl) h rfl dX11_isOf_49
  · replace h := iteF c2 h
    refine a_iload_n (pc := 9) C dX11_isOf_9 rfl 1 rfl ?_
    refine a_callSI (pc := 10) C [.int x1] (ok_fMd_isCell X.l X.N M x1) rfl mw_X11_isCell wd_1217 rfl rfl rfl dX11_isOf_10 (fun z8 => ?_)
    refine a_goto (pc := 13) C 49 dX11_isOf_13 rfl ?_
    exact a_iret (pc := 49) C E (z8 _ rfl) h rfl dX11_isOf_49
set_option maxHeartbeats 200000 in
set_option maxRecDepth 100000 in
theorem ok_fMd_isFit (l : Launch) (N : Rig) (M : Mem) (x0 : Int32) (x1 : Int32) : Ct l N yX11_isFit cX11_isFit 2 (some .boolean) 2 [.int x0, .int x1] M (QcI N (some .boolean) (fMd_isFit x0 x1) M) := by
  obtain ⟨r, h⟩ : ∃ r, fMd_isFit x0 x1 = r := ⟨_, rfl⟩
  rw [h]
  refine ct_of (by decide) rfl ?_
  intro X el eN eL C E
  subst el
  subst eN
  unfold fMd_isFit at h
  show WA X M [(0, .int x0), (1, .int x1)] 0 []
  refine a_iload_n (pc := 0) C dX11_isFit_0 rfl 0 rfl ?_
  by_cases c1 : x0 = 0
  · replace h := iteT c1 h
    refine a_tsw_in (pc := 1) C 0 44 dX11_isFit_1 c1 (by decide) (by decide) rfl rfl ?_
    refine a_iload_n (pc := 44) C dX11_isFit_44 rfl 1 rfl ?_
    refine a_iconst (pc := 45) C 0 dX11_isFit_45 rfl ?_
    refine a_bipush (pc := 46) C 9 dX11_isFit_46 rfl ?_
    refine a_callSI (pc := 48) C [.int x1, .int 0, .int 9] (ok_fMd_within X.l X.N M x1 0 9) rfl mw_X11_within wd_1220 rfl rfl rfl dX11_isFit_48 (fun z2 => ?_)
    exact a_iret (pc := 51) C E (z2 _ rfl) h rfl dX11_isFit_51
  replace h := iteF c1 h
  by_cases c3 : x0 = 1
  · replace h := iteT c3 h
    refine a_tsw_in (pc := 1) C 1 52 dX11_isFit_1 c3 (by decide) (by decide) rfl rfl ?_
    refine a_iload_n (pc := 52) C dX11_isFit_52 rfl 1 rfl ?_
    refine a_iconst (pc := 53) C 0 dX11_isFit_53 rfl ?_
    refine a_sipush (pc := 54) C 9999 dX11_isFit_54 rfl ?_
    refine a_callSI (pc := 57) C [.int x1, .int 0, .int 9999] (ok_fMd_within X.l X.N M x1 0 9999) rfl mw_X11_within wd_1220 rfl rfl rfl dX11_isFit_57 (fun z4 => ?_)
    exact a_iret (pc := 60) C E (z4 _ rfl) h rfl dX11_isFit_60
  replace h := iteF c3 h
  by_cases c5 : x0 = 2
  · replace h := iteT c5 h
    refine a_tsw_in (pc := 1) C 2 61 dX11_isFit_1 c5 (by decide) (by decide) rfl rfl ?_
    refine a_iload_n (pc := 61) C dX11_isFit_61 rfl 1 rfl ?_
    refine a_iconst (pc := 62) C 0 dX11_isFit_62 rfl ?_
    refine a_iconst (pc := 63) C 2 dX11_isFit_63 rfl ?_
    refine a_callSI (pc := 64) C [.int x1, .int 0, .int 2] (ok_fMd_within X.l X.N M x1 0 2) rfl mw_X11_within wd_1220 rfl rfl rfl dX11_isFit_64 (fun z6 => ?_)
    exact a_iret (pc := 67) C E (z6 _ rfl) h rfl dX11_isFit_67
  replace h := iteF c5 h
  by_cases c7 : x0 = 3
  · replace h := iteT c7 h
    refine a_tsw_in (pc := 1) C 3 68 dX11_isFit_1 c7 (by decide) (by decide) rfl rfl ?_
    refine a_iload_n (pc := 68) C dX11_isFit_68 rfl 1 rfl ?_
    refine a_callSI (pc := 69) C [.int x1] (ok_fMd_isCell X.l X.N M x1) rfl mw_X11_isCell wd_1217 rfl rfl rfl dX11_isFit_69 (fun z8 => ?_)
    exact a_iret (pc := 72) C E (z8 _ rfl) h rfl dX11_isFit_72
  replace h := iteF c7 h
  by_cases c9 : x0 = 4
  · replace h := iteT c9 h
    refine a_tsw_in (pc := 1) C 4 73 dX11_isFit_1 c9 (by decide) (by decide) rfl rfl ?_
    refine a_iload_n (pc := 73) C dX11_isFit_73 rfl 1 rfl ?_
    refine a_iconst (pc := 74) C 0 dX11_isFit_74 rfl ?_
    refine a_bipush (pc := 75) C 99 dX11_isFit_75 rfl ?_
    refine a_callSI (pc := 77) C [.int x1, .int 0, .int 99] (ok_fMd_within X.l X.N M x1 0 99) rfl mw_X11_within wd_1220 rfl rfl rfl dX11_isFit_77 (fun z10 => ?_)
    exact a_iret (pc := 80) C E (z10 _ rfl) h rfl dX11_isFit_80
  replace h := iteF c9 h
  by_cases c11 : x0 = 5
  · replace h := iteT c11 h
    refine a_tsw_in (pc := 1) C 5 81 dX11_isFit_1 c11 (by decide) (by decide) rfl rfl ?_
    refine a_iload_n (pc := 81) C dX11_isFit_81 rfl 1 rfl ?_
    refine a_iconst (pc := 82) C 0 dX11_isFit_82 rfl ?_
    refine a_iconst (pc := 83) C 1 dX11_isFit_83 rfl ?_
    refine a_callSI (pc := 84) C [.int x1, .int 0, .int 1] (ok_fMd_within X.l X.N M x1 0 1) rfl mw_X11_within wd_1220 rfl rfl rfl dX11_isFit_84 (fun z12 => ?_)
    exact a_iret (pc := 87) C E (z12 _ rfl) h rfl dX11_isFit_87
  replace h := iteF c11 h
  by_cases c13 : x0 = 6
  · replace h := iteT c13 h
    refine a_tsw_in (pc := 1) C 6 52 dX11_isFit_1 c13 (by decide) (by decide) rfl rfl ?_
    refine a_iload_n (pc := 52) C dX11_isFit_52 rfl 1 rfl ?_
    refine a_iconst (pc := 53) C 0 dX11_isFit_53 rfl ?_
    refine a_sipush (pc := 54) C 9999 dX11_isFit_54 rfl ?_
    refine a_callSI (pc := 57) C [.int x1, .int 0, .int 9999] (ok_fMd_within X.l X.N M x1 0 9999) rfl mw_X11_within wd_1220 rfl rfl rfl dX11_isFit_57 (fun z14 => ?_)
    exact a_iret (pc := 60) C E (z14 _ rfl) h rfl dX11_isFit_60
  replace h := iteF c13 h
  refine a_tsw_out (pc := 1) C 88 dX11_isFit_1 (by have := neI 0 rfl c1; have := neI 1 rfl c3; have := neI 2 rfl c5; have := neI 3 rfl c7; have := neI 4 rfl c9; have := neI 5 rfl c11; have := neI 6 rfl c13; omega) rfl ?_
  refine a_iload_n (pc := 88) C dX11_isFit_88 rfl 1 rfl ?_
  refine a_iconst (pc := 89) C 0 dX11_isFit_89 rfl ?_
  refine a_bipush (pc := 90) C 23 dX11_isFit_90 rfl ?_
  refine a_callSI (pc := 92) C [.int x1, .int 0, .int 23] (ok_fMd_within X.l X.N M x1 0 23) rfl mw_X11_within wd_1220 rfl rfl rfl dX11_isFit_92 (fun z15 => ?_)
  exact a_iret (pc := 95) C E (z15 _ rfl) h rfl dX11_isFit_95
set_option maxHeartbeats 200000 in
set_option maxRecDepth 100000 in
theorem ok_fMd_get_J74 {X : Amb} (eL : X.nL = 3) (C : Cx X RX11 cX11_get 0) (M : Mem) (r : Int32) (E : En X (some .int) (QcI X.N (some .int) r M)) (x1 : Int32) (x2 : Int32) (h : fMd_get_J74 M x1 x2 = some r) : WA X M [(0, .ref (X.N.2.1 66)), (1, .int x1), (2, .int x2)] 74 [] := by
  unfold fMd_get_J74 at h
  refine a_aload_n (pc := 74) C dX11_get_74 rfl 0 rfl ?_
  refine gf_11_4 (pc := 75) C wd_1081 dX11_get_75 ?_
  refine a_bipush (pc := 78) C 8 dX11_get_78 rfl ?_
  refine a_iload_n (pc := 80) C dX11_get_80 rfl 2 rfl ?_
  refine a_iconst (pc := 81) C 3 dX11_get_81 rfl ?_
  refine a_isub (pc := 82) C dX11_get_82 ?_
  refine a_imul (pc := 83) C dX11_get_83 ?_
  refine a_iload_n (pc := 84) C dX11_get_84 rfl 1 rfl ?_
  refine a_iadd (pc := 85) C dX11_get_85 ?_
  obtain ⟨v8, ev8, h⟩ := bndS h
  refine a_iald (pc := 86) C rfl ev8 dX11_get_86 ?_
  exact a_iret (pc := 87) C E rfl (somI h) rfl dX11_get_87
set_option maxHeartbeats 200000 in
set_option maxRecDepth 100000 in
theorem ok_fMd_get (l : Launch) (N : Rig) (M : Mem) (x1 : Int32) (x2 : Int32) {r : Int32} (h : fMd_get M x1 x2 = some r) : Ct l N yX11_get cX11_get 3 (some .int) 0 [.ref (N.2.1 66), .int x1, .int x2] M (QcI N (some .int) r M) := by
  refine ct_of (by decide) rfl ?_
  intro X el eN eL C E
  subst el
  subst eN
  unfold fMd_get at h
  show WA X M [(0, .ref (X.N.2.1 66)), (1, .int x1), (2, .int x2)] 0 []
  refine a_iload_n (pc := 0) C dX11_get_0 rfl 2 rfl ?_
  by_cases c1 : x2 = 0
  · replace h := iteT c1 h
    refine a_tsw_in (pc := 1) C 0 48 dX11_get_1 c1 (by decide) (by decide) rfl rfl ?_
    refine a_aload_n (pc := 48) C dX11_get_48 rfl 0 rfl ?_
    refine gf_11_0 (pc := 49) C wd_1077 dX11_get_49 ?_
    refine a_iload_n (pc := 52) C dX11_get_52 rfl 1 rfl ?_
    obtain ⟨v2, ev2, h⟩ := bndS h
    refine a_iald (pc := 53) C rfl ev2 dX11_get_53 ?_
    exact a_iret (pc := 54) C E rfl (somI h) rfl dX11_get_54
  replace h := iteF c1 h
  by_cases c3 : x2 = 1
  · replace h := iteT c3 h
    refine a_tsw_in (pc := 1) C 1 55 dX11_get_1 c3 (by decide) (by decide) rfl rfl ?_
    refine a_aload_n (pc := 55) C dX11_get_55 rfl 0 rfl ?_
    refine gf_11_1 (pc := 56) C wd_1078 dX11_get_56 ?_
    refine a_iload_n (pc := 59) C dX11_get_59 rfl 1 rfl ?_
    obtain ⟨v4, ev4, h⟩ := bndS h
    refine a_iald (pc := 60) C rfl ev4 dX11_get_60 ?_
    exact a_iret (pc := 61) C E rfl (somI h) rfl dX11_get_61
  replace h := iteF c3 h
  by_cases c5 : x2 = 2
  · replace h := iteT c5 h
    refine a_tsw_in (pc := 1) C 2 62 dX11_get_1 c5 (by decide) (by decide) rfl rfl ?_
    refine a_aload_n (pc := 62) C dX11_get_62 rfl 0 rfl ?_
    refine gf_11_2 (pc := 63) C wd_1079 dX11_get_63 ?_
    refine a_iload_n (pc := 66) C dX11_get_66 rfl 1 rfl ?_
    obtain ⟨v6, ev6, h⟩ := bndS h
    refine a_iald (pc := 67) C rfl ev6 dX11_get_67 ?_
    exact a_iret (pc := 68) C E rfl (somI h) rfl dX11_get_68
  replace h := iteF c5 h
  by_cases c7 : x2 = 7
  · replace h := iteT c7 h
    refine a_tsw_in (pc := 1) C 7 69 dX11_get_1 c7 (by decide) (by decide) rfl rfl ?_
    refine a_aload_n (pc := 69) C dX11_get_69 rfl 0 rfl ?_
    refine gf_11_5 (pc := 70) C wd_1082 dX11_get_70 ?_
    exact a_iret (pc := 73) C E rfl (somI h) rfl dX11_get_73
  replace h := iteF c7 h
  have kd : WA X M [(0, .ref (X.N.2.1 66)), (1, .int x1), (2, .int x2)] 74 [] := by
    refine a_sub (lv2 := [(0, .ref (X.N.2.1 66)), (1, .int x1), (2, .int x2)]) [0, 1, 2] rfl ?_
    exact ok_fMd_get_J74 eL C M r E x1 x2 h
  by_cases c9 : x2 = 3
  · exact a_tsw_in (pc := 1) C 3 74 dX11_get_1 c9 (by decide) (by decide) rfl rfl kd
  by_cases c10 : x2 = 4
  · exact a_tsw_in (pc := 1) C 4 74 dX11_get_1 c10 (by decide) (by decide) rfl rfl kd
  by_cases c11 : x2 = 5
  · exact a_tsw_in (pc := 1) C 5 74 dX11_get_1 c11 (by decide) (by decide) rfl rfl kd
  by_cases c12 : x2 = 6
  · exact a_tsw_in (pc := 1) C 6 74 dX11_get_1 c12 (by decide) (by decide) rfl rfl kd
  exact a_tsw_out (pc := 1) C 74 dX11_get_1 (by have := neI 0 rfl c1; have := neI 1 rfl c3; have := neI 2 rfl c5; have := neI 7 rfl c7; have := neI 3 rfl c9; have := neI 4 rfl c10; have := neI 5 rfl c11; have := neI 6 rfl c12; omega) rfl kd
set_option maxHeartbeats 200000 in
set_option maxRecDepth 100000 in
theorem ok_fMd_becomes_J78 {X : Amb} (eL : X.nL = 4) (C : Cx X RX11 cX11_becomes 0) (M0 : Mem) (E : En X none (QcV X.N M0)) (M : Mem) (x1 : Int32) (x2 : Int32) (x3 : Int32) (h : fMd_becomes_J78 M x1 x2 x3 = some M0) : WA X M [(0, .ref (X.N.2.1 66)), (1, .int x1), (2, .int x2), (3, .int x3)] 78 [] := by
  unfold fMd_becomes_J78 at h
  refine a_aload_n (pc := 78) C dX11_becomes_78 rfl 0 rfl ?_
  refine gf_11_4 (pc := 79) C wd_1081 dX11_becomes_79 ?_
  refine a_bipush (pc := 82) C 8 dX11_becomes_82 rfl ?_
  refine a_iload_n (pc := 84) C dX11_becomes_84 rfl 2 rfl ?_
  refine a_iconst (pc := 85) C 3 dX11_becomes_85 rfl ?_
  refine a_isub (pc := 86) C dX11_becomes_86 ?_
  refine a_imul (pc := 87) C dX11_becomes_87 ?_
  refine a_iload_n (pc := 88) C dX11_becomes_88 rfl 1 rfl ?_
  refine a_iadd (pc := 89) C dX11_becomes_89 ?_
  refine a_iload_n (pc := 90) C dX11_becomes_90 rfl 3 rfl ?_
  obtain ⟨M8, eM8, h⟩ := bndS h
  refine a_iast (pc := 91) C rfl eM8 dX11_becomes_91 ?_
  exact a_vret (pc := 92) C E (somI h) dX11_becomes_92
set_option maxHeartbeats 200000 in
set_option maxRecDepth 100000 in
theorem ok_fMd_becomes (l : Launch) (N : Rig) (M : Mem) (x1 : Int32) (x2 : Int32) (x3 : Int32) {M0 : Mem} (h : fMd_becomes M x1 x2 x3 = some M0) : Ct l N yX11_becomes cX11_becomes 4 none 0 [.ref (N.2.1 66), .int x1, .int x2, .int x3] M (QcV N M0) := by
  refine ct_of (by decide) rfl ?_
  intro X el eN eL C E
  subst el
  subst eN
  unfold fMd_becomes at h
  show WA X M [(0, .ref (X.N.2.1 66)), (1, .int x1), (2, .int x2), (3, .int x3)] 0 []
  refine a_iload_n (pc := 0) C dX11_becomes_0 rfl 2 rfl ?_
  by_cases c1 : x2 = 0
  · replace h := iteT c1 h
    refine a_tsw_in (pc := 1) C 0 48 dX11_becomes_1 c1 (by decide) (by decide) rfl rfl ?_
    refine a_aload_n (pc := 48) C dX11_becomes_48 rfl 0 rfl ?_
    refine gf_11_0 (pc := 49) C wd_1077 dX11_becomes_49 ?_
    refine a_iload_n (pc := 52) C dX11_becomes_52 rfl 1 rfl ?_
    refine a_iload_n (pc := 53) C dX11_becomes_53 rfl 3 rfl ?_
    obtain ⟨M2, eM2, h⟩ := bndS h
    refine a_iast (pc := 54) C rfl eM2 dX11_becomes_54 ?_
    exact a_vret (pc := 55) C E (somI h) dX11_becomes_55
  replace h := iteF c1 h
  by_cases c3 : x2 = 1
  · replace h := iteT c3 h
    refine a_tsw_in (pc := 1) C 1 56 dX11_becomes_1 c3 (by decide) (by decide) rfl rfl ?_
    refine a_aload_n (pc := 56) C dX11_becomes_56 rfl 0 rfl ?_
    refine gf_11_1 (pc := 57) C wd_1078 dX11_becomes_57 ?_
    refine a_iload_n (pc := 60) C dX11_becomes_60 rfl 1 rfl ?_
    refine a_iload_n (pc := 61) C dX11_becomes_61 rfl 3 rfl ?_
    obtain ⟨M4, eM4, h⟩ := bndS h
    refine a_iast (pc := 62) C rfl eM4 dX11_becomes_62 ?_
    exact a_vret (pc := 63) C E (somI h) dX11_becomes_63
  replace h := iteF c3 h
  by_cases c5 : x2 = 2
  · replace h := iteT c5 h
    refine a_tsw_in (pc := 1) C 2 64 dX11_becomes_1 c5 (by decide) (by decide) rfl rfl ?_
    refine a_aload_n (pc := 64) C dX11_becomes_64 rfl 0 rfl ?_
    refine gf_11_2 (pc := 65) C wd_1079 dX11_becomes_65 ?_
    refine a_iload_n (pc := 68) C dX11_becomes_68 rfl 1 rfl ?_
    refine a_iload_n (pc := 69) C dX11_becomes_69 rfl 3 rfl ?_
    obtain ⟨M6, eM6, h⟩ := bndS h
    refine a_iast (pc := 70) C rfl eM6 dX11_becomes_70 ?_
    exact a_vret (pc := 71) C E (somI h) dX11_becomes_71
  replace h := iteF c5 h
  by_cases c7 : x2 = 7
  · replace h := iteT c7 h
    refine a_tsw_in (pc := 1) C 7 72 dX11_becomes_1 c7 (by decide) (by decide) rfl rfl ?_
    refine a_aload_n (pc := 72) C dX11_becomes_72 rfl 0 rfl ?_
    refine a_iload_n (pc := 73) C dX11_becomes_73 rfl 3 rfl ?_
    refine pf_11_5 (pc := 74) C wd_1082 dX11_becomes_74 ?_
    exact a_vret (pc := 77) C E (somI h) dX11_becomes_77
  replace h := iteF c7 h
  have kd : WA X M [(0, .ref (X.N.2.1 66)), (1, .int x1), (2, .int x2), (3, .int x3)] 78 [] := by
    refine a_sub (lv2 := [(0, .ref (X.N.2.1 66)), (1, .int x1), (2, .int x2), (3, .int x3)]) [0, 1, 2, 3] rfl ?_
    exact ok_fMd_becomes_J78 eL C M0 E M x1 x2 x3 h
  by_cases c9 : x2 = 3
  · exact a_tsw_in (pc := 1) C 3 78 dX11_becomes_1 c9 (by decide) (by decide) rfl rfl kd
  by_cases c10 : x2 = 4
  · exact a_tsw_in (pc := 1) C 4 78 dX11_becomes_1 c10 (by decide) (by decide) rfl rfl kd
  by_cases c11 : x2 = 5
  · exact a_tsw_in (pc := 1) C 5 78 dX11_becomes_1 c11 (by decide) (by decide) rfl rfl kd
  by_cases c12 : x2 = 6
  · exact a_tsw_in (pc := 1) C 6 78 dX11_becomes_1 c12 (by decide) (by decide) rfl rfl kd
  exact a_tsw_out (pc := 1) C 78 dX11_becomes_1 (by have := neI 0 rfl c1; have := neI 1 rfl c3; have := neI 2 rfl c5; have := neI 7 rfl c7; have := neI 3 rfl c9; have := neI 4 rfl c10; have := neI 5 rfl c11; have := neI 6 rfl c12; omega) rfl kd
set_option maxHeartbeats 200000 in
set_option maxRecDepth 100000 in
theorem ok_fMd_mend_J95 {X : Amb} (eL : X.nL = 6) (C : Cx X RX11 cX11_mend 3) (r : Int32) (M0 : Mem) (E : En X (some .int) (QcI X.N (some .int) r M0)) (M : Mem) (x1 : Int32) (x2 : Int32) (x3 : Int32) (x4 : Int32) (h : fMd_mend_J95 M x1 x2 x3 x4 = some (r, M0)) : WA X M [(0, .ref (X.N.2.1 66)), (1, .int x1), (2, .int x2), (3, .int x3), (4, .int x4)] 95 [] := by
  unfold fMd_mend_J95 at h
  refine a_aload_n (pc := 95) C dX11_mend_95 rfl 0 rfl ?_
  refine gf_11_31 (pc := 96) C wd_1108 dX11_mend_96 ?_
  refine a_iconst (pc := 99) C 4 dX11_mend_99 rfl ?_
  refine a_aload_n (pc := 100) C dX11_mend_100 rfl 0 rfl ?_
  refine gf_11_30 (pc := 101) C wd_1107 dX11_mend_101 ?_
  refine a_imul (pc := 104) C dX11_mend_104 ?_
  refine a_iload_n (pc := 105) C dX11_mend_105 rfl 1 rfl ?_
  obtain ⟨M10, eM10, h⟩ := bndS h
  refine a_iast (pc := 106) C rfl eM10 dX11_mend_106 ?_
  refine a_aload_n (pc := 107) C dX11_mend_107 rfl 0 rfl ?_
  refine gf_11_31 (pc := 108) C wd_1108 dX11_mend_108 ?_
  refine a_iconst (pc := 111) C 4 dX11_mend_111 rfl ?_
  refine a_aload_n (pc := 112) C dX11_mend_112 rfl 0 rfl ?_
  refine gf_11_30 (pc := 113) C wd_1107 dX11_mend_113 ?_
  refine a_imul (pc := 116) C dX11_mend_116 ?_
  refine a_iconst (pc := 117) C 1 dX11_mend_117 rfl ?_
  refine a_iadd (pc := 118) C dX11_mend_118 ?_
  refine a_iload_n (pc := 119) C dX11_mend_119 rfl 2 rfl ?_
  obtain ⟨M11, eM11, h⟩ := bndS h
  refine a_iast (pc := 120) C rfl eM11 dX11_mend_120 ?_
  refine a_aload_n (pc := 121) C dX11_mend_121 rfl 0 rfl ?_
  refine gf_11_31 (pc := 122) C wd_1108 dX11_mend_122 ?_
  refine a_iconst (pc := 125) C 4 dX11_mend_125 rfl ?_
  refine a_aload_n (pc := 126) C dX11_mend_126 rfl 0 rfl ?_
  refine gf_11_30 (pc := 127) C wd_1107 dX11_mend_127 ?_
  refine a_imul (pc := 130) C dX11_mend_130 ?_
  refine a_iconst (pc := 131) C 2 dX11_mend_131 rfl ?_
  refine a_iadd (pc := 132) C dX11_mend_132 ?_
  refine a_iload (pc := 133) C dX11_mend_133 4 rfl ?_
  obtain ⟨M12, eM12, h⟩ := bndS h
  refine a_iast (pc := 135) C rfl eM12 dX11_mend_135 ?_
  refine a_aload_n (pc := 136) C dX11_mend_136 rfl 0 rfl ?_
  refine gf_11_31 (pc := 137) C wd_1108 dX11_mend_137 ?_
  refine a_iconst (pc := 140) C 4 dX11_mend_140 rfl ?_
  refine a_aload_n (pc := 141) C dX11_mend_141 rfl 0 rfl ?_
  refine gf_11_30 (pc := 142) C wd_1107 dX11_mend_142 ?_
  refine a_imul (pc := 145) C dX11_mend_145 ?_
  refine a_iconst (pc := 146) C 3 dX11_mend_146 rfl ?_
  refine a_iadd (pc := 147) C dX11_mend_147 ?_
  refine a_iload_n (pc := 148) C dX11_mend_148 rfl 3 rfl ?_
  obtain ⟨M13, eM13, h⟩ := bndS h
  refine a_iast (pc := 149) C rfl eM13 dX11_mend_149 ?_
  refine a_aload_n (pc := 150) C dX11_mend_150 rfl 0 rfl ?_
  refine a_dup (pc := 151) C dX11_mend_151 rfl ?_
  refine gf_11_30 (pc := 152) C wd_1107 dX11_mend_152 ?_
  refine a_iconst (pc := 155) C 1 dX11_mend_155 rfl ?_
  refine a_iadd (pc := 156) C dX11_mend_156 ?_
  refine pf_11_30 (pc := 157) C wd_1107 dX11_mend_157 ?_
  refine a_aload_n (pc := 160) C dX11_mend_160 rfl 0 rfl ?_
  refine a_aload_n (pc := 161) C dX11_mend_161 rfl 0 rfl ?_
  refine gf_11_30 (pc := 162) C wd_1107 dX11_mend_162 ?_
  refine pf_11_29 (pc := 165) C wd_1106 dX11_mend_165 ?_
  refine a_iload (pc := 168) C dX11_mend_168 4 rfl ?_
  exact a_iret (pc := 170) C E rfl (som1 h) (som2 h) dX11_mend_170
set_option maxHeartbeats 200000 in
set_option maxRecDepth 100000 in
theorem ok_fMd_mend_L55 {X : Amb} (eL : X.nL = 6) (C : Cx X RX11 cX11_mend 3) (x1 : Int32) (x2 : Int32) (x3 : Int32) (x4 : Int32) (o : Mem) (K : WA X o [(0, .ref (X.N.2.1 66)), (1, .int x1), (2, .int x2), (3, .int x3), (4, .int x4)] 85 []) : ∀ (n : Nat) (M : Mem) (x5 : Int32), fMd_mend_L55 n M x5 = some o → WA X M [(0, .ref (X.N.2.1 66)), (1, .int x1), (2, .int x2), (3, .int x3), (4, .int x4), (5, .int x5)] 55 [] := by
  intro n
  induction n with
  | zero => intro _ _ h; cases h
  | succ n ih =>
    intro M x5 h
    replace h : fMd_mend_L55_F (fMd_mend_L55 n) M x5 = some o := h
    unfold fMd_mend_L55_F at h
    refine a_iload (pc := 55) C dX11_mend_55 5 rfl ?_
    refine a_sipush (pc := 57) C 156 dX11_mend_57 rfl ?_
    refine a_icmp_ge (pc := 60) C 85 dX11_mend_60 rfl (fun c14 => ?_) (fun c14 => ?_)
    · replace h := iteT c14 h
      refine a_sub (lv2 := [(0, .ref (X.N.2.1 66)), (1, .int x1), (2, .int x2), (3, .int x3), (4, .int x4)]) [0, 1, 2, 3, 4] rfl ?_
      cases somI h
      exact K
    · replace h := iteF c14 h
      refine a_aload_n (pc := 63) C dX11_mend_63 rfl 0 rfl ?_
      refine gf_11_31 (pc := 64) C wd_1108 dX11_mend_64 ?_
      refine a_iload (pc := 67) C dX11_mend_67 5 rfl ?_
      refine a_aload_n (pc := 69) C dX11_mend_69 rfl 0 rfl ?_
      refine gf_11_31 (pc := 70) C wd_1108 dX11_mend_70 ?_
      refine a_iload (pc := 73) C dX11_mend_73 5 rfl ?_
      refine a_iconst (pc := 75) C 4 dX11_mend_75 rfl ?_
      refine a_iadd (pc := 76) C dX11_mend_76 ?_
      obtain ⟨v15, ev15, h⟩ := bndS h
      refine a_iald (pc := 77) C rfl ev15 dX11_mend_77 ?_
      obtain ⟨M16, eM16, h⟩ := bndS h
      refine a_iast (pc := 78) C rfl eM16 dX11_mend_78 ?_
      refine a_iinc (pc := 79) C 5 (x5 + 1) [(5, .int (x5 + 1)), (0, .ref (X.N.2.1 66)), (1, .int x1), (2, .int x2), (3, .int x3), (4, .int x4)] dX11_mend_79 rfl rfl (nlt eL rfl) rfl ?_
      refine a_goto (pc := 82) C 55 dX11_mend_82 rfl ?_
      refine a_sub [1, 2, 3, 4, 5, 0] rfl ?_
      exact ih M16 (x5 + 1) h
set_option maxHeartbeats 200000 in
set_option maxRecDepth 100000 in
theorem ok_fMd_mend (l : Launch) (N : Rig) (M : Mem) (x1 : Int32) (x2 : Int32) (x3 : Int32) {r : Int32} {M0 : Mem} (h : fMd_mend M x1 x2 x3 = some (r, M0)) : Ct l N yX11_mend cX11_mend 6 (some .int) 3 [.ref (N.2.1 66), .int x1, .int x2, .int x3] M (QcI N (some .int) r M0) := by
  refine ct_of (by decide) rfl ?_
  intro X el eN eL C E
  subst el
  subst eN
  unfold fMd_mend at h
  show WA X M [(0, .ref (X.N.2.1 66)), (1, .int x1), (2, .int x2), (3, .int x3)] 0 []
  refine a_aload_n (pc := 0) C dX11_mend_0 rfl 0 rfl ?_
  refine a_iload_n (pc := 1) C dX11_mend_1 rfl 1 rfl ?_
  refine a_iload_n (pc := 2) C dX11_mend_2 rfl 2 rfl ?_
  refine a_callVI (pc := 3) C [.int x1, .int x2] (ok_fMd_isOf X.l X.N M x1 x2) rfl mw_X11_isOf wd_1243 rfl rfl rfl rfl rfl rfl rfl dX11_mend_3 (fun z1 => ?_)
  refine a_if_eq (pc := 6) C 17 dX11_mend_6 rfl (fun c2 => ?_) (fun c2 => ?_)
  · replace h := iteT c2 h
    refine a_iconst (pc := 17) C (-1) dX11_mend_17 rfl ?_
    exact a_iret (pc := 18) C E rfl (som1 h) (som2 h) dX11_mend_18
  · replace h := iteF c2 h
    refine a_iload_n (pc := 9) C dX11_mend_9 rfl 2 rfl ?_
    refine a_iload_n (pc := 10) C dX11_mend_10 rfl 3 rfl ?_
    refine a_callSI (pc := 11) C [.int x2, .int x3] (ok_fMd_isFit X.l X.N M x2 x3) rfl mw_X11_isFit wd_1251 rfl rfl rfl dX11_mend_11 (fun z3 => ?_)
    refine a_if_ne (pc := 14) C 19 dX11_mend_14 rfl (fun c4 => ?_) (fun c4 => ?_)
    · replace h := iteT c4 h
      refine a_aload_n (pc := 19) C dX11_mend_19 rfl 0 rfl ?_
      refine a_iload_n (pc := 20) C dX11_mend_20 rfl 1 rfl ?_
      refine a_iload_n (pc := 21) C dX11_mend_21 rfl 2 rfl ?_
      obtain ⟨v5, ev5, h⟩ := bndS h
      refine a_callVI (pc := 22) C [.int x1, .int x2] (ok_fMd_get X.l X.N M x1 x2 ev5) rfl mw_X11_get wd_1254 rfl rfl rfl rfl rfl rfl rfl dX11_mend_22 (fun z6 => ?_)
      refine a_istore (pc := 25) C [(4, .int v5), (0, .ref (X.N.2.1 66)), (1, .int x1), (2, .int x2), (3, .int x3)] dX11_mend_25 (nlt eL rfl) rfl ?_
      refine a_iload (pc := 27) C dX11_mend_27 0 rfl ?_
      refine a_iload_n (pc := 29) C dX11_mend_29 rfl 4 rfl ?_
      refine a_icmp_ne (pc := 30) C 36 dX11_mend_30 rfl (fun c7 => ?_) (fun c7 => ?_)
      · replace h := iteT c7 h
        refine a_aload_n (pc := 36) C dX11_mend_36 rfl 1 rfl ?_
        refine a_iload_n (pc := 37) C dX11_mend_37 rfl 2 rfl ?_
        refine a_iload_n (pc := 38) C dX11_mend_38 rfl 3 rfl ?_
        refine a_iload_n (pc := 39) C dX11_mend_39 rfl 4 rfl ?_
        obtain ⟨q8, eq8, h⟩ := bndS h
        refine a_callVV (pc := 40) C [.int x1, .int x2, .int x3] (ok_fMd_becomes X.l X.N M x1 x2 x3 eq8) rfl mw_X11_becomes wd_1258 rfl rfl rfl rfl rfl rfl rfl dX11_mend_40 ?_
        refine a_aload_n (pc := 43) C dX11_mend_43 rfl 1 rfl ?_
        refine gf_11_30 (pc := 44) C wd_1107 dX11_mend_44 ?_
        refine a_bipush (pc := 47) C 40 dX11_mend_47 rfl ?_
        refine a_icmp_ne (pc := 49) C 95 dX11_mend_49 rfl (fun c9 => ?_) (fun c9 => ?_)
        · replace h := iteT c9 h
          refine a_sub (lv2 := [(0, .ref (X.N.2.1 66)), (1, .int x1), (2, .int x2), (3, .int x3), (4, .int v5)]) [1, 2, 3, 4, 0] rfl ?_
          exact ok_fMd_mend_J95 eL C r M0 E q8 x1 x2 x3 v5 h
        · replace h := iteF c9 h
          refine a_iconst (pc := 52) C 0 dX11_mend_52 rfl ?_
          refine a_istore (pc := 53) C [(5, .int 0), (4, .int v5), (0, .ref (X.N.2.1 66)), (1, .int x1), (2, .int x2), (3, .int x3)] dX11_mend_53 (nlt eL rfl) rfl ?_
          refine a_sub (lv2 := [(0, .ref (X.N.2.1 66)), (1, .int x1), (2, .int x2), (3, .int x3), (4, .int v5), (5, .int 0)]) [2, 3, 4, 5, 1, 0] rfl ?_
          obtain ⟨o17, eo17, h⟩ := bndS h
          refine ok_fMd_mend_L55 eL C x1 x2 x3 v5 o17 ?_ FU q8 0 eo17
          refine a_aload_n (pc := 85) C dX11_mend_85 rfl 0 rfl ?_
          refine a_dup (pc := 86) C dX11_mend_86 rfl ?_
          refine gf_11_30 (pc := 87) C wd_1107 dX11_mend_87 ?_
          refine a_iconst (pc := 90) C 1 dX11_mend_90 rfl ?_
          refine a_isub (pc := 91) C dX11_mend_91 ?_
          refine pf_11_30 (pc := 92) C wd_1107 dX11_mend_92 ?_
          refine a_sub (lv2 := [(0, .ref (X.N.2.1 66)), (1, .int x1), (2, .int x2), (3, .int x3), (4, .int v5)]) [0, 1, 2, 3, 4] rfl ?_
          exact ok_fMd_mend_J95 eL C r M0 E (wI o17 66 30 ((o17.1 66 30) - 1)) x1 x2 x3 v5 h
      · replace h := iteF c7 h
        refine a_iload (pc := 33) C dX11_mend_33 0 rfl ?_
        exact a_iret (pc := 35) C E rfl (som1 h) (som2 h) dX11_mend_35
    · replace h := iteF c4 h
      refine a_iconst (pc := 17) C (-1) dX11_mend_17 rfl ?_
      exact a_iret (pc := 18) C E rfl (som1 h) (som2 h) dX11_mend_18
set_option maxHeartbeats 200000 in
set_option maxRecDepth 100000 in
theorem ok_fMd_of (l : Launch) (N : Rig) (M : Mem) (x1 : Int32) (x2 : Int32) {r : Int32} (h : fMd_of M x1 x2 = some r) : Ct l N yX11_of cX11_of 3 (some .int) 3 [.ref (N.2.1 66), .int x1, .int x2] M (QcI N (some .int) r M) := by
  refine ct_of (by decide) rfl ?_
  intro X el eN eL C E
  subst el
  subst eN
  unfold fMd_of at h
  show WA X M [(0, .ref (X.N.2.1 66)), (1, .int x1), (2, .int x2)] 0 []
  refine a_aload_n (pc := 0) C dX11_of_0 rfl 0 rfl ?_
  refine a_iload_n (pc := 1) C dX11_of_1 rfl 1 rfl ?_
  refine a_iload_n (pc := 2) C dX11_of_2 rfl 2 rfl ?_
  refine a_callVI (pc := 3) C [.int x1, .int x2] (ok_fMd_isOf X.l X.N M x1 x2) rfl mw_X11_isOf wd_1243 rfl rfl rfl rfl rfl rfl rfl dX11_of_3 (fun z1 => ?_)
  refine a_if_eq (pc := 6) C 18 dX11_of_6 rfl (fun c2 => ?_) (fun c2 => ?_)
  · replace h := iteT c2 h
    refine a_iconst (pc := 18) C (-1) dX11_of_18 rfl ?_
    exact a_iret (pc := 19) C E rfl (somI h) rfl dX11_of_19
  · replace h := iteF c2 h
    refine a_aload_n (pc := 9) C dX11_of_9 rfl 0 rfl ?_
    refine a_iload_n (pc := 10) C dX11_of_10 rfl 1 rfl ?_
    refine a_iload_n (pc := 11) C dX11_of_11 rfl 2 rfl ?_
    obtain ⟨v3, ev3, h⟩ := bndS h
    refine a_callVI (pc := 12) C [.int x1, .int x2] (ok_fMd_get X.l X.N M x1 x2 ev3) rfl mw_X11_get wd_1254 rfl rfl rfl rfl rfl rfl rfl dX11_of_12 (fun z4 => ?_)
    refine a_goto (pc := 15) C 19 dX11_of_15 rfl ?_
    exact a_iret (pc := 19) C E rfl (somI h) rfl dX11_of_19
set_option maxHeartbeats 200000 in
set_option maxRecDepth 100000 in
theorem ok_fMd_undo (l : Launch) (N : Rig) (M : Mem) {r : Int32} {M0 : Mem} (h : fMd_undo M = some (r, M0)) : Ct l N yX11_undo cX11_undo 1 (some .int) 1 [.ref (N.2.1 66)] M (QcI N (some .int) r M0) := by
  refine ct_of (by decide) rfl ?_
  intro X el eN eL C E
  subst el
  subst eN
  unfold fMd_undo at h
  show WA X M [(0, .ref (X.N.2.1 66))] 0 []
  refine a_aload_n (pc := 0) C dX11_undo_0 rfl 0 rfl ?_
  refine gf_11_30 (pc := 1) C wd_1107 dX11_undo_1 ?_
  refine a_if_ne (pc := 4) C 10 dX11_undo_4 rfl (fun c1 => ?_) (fun c1 => ?_)
  · replace h := iteT c1 h
    refine a_aload_n (pc := 10) C dX11_undo_10 rfl 0 rfl ?_
    refine a_dup (pc := 11) C dX11_undo_11 rfl ?_
    refine gf_11_30 (pc := 12) C wd_1107 dX11_undo_12 ?_
    refine a_iconst (pc := 15) C 1 dX11_undo_15 rfl ?_
    refine a_isub (pc := 16) C dX11_undo_16 ?_
    refine pf_11_30 (pc := 17) C wd_1107 dX11_undo_17 ?_
    refine a_aload_n (pc := 20) C dX11_undo_20 rfl 0 rfl ?_
    refine a_aload_n (pc := 21) C dX11_undo_21 rfl 0 rfl ?_
    refine gf_11_31 (pc := 22) C wd_1108 dX11_undo_22 ?_
    refine a_iconst (pc := 25) C 4 dX11_undo_25 rfl ?_
    refine a_aload_n (pc := 26) C dX11_undo_26 rfl 0 rfl ?_
    refine gf_11_30 (pc := 27) C wd_1107 dX11_undo_27 ?_
    refine a_imul (pc := 30) C dX11_undo_30 ?_
    obtain ⟨v2, ev2, h⟩ := bndS h
    refine a_iald (pc := 31) C rfl ev2 dX11_undo_31 ?_
    refine a_aload_n (pc := 32) C dX11_undo_32 rfl 0 rfl ?_
    refine gf_11_31 (pc := 33) C wd_1108 dX11_undo_33 ?_
    refine a_iconst (pc := 36) C 4 dX11_undo_36 rfl ?_
    refine a_aload_n (pc := 37) C dX11_undo_37 rfl 0 rfl ?_
    refine gf_11_30 (pc := 38) C wd_1107 dX11_undo_38 ?_
    refine a_imul (pc := 41) C dX11_undo_41 ?_
    refine a_iconst (pc := 42) C 1 dX11_undo_42 rfl ?_
    refine a_iadd (pc := 43) C dX11_undo_43 ?_
    obtain ⟨v3, ev3, h⟩ := bndS h
    refine a_iald (pc := 44) C rfl ev3 dX11_undo_44 ?_
    refine a_aload_n (pc := 45) C dX11_undo_45 rfl 0 rfl ?_
    refine gf_11_31 (pc := 46) C wd_1108 dX11_undo_46 ?_
    refine a_iconst (pc := 49) C 4 dX11_undo_49 rfl ?_
    refine a_aload_n (pc := 50) C dX11_undo_50 rfl 0 rfl ?_
    refine gf_11_30 (pc := 51) C wd_1107 dX11_undo_51 ?_
    refine a_imul (pc := 54) C dX11_undo_54 ?_
    refine a_iconst (pc := 55) C 2 dX11_undo_55 rfl ?_
    refine a_iadd (pc := 56) C dX11_undo_56 ?_
    obtain ⟨v4, ev4, h⟩ := bndS h
    refine a_iald (pc := 57) C rfl ev4 dX11_undo_57 ?_
    obtain ⟨q5, eq5, h⟩ := bndS h
    refine a_callVV (pc := 58) C [.int v2, .int v3, .int v4] (ok_fMd_becomes X.l X.N (wI M 66 30 ((M.1 66 30) - 1)) v2 v3 v4 eq5) rfl mw_X11_becomes wd_1258 rfl rfl rfl rfl rfl rfl rfl dX11_undo_58 ?_
    refine a_aload_n (pc := 61) C dX11_undo_61 rfl 0 rfl ?_
    refine gf_11_30 (pc := 62) C wd_1107 dX11_undo_62 ?_
    exact a_iret (pc := 65) C E rfl (som1 h) (som2 h) dX11_undo_65
  · replace h := iteF c1 h
    refine a_bipush (pc := 7) C (-5) dX11_undo_7 rfl ?_
    exact a_iret (pc := 9) C E rfl (som1 h) (som2 h) dX11_undo_9
set_option maxHeartbeats 200000 in
set_option maxRecDepth 100000 in
theorem ok_fMd_redo (l : Launch) (N : Rig) (M : Mem) {r : Int32} {M0 : Mem} (h : fMd_redo M = some (r, M0)) : Ct l N yX11_redo cX11_redo 1 (some .int) 1 [.ref (N.2.1 66)] M (QcI N (some .int) r M0) := by
  refine ct_of (by decide) rfl ?_
  intro X el eN eL C E
  subst el
  subst eN
  unfold fMd_redo at h
  show WA X M [(0, .ref (X.N.2.1 66))] 0 []
  refine a_aload_n (pc := 0) C dX11_redo_0 rfl 0 rfl ?_
  refine gf_11_30 (pc := 1) C wd_1107 dX11_redo_1 ?_
  refine a_aload_n (pc := 4) C dX11_redo_4 rfl 0 rfl ?_
  refine gf_11_29 (pc := 5) C wd_1106 dX11_redo_5 ?_
  refine a_icmp_ne (pc := 8) C 14 dX11_redo_8 rfl (fun c1 => ?_) (fun c1 => ?_)
  · replace h := iteT c1 h
    refine a_aload_n (pc := 14) C dX11_redo_14 rfl 0 rfl ?_
    refine a_aload_n (pc := 15) C dX11_redo_15 rfl 0 rfl ?_
    refine gf_11_31 (pc := 16) C wd_1108 dX11_redo_16 ?_
    refine a_iconst (pc := 19) C 4 dX11_redo_19 rfl ?_
    refine a_aload_n (pc := 20) C dX11_redo_20 rfl 0 rfl ?_
    refine gf_11_30 (pc := 21) C wd_1107 dX11_redo_21 ?_
    refine a_imul (pc := 24) C dX11_redo_24 ?_
    obtain ⟨v2, ev2, h⟩ := bndS h
    refine a_iald (pc := 25) C rfl ev2 dX11_redo_25 ?_
    refine a_aload_n (pc := 26) C dX11_redo_26 rfl 0 rfl ?_
    refine gf_11_31 (pc := 27) C wd_1108 dX11_redo_27 ?_
    refine a_iconst (pc := 30) C 4 dX11_redo_30 rfl ?_
    refine a_aload_n (pc := 31) C dX11_redo_31 rfl 0 rfl ?_
    refine gf_11_30 (pc := 32) C wd_1107 dX11_redo_32 ?_
    refine a_imul (pc := 35) C dX11_redo_35 ?_
    refine a_iconst (pc := 36) C 1 dX11_redo_36 rfl ?_
    refine a_iadd (pc := 37) C dX11_redo_37 ?_
    obtain ⟨v3, ev3, h⟩ := bndS h
    refine a_iald (pc := 38) C rfl ev3 dX11_redo_38 ?_
    refine a_aload_n (pc := 39) C dX11_redo_39 rfl 0 rfl ?_
    refine gf_11_31 (pc := 40) C wd_1108 dX11_redo_40 ?_
    refine a_iconst (pc := 43) C 4 dX11_redo_43 rfl ?_
    refine a_aload_n (pc := 44) C dX11_redo_44 rfl 0 rfl ?_
    refine gf_11_30 (pc := 45) C wd_1107 dX11_redo_45 ?_
    refine a_imul (pc := 48) C dX11_redo_48 ?_
    refine a_iconst (pc := 49) C 3 dX11_redo_49 rfl ?_
    refine a_iadd (pc := 50) C dX11_redo_50 ?_
    obtain ⟨v4, ev4, h⟩ := bndS h
    refine a_iald (pc := 51) C rfl ev4 dX11_redo_51 ?_
    obtain ⟨q5, eq5, h⟩ := bndS h
    refine a_callVV (pc := 52) C [.int v2, .int v3, .int v4] (ok_fMd_becomes X.l X.N M v2 v3 v4 eq5) rfl mw_X11_becomes wd_1258 rfl rfl rfl rfl rfl rfl rfl dX11_redo_52 ?_
    refine a_aload_n (pc := 55) C dX11_redo_55 rfl 0 rfl ?_
    refine a_dup (pc := 56) C dX11_redo_56 rfl ?_
    refine gf_11_30 (pc := 57) C wd_1107 dX11_redo_57 ?_
    refine a_iconst (pc := 60) C 1 dX11_redo_60 rfl ?_
    refine a_iadd (pc := 61) C dX11_redo_61 ?_
    refine pf_11_30 (pc := 62) C wd_1107 dX11_redo_62 ?_
    refine a_aload_n (pc := 65) C dX11_redo_65 rfl 0 rfl ?_
    refine gf_11_29 (pc := 66) C wd_1106 dX11_redo_66 ?_
    refine a_aload_n (pc := 69) C dX11_redo_69 rfl 0 rfl ?_
    refine gf_11_30 (pc := 70) C wd_1107 dX11_redo_70 ?_
    refine a_isub (pc := 73) C dX11_redo_73 ?_
    exact a_iret (pc := 74) C E rfl (som1 h) (som2 h) dX11_redo_74
  · replace h := iteF c1 h
    refine a_bipush (pc := 11) C (-5) dX11_redo_11 rfl ?_
    exact a_iret (pc := 13) C E rfl (som1 h) (som2 h) dX11_redo_13
set_option maxHeartbeats 200000 in
set_option maxRecDepth 100000 in
theorem ok_fMd_feed (l : Launch) (N : Rig) (M : Mem) (x1 : Int32) {r : Int32} {M0 : Mem} (h : fMd_feed M x1 = some (r, M0)) : Ct l N yX11_feed cX11_feed 2 (some .int) 1 [.ref (N.2.1 66), .int x1] M (QcI N (some .int) r M0) := by
  refine ct_of (by decide) rfl ?_
  intro X el eN eL C E
  subst el
  subst eN
  unfold fMd_feed at h
  show WA X M [(0, .ref (X.N.2.1 66)), (1, .int x1)] 0 []
  refine a_iload_n (pc := 0) C dX11_feed_0 rfl 1 rfl ?_
  refine a_iconst (pc := 1) C 0 dX11_feed_1 rfl ?_
  refine a_sipush (pc := 2) C 255 dX11_feed_2 rfl ?_
  refine a_callSI (pc := 5) C [.int x1, .int 0, .int 255] (ok_fMd_within X.l X.N M x1 0 255) rfl mw_X11_within wd_1220 rfl rfl rfl dX11_feed_5 (fun z1 => ?_)
  refine a_if_ne (pc := 8) C 13 dX11_feed_8 rfl (fun c2 => ?_) (fun c2 => ?_)
  · replace h := iteT c2 h
    refine a_aload_n (pc := 13) C dX11_feed_13 rfl 0 rfl ?_
    refine gf_11_6 (pc := 14) C wd_1083 dX11_feed_14 ?_
    refine a_bipush (pc := 17) C 120 dX11_feed_17 rfl ?_
    refine a_icmp_ne (pc := 19) C 25 dX11_feed_19 rfl (fun c3 => ?_) (fun c3 => ?_)
    · replace h := iteT c3 h
      refine a_aload_n (pc := 25) C dX11_feed_25 rfl 0 rfl ?_
      refine gf_11_7 (pc := 26) C wd_1084 dX11_feed_26 ?_
      refine a_aload_n (pc := 29) C dX11_feed_29 rfl 0 rfl ?_
      refine a_dup (pc := 30) C dX11_feed_30 rfl ?_
      refine gf_11_6 (pc := 31) C wd_1083 dX11_feed_31 ?_
      refine a_dup_x1 (pc := 34) C dX11_feed_34 rfl rfl ?_
      refine a_iconst (pc := 35) C 1 dX11_feed_35 rfl ?_
      refine a_iadd (pc := 36) C dX11_feed_36 ?_
      refine pf_11_6 (pc := 37) C wd_1083 dX11_feed_37 ?_
      refine a_iload_n (pc := 40) C dX11_feed_40 rfl 1 rfl ?_
      obtain ⟨M4, eM4, h⟩ := bndS h
      refine a_iast (pc := 41) C rfl eM4 dX11_feed_41 ?_
      refine a_aload_n (pc := 42) C dX11_feed_42 rfl 0 rfl ?_
      refine gf_11_6 (pc := 43) C wd_1083 dX11_feed_43 ?_
      exact a_iret (pc := 46) C E rfl (som1 h) (som2 h) dX11_feed_46
    · replace h := iteF c3 h
      refine a_bipush (pc := 22) C (-3) dX11_feed_22 rfl ?_
      exact a_iret (pc := 24) C E rfl (som1 h) (som2 h) dX11_feed_24
  · replace h := iteF c2 h
    refine a_iconst (pc := 11) C (-1) dX11_feed_11 rfl ?_
    exact a_iret (pc := 12) C E rfl (som1 h) (som2 h) dX11_feed_12
set_option maxHeartbeats 200000 in
set_option maxRecDepth 100000 in
theorem ok_fMd_sign (l : Launch) (N : Rig) (M : Mem) {r : Int32} (h : fMd_sign M = some r) : Ct l N yX11_sign cX11_sign 1 (some .int) 0 [.ref (N.2.1 66)] M (QcI N (some .int) r M) := by
  refine ct_of (by decide) rfl ?_
  intro X el eN eL C E
  subst el
  subst eN
  unfold fMd_sign at h
  show WA X M [(0, .ref (X.N.2.1 66))] 0 []
  refine a_aload_n (pc := 0) C dX11_sign_0 rfl 0 rfl ?_
  refine gf_11_14 (pc := 1) C wd_1091 dX11_sign_1 ?_
  refine a_aload_n (pc := 4) C dX11_sign_4 rfl 0 rfl ?_
  refine gf_11_6 (pc := 5) C wd_1083 dX11_sign_5 ?_
  refine a_icmp_ge (pc := 8) C 23 dX11_sign_8 rfl (fun c1 => ?_) (fun c1 => ?_)
  · replace h := iteT c1 h
    refine a_iconst (pc := 23) C (-1) dX11_sign_23 rfl ?_
    exact a_iret (pc := 24) C E rfl (somI h) rfl dX11_sign_24
  · replace h := iteF c1 h
    refine a_aload_n (pc := 11) C dX11_sign_11 rfl 0 rfl ?_
    refine gf_11_7 (pc := 12) C wd_1084 dX11_sign_12 ?_
    refine a_aload_n (pc := 15) C dX11_sign_15 rfl 0 rfl ?_
    refine gf_11_14 (pc := 16) C wd_1091 dX11_sign_16 ?_
    obtain ⟨v2, ev2, h⟩ := bndS h
    refine a_iald (pc := 19) C rfl ev2 dX11_sign_19 ?_
    refine a_goto (pc := 20) C 24 dX11_sign_20 rfl ?_
    exact a_iret (pc := 24) C E rfl (somI h) rfl dX11_sign_24
set_option maxHeartbeats 200000 in
set_option maxRecDepth 100000 in
theorem ok_fMd_is (l : Launch) (N : Rig) (M : Mem) (x1 : Int32) {r : Int32} {M0 : Mem} (h : fMd_is M x1 = some (r, M0)) : Ct l N yX11_is cX11_is 2 (some .boolean) 1 [.ref (N.2.1 66), .int x1] M (QcI N (some .boolean) r M0) := by
  refine ct_of (by decide) rfl ?_
  intro X el eN eL C E
  subst el
  subst eN
  unfold fMd_is at h
  show WA X M [(0, .ref (X.N.2.1 66)), (1, .int x1)] 0 []
  refine a_aload_n (pc := 0) C dX11_is_0 rfl 0 rfl ?_
  obtain ⟨v1, ev1, h⟩ := bndS h
  refine a_callVI (pc := 1) C [] (ok_fMd_sign X.l X.N M ev1) rfl mw_X11_sign wd_1314 rfl rfl rfl rfl rfl rfl rfl dX11_is_1 (fun z2 => ?_)
  refine a_iload_n (pc := 4) C dX11_is_4 rfl 1 rfl ?_
  refine a_icmp_eq (pc := 5) C 10 dX11_is_5 rfl (fun c3 => ?_) (fun c3 => ?_)
  · replace h := iteT c3 h
    refine a_aload_n (pc := 10) C dX11_is_10 rfl 0 rfl ?_
    refine a_dup (pc := 11) C dX11_is_11 rfl ?_
    refine gf_11_14 (pc := 12) C wd_1091 dX11_is_12 ?_
    refine a_iconst (pc := 15) C 1 dX11_is_15 rfl ?_
    refine a_iadd (pc := 16) C dX11_is_16 ?_
    refine pf_11_14 (pc := 17) C wd_1091 dX11_is_17 ?_
    refine a_iconst (pc := 20) C 1 dX11_is_20 rfl ?_
    exact a_iret (pc := 21) C E rfl (som1 h) (som2 h) dX11_is_21
  · replace h := iteF c3 h
    refine a_iconst (pc := 8) C 0 dX11_is_8 rfl ?_
    exact a_iret (pc := 9) C E rfl (som1 h) (som2 h) dX11_is_9
set_option maxHeartbeats 200000 in
set_option maxRecDepth 100000 in
theorem ok_fMd_codes (l : Launch) (N : Rig) (M : Mem) (x1 : Int32) {r : Int32} {M0 : Mem} (h : fMd_codes M x1 = some (r, M0)) : Ct l N yX11_codes cX11_codes 2 (some .boolean) 0 [.ref (N.2.1 66), .int x1] M (QcI N (some .boolean) r M0) := by
  refine ct_of (by decide) rfl ?_
  intro X el eN eL C E
  subst el
  subst eN
  unfold fMd_codes at h
  show WA X M [(0, .ref (X.N.2.1 66)), (1, .int x1)] 0 []
  refine a_aload_n (pc := 0) C dX11_codes_0 rfl 0 rfl ?_
  refine gf_11_21 (pc := 1) C wd_1098 dX11_codes_1 ?_
  refine a_aload_n (pc := 4) C dX11_codes_4 rfl 0 rfl ?_
  refine a_dup (pc := 5) C dX11_codes_5 rfl ?_
  refine gf_11_16 (pc := 6) C wd_1093 dX11_codes_6 ?_
  refine a_dup_x1 (pc := 9) C dX11_codes_9 rfl rfl ?_
  refine a_iconst (pc := 10) C 1 dX11_codes_10 rfl ?_
  refine a_iadd (pc := 11) C dX11_codes_11 ?_
  refine pf_11_16 (pc := 12) C wd_1093 dX11_codes_12 ?_
  refine a_iload_n (pc := 15) C dX11_codes_15 rfl 1 rfl ?_
  obtain ⟨M1, eM1, h⟩ := bndS h
  refine a_iast (pc := 16) C rfl eM1 dX11_codes_16 ?_
  refine a_iconst (pc := 17) C 1 dX11_codes_17 rfl ?_
  exact a_iret (pc := 18) C E rfl (som1 h) (som2 h) dX11_codes_18
set_option maxHeartbeats 200000 in
set_option maxRecDepth 100000 in
theorem ok_fMd_isDigit (l : Launch) (N : Rig) (M : Mem) {r : Int32} (h : fMd_isDigit M = some r) : Ct l N yX11_isDigit cX11_isDigit 1 (some .boolean) 1 [.ref (N.2.1 66)] M (QcI N (some .boolean) r M) := by
  refine ct_of (by decide) rfl ?_
  intro X el eN eL C E
  subst el
  subst eN
  unfold fMd_isDigit at h
  show WA X M [(0, .ref (X.N.2.1 66))] 0 []
  refine a_aload_n (pc := 0) C dX11_isDigit_0 rfl 0 rfl ?_
  obtain ⟨v1, ev1, h⟩ := bndS h
  refine a_callVI (pc := 1) C [] (ok_fMd_sign X.l X.N M ev1) rfl mw_X11_sign wd_1314 rfl rfl rfl rfl rfl rfl rfl dX11_isDigit_1 (fun z2 => ?_)
  refine a_bipush (pc := 4) C 48 dX11_isDigit_4 rfl ?_
  refine a_icmp_lt (pc := 6) C 22 dX11_isDigit_6 rfl (fun c3 => ?_) (fun c3 => ?_)
  · replace h := iteT c3 h
    refine a_iconst (pc := 22) C 0 dX11_isDigit_22 rfl ?_
    exact a_iret (pc := 23) C E rfl (somI h) rfl dX11_isDigit_23
  · replace h := iteF c3 h
    refine a_aload_n (pc := 9) C dX11_isDigit_9 rfl 0 rfl ?_
    obtain ⟨v4, ev4, h⟩ := bndS h
    refine a_callVI (pc := 10) C [] (ok_fMd_sign X.l X.N M ev4) rfl mw_X11_sign wd_1314 rfl rfl rfl rfl rfl rfl rfl dX11_isDigit_10 (fun z5 => ?_)
    refine a_bipush (pc := 13) C 57 dX11_isDigit_13 rfl ?_
    refine a_icmp_gt (pc := 15) C 22 dX11_isDigit_15 rfl (fun c6 => ?_) (fun c6 => ?_)
    · replace h := iteT c6 h
      refine a_iconst (pc := 22) C 0 dX11_isDigit_22 rfl ?_
      exact a_iret (pc := 23) C E rfl (somI h) rfl dX11_isDigit_23
    · replace h := iteF c6 h
      refine a_iconst (pc := 18) C 1 dX11_isDigit_18 rfl ?_
      refine a_goto (pc := 19) C 23 dX11_isDigit_19 rfl ?_
      exact a_iret (pc := 23) C E rfl (somI h) rfl dX11_isDigit_23
set_option maxHeartbeats 200000 in
set_option maxRecDepth 100000 in
theorem ok_fMd_nameOf (l : Launch) (N : Rig) (M : Mem) (x0 : Int32) : Ct l N yX11_nameOf cX11_nameOf 1 (some .int) 0 [.int x0] M (QcI N (some .int) (fMd_nameOf x0) M) := by
  obtain ⟨r, h⟩ : ∃ r, fMd_nameOf x0 = r := ⟨_, rfl⟩
  rw [h]
  refine ct_of (by decide) rfl ?_
  intro X el eN eL C E
  subst el
  subst eN
  unfold fMd_nameOf at h
  show WA X M [(0, .int x0)] 0 []
  refine a_iload_n (pc := 0) C dX11_nameOf_0 rfl 0 rfl ?_
  by_cases c1 : x0 = 99
  · replace h := iteT c1 h
    refine a_tsw_in (pc := 1) C 99 94 dX11_nameOf_1 c1 (by decide) (by decide) rfl rfl ?_
    refine a_iconst (pc := 94) C 5 dX11_nameOf_94 rfl ?_
    exact a_iret (pc := 95) C E rfl h rfl dX11_nameOf_95
  replace h := iteF c1 h
  by_cases c2 : x0 = 104
  · replace h := iteT c2 h
    refine a_tsw_in (pc := 1) C 104 88 dX11_nameOf_1 c2 (by decide) (by decide) rfl rfl ?_
    refine a_iconst (pc := 88) C 2 dX11_nameOf_88 rfl ?_
    exact a_iret (pc := 89) C E rfl h rfl dX11_nameOf_89
  replace h := iteF c2 h
  by_cases c3 : x0 = 108
  · replace h := iteT c3 h
    refine a_tsw_in (pc := 1) C 108 84 dX11_nameOf_1 c3 (by decide) (by decide) rfl rfl ?_
    refine a_iconst (pc := 84) C 0 dX11_nameOf_84 rfl ?_
    exact a_iret (pc := 85) C E rfl h rfl dX11_nameOf_85
  replace h := iteF c3 h
  by_cases c4 : x0 = 111
  · replace h := iteT c4 h
    refine a_tsw_in (pc := 1) C 111 92 dX11_nameOf_1 c4 (by decide) (by decide) rfl rfl ?_
    refine a_iconst (pc := 92) C 4 dX11_nameOf_92 rfl ?_
    exact a_iret (pc := 93) C E rfl h rfl dX11_nameOf_93
  replace h := iteF c4 h
  by_cases c5 : x0 = 112
  · replace h := iteT c5 h
    refine a_tsw_in (pc := 1) C 112 90 dX11_nameOf_1 c5 (by decide) (by decide) rfl rfl ?_
    refine a_iconst (pc := 90) C 3 dX11_nameOf_90 rfl ?_
    exact a_iret (pc := 91) C E rfl h rfl dX11_nameOf_91
  replace h := iteF c5 h
  by_cases c6 : x0 = 115
  · replace h := iteT c6 h
    refine a_tsw_in (pc := 1) C 115 86 dX11_nameOf_1 c6 (by decide) (by decide) rfl rfl ?_
    refine a_iconst (pc := 86) C 1 dX11_nameOf_86 rfl ?_
    exact a_iret (pc := 87) C E rfl h rfl dX11_nameOf_87
  replace h := iteF c6 h
  have kd : WA X M [(0, .int x0)] 96 [] := by
    refine a_iconst (pc := 96) C (-1) dX11_nameOf_96 rfl ?_
    exact a_iret (pc := 97) C E rfl h rfl dX11_nameOf_97
  by_cases c7 : x0 = 100
  · exact a_tsw_in (pc := 1) C 100 96 dX11_nameOf_1 c7 (by decide) (by decide) rfl rfl kd
  by_cases c8 : x0 = 101
  · exact a_tsw_in (pc := 1) C 101 96 dX11_nameOf_1 c8 (by decide) (by decide) rfl rfl kd
  by_cases c9 : x0 = 102
  · exact a_tsw_in (pc := 1) C 102 96 dX11_nameOf_1 c9 (by decide) (by decide) rfl rfl kd
  by_cases c10 : x0 = 103
  · exact a_tsw_in (pc := 1) C 103 96 dX11_nameOf_1 c10 (by decide) (by decide) rfl rfl kd
  by_cases c11 : x0 = 105
  · exact a_tsw_in (pc := 1) C 105 96 dX11_nameOf_1 c11 (by decide) (by decide) rfl rfl kd
  by_cases c12 : x0 = 106
  · exact a_tsw_in (pc := 1) C 106 96 dX11_nameOf_1 c12 (by decide) (by decide) rfl rfl kd
  by_cases c13 : x0 = 107
  · exact a_tsw_in (pc := 1) C 107 96 dX11_nameOf_1 c13 (by decide) (by decide) rfl rfl kd
  by_cases c14 : x0 = 109
  · exact a_tsw_in (pc := 1) C 109 96 dX11_nameOf_1 c14 (by decide) (by decide) rfl rfl kd
  by_cases c15 : x0 = 110
  · exact a_tsw_in (pc := 1) C 110 96 dX11_nameOf_1 c15 (by decide) (by decide) rfl rfl kd
  by_cases c16 : x0 = 113
  · exact a_tsw_in (pc := 1) C 113 96 dX11_nameOf_1 c16 (by decide) (by decide) rfl rfl kd
  by_cases c17 : x0 = 114
  · exact a_tsw_in (pc := 1) C 114 96 dX11_nameOf_1 c17 (by decide) (by decide) rfl rfl kd
  exact a_tsw_out (pc := 1) C 96 dX11_nameOf_1 (by have := neI 99 rfl c1; have := neI 104 rfl c2; have := neI 108 rfl c3; have := neI 111 rfl c4; have := neI 112 rfl c5; have := neI 115 rfl c6; have := neI 100 rfl c7; have := neI 101 rfl c8; have := neI 102 rfl c9; have := neI 103 rfl c10; have := neI 105 rfl c11; have := neI 106 rfl c12; have := neI 107 rfl c13; have := neI 109 rfl c14; have := neI 110 rfl c15; have := neI 113 rfl c16; have := neI 114 rfl c17; omega) rfl kd
set_option maxHeartbeats 200000 in
set_option maxRecDepth 100000 in
theorem ok_fMd_isO_J214 {X : Amb} (eL : X.nL = 3) {kr kc : Nat} (hkr : Nat.ble (kr + 1) kc = true) (hkb : Nat.ble 2 kc = true) (C : Cx X RX11 cX11_isO kc) (g_fMd_isO : Mem → Option (Int32 × Mem)) (g_fMd_isE : Mem → Option (Int32 × Mem)) (g_fMd_isA : Mem → Option (Int32 × Mem)) (g_fMd_isB : Mem → Option (Int32 × Mem)) (g_fMd_isS : Mem → Option (Int32 × Mem)) (g_fMd_isP : Mem → Option (Int32 × Mem)) (G_fMd_isO : ∀ (M : Mem) {r : Int32} {M0 : Mem}, g_fMd_isO M = some (r, M0) → Ct X.l X.N yX11_isO cX11_isO 3 (some .boolean) kr [.ref (X.N.2.1 66)] M (QcI X.N (some .boolean) r M0)) (G_fMd_isE : ∀ (M : Mem) {r : Int32} {M0 : Mem}, g_fMd_isE M = some (r, M0) → Ct X.l X.N yX11_isE cX11_isE 1 (some .boolean) kr [.ref (X.N.2.1 66)] M (QcI X.N (some .boolean) r M0)) (G_fMd_isA : ∀ (M : Mem) {r : Int32} {M0 : Mem}, g_fMd_isA M = some (r, M0) → Ct X.l X.N yX11_isA cX11_isA 1 (some .boolean) kr [.ref (X.N.2.1 66)] M (QcI X.N (some .boolean) r M0)) (G_fMd_isB : ∀ (M : Mem) {r : Int32} {M0 : Mem}, g_fMd_isB M = some (r, M0) → Ct X.l X.N yX11_isB cX11_isB 2 (some .boolean) kr [.ref (X.N.2.1 66)] M (QcI X.N (some .boolean) r M0)) (G_fMd_isS : ∀ (M : Mem) {r : Int32} {M0 : Mem}, g_fMd_isS M = some (r, M0) → Ct X.l X.N yX11_isS cX11_isS 2 (some .boolean) kr [.ref (X.N.2.1 66)] M (QcI X.N (some .boolean) r M0)) (G_fMd_isP : ∀ (M : Mem) {r : Int32} {M0 : Mem}, g_fMd_isP M = some (r, M0) → Ct X.l X.N yX11_isP cX11_isP 2 (some .boolean) kr [.ref (X.N.2.1 66)] M (QcI X.N (some .boolean) r M0)) (r : Int32) (M0 : Mem) (E : En X (some .boolean) (QcI X.N (some .boolean) r M0)) (M : Mem) (x2 : Int32) (h : fMd_isO_J214 g_fMd_isO g_fMd_isE g_fMd_isA g_fMd_isB g_fMd_isS g_fMd_isP M x2 = some (r, M0)) : WA X M [(0, .ref (X.N.2.1 66)), (2, .int x2)] 214 [] := by
  unfold fMd_isO_J214 at h
  refine a_aload_n (pc := 214) C dX11_isO_214 rfl 0 rfl ?_
  refine a_dup (pc := 215) C dX11_isO_215 rfl ?_
  refine gf_11_15 (pc := 216) C wd_1092 dX11_isO_216 ?_
  refine a_iconst (pc := 219) C 1 dX11_isO_219 rfl ?_
  refine a_isub (pc := 220) C dX11_isO_220 ?_
  refine pf_11_15 (pc := 221) C wd_1092 dX11_isO_221 ?_
  refine a_iload_n (pc := 224) C dX11_isO_224 rfl 1 rfl ?_
  obtain ⟨u18, eu18, h⟩ := bndS h
  exact a_iret (pc := 225) C E (narZ (chZ_s eu18)).1 (som1 h) (som2 h) dX11_isO_225
set_option maxHeartbeats 200000 in
set_option maxRecDepth 100000 in
theorem ok_fMd_isO_J213 {X : Amb} (eL : X.nL = 3) {kr kc : Nat} (hkr : Nat.ble (kr + 1) kc = true) (hkb : Nat.ble 2 kc = true) (C : Cx X RX11 cX11_isO kc) (g_fMd_isO : Mem → Option (Int32 × Mem)) (g_fMd_isE : Mem → Option (Int32 × Mem)) (g_fMd_isA : Mem → Option (Int32 × Mem)) (g_fMd_isB : Mem → Option (Int32 × Mem)) (g_fMd_isS : Mem → Option (Int32 × Mem)) (g_fMd_isP : Mem → Option (Int32 × Mem)) (G_fMd_isO : ∀ (M : Mem) {r : Int32} {M0 : Mem}, g_fMd_isO M = some (r, M0) → Ct X.l X.N yX11_isO cX11_isO 3 (some .boolean) kr [.ref (X.N.2.1 66)] M (QcI X.N (some .boolean) r M0)) (G_fMd_isE : ∀ (M : Mem) {r : Int32} {M0 : Mem}, g_fMd_isE M = some (r, M0) → Ct X.l X.N yX11_isE cX11_isE 1 (some .boolean) kr [.ref (X.N.2.1 66)] M (QcI X.N (some .boolean) r M0)) (G_fMd_isA : ∀ (M : Mem) {r : Int32} {M0 : Mem}, g_fMd_isA M = some (r, M0) → Ct X.l X.N yX11_isA cX11_isA 1 (some .boolean) kr [.ref (X.N.2.1 66)] M (QcI X.N (some .boolean) r M0)) (G_fMd_isB : ∀ (M : Mem) {r : Int32} {M0 : Mem}, g_fMd_isB M = some (r, M0) → Ct X.l X.N yX11_isB cX11_isB 2 (some .boolean) kr [.ref (X.N.2.1 66)] M (QcI X.N (some .boolean) r M0)) (G_fMd_isS : ∀ (M : Mem) {r : Int32} {M0 : Mem}, g_fMd_isS M = some (r, M0) → Ct X.l X.N yX11_isS cX11_isS 2 (some .boolean) kr [.ref (X.N.2.1 66)] M (QcI X.N (some .boolean) r M0)) (G_fMd_isP : ∀ (M : Mem) {r : Int32} {M0 : Mem}, g_fMd_isP M = some (r, M0) → Ct X.l X.N yX11_isP cX11_isP 2 (some .boolean) kr [.ref (X.N.2.1 66)] M (QcI X.N (some .boolean) r M0)) (r : Int32) (M0 : Mem) (E : En X (some .boolean) (QcI X.N (some .boolean) r M0)) (M : Mem) (s0 : Int32) (h : fMd_isO_J213 g_fMd_isO g_fMd_isE g_fMd_isA g_fMd_isB g_fMd_isS g_fMd_isP M s0 = some (r, M0)) : WA X M [(0, .ref (X.N.2.1 66))] 213 [.int s0] := by
  unfold fMd_isO_J213 at h
  refine a_istore_n (pc := 213) C [(2, .int s0), (0, .ref (X.N.2.1 66))] dX11_isO_213 rfl (nlt eL rfl) rfl ?_
  refine a_sub (lv2 := [(0, .ref (X.N.2.1 66)), (2, .int s0)]) [1, 0] rfl ?_
  exact ok_fMd_isO_J214 eL hkr hkb C g_fMd_isO g_fMd_isE g_fMd_isA g_fMd_isB g_fMd_isS g_fMd_isP G_fMd_isO G_fMd_isE G_fMd_isA G_fMd_isB G_fMd_isS G_fMd_isP r M0 E M s0 h
set_option maxHeartbeats 200000 in
set_option maxRecDepth 100000 in
theorem ok_fMd_isO_J212 {X : Amb} (eL : X.nL = 3) {kr kc : Nat} (hkr : Nat.ble (kr + 1) kc = true) (hkb : Nat.ble 2 kc = true) (C : Cx X RX11 cX11_isO kc) (g_fMd_isO : Mem → Option (Int32 × Mem)) (g_fMd_isE : Mem → Option (Int32 × Mem)) (g_fMd_isA : Mem → Option (Int32 × Mem)) (g_fMd_isB : Mem → Option (Int32 × Mem)) (g_fMd_isS : Mem → Option (Int32 × Mem)) (g_fMd_isP : Mem → Option (Int32 × Mem)) (G_fMd_isO : ∀ (M : Mem) {r : Int32} {M0 : Mem}, g_fMd_isO M = some (r, M0) → Ct X.l X.N yX11_isO cX11_isO 3 (some .boolean) kr [.ref (X.N.2.1 66)] M (QcI X.N (some .boolean) r M0)) (G_fMd_isE : ∀ (M : Mem) {r : Int32} {M0 : Mem}, g_fMd_isE M = some (r, M0) → Ct X.l X.N yX11_isE cX11_isE 1 (some .boolean) kr [.ref (X.N.2.1 66)] M (QcI X.N (some .boolean) r M0)) (G_fMd_isA : ∀ (M : Mem) {r : Int32} {M0 : Mem}, g_fMd_isA M = some (r, M0) → Ct X.l X.N yX11_isA cX11_isA 1 (some .boolean) kr [.ref (X.N.2.1 66)] M (QcI X.N (some .boolean) r M0)) (G_fMd_isB : ∀ (M : Mem) {r : Int32} {M0 : Mem}, g_fMd_isB M = some (r, M0) → Ct X.l X.N yX11_isB cX11_isB 2 (some .boolean) kr [.ref (X.N.2.1 66)] M (QcI X.N (some .boolean) r M0)) (G_fMd_isS : ∀ (M : Mem) {r : Int32} {M0 : Mem}, g_fMd_isS M = some (r, M0) → Ct X.l X.N yX11_isS cX11_isS 2 (some .boolean) kr [.ref (X.N.2.1 66)] M (QcI X.N (some .boolean) r M0)) (G_fMd_isP : ∀ (M : Mem) {r : Int32} {M0 : Mem}, g_fMd_isP M = some (r, M0) → Ct X.l X.N yX11_isP cX11_isP 2 (some .boolean) kr [.ref (X.N.2.1 66)] M (QcI X.N (some .boolean) r M0)) (r : Int32) (M0 : Mem) (E : En X (some .boolean) (QcI X.N (some .boolean) r M0)) (M : Mem) (h : fMd_isO_J212 g_fMd_isO g_fMd_isE g_fMd_isA g_fMd_isB g_fMd_isS g_fMd_isP M = some (r, M0)) : WA X M [(0, .ref (X.N.2.1 66))] 212 [] := by
  unfold fMd_isO_J212 at h
  refine a_iconst (pc := 212) C 0 dX11_isO_212 rfl ?_
  refine a_sub (lv2 := [(0, .ref (X.N.2.1 66))]) [0] rfl ?_
  exact ok_fMd_isO_J213 eL hkr hkb C g_fMd_isO g_fMd_isE g_fMd_isA g_fMd_isB g_fMd_isS g_fMd_isP G_fMd_isO G_fMd_isE G_fMd_isA G_fMd_isB G_fMd_isS G_fMd_isP r M0 E M 0 h
set_option maxHeartbeats 200000 in
set_option maxRecDepth 100000 in
theorem ok_fMd_isO_J179 {X : Amb} (eL : X.nL = 3) {kr kc : Nat} (hkr : Nat.ble (kr + 1) kc = true) (hkb : Nat.ble 2 kc = true) (C : Cx X RX11 cX11_isO kc) (g_fMd_isO : Mem → Option (Int32 × Mem)) (g_fMd_isE : Mem → Option (Int32 × Mem)) (g_fMd_isA : Mem → Option (Int32 × Mem)) (g_fMd_isB : Mem → Option (Int32 × Mem)) (g_fMd_isS : Mem → Option (Int32 × Mem)) (g_fMd_isP : Mem → Option (Int32 × Mem)) (G_fMd_isO : ∀ (M : Mem) {r : Int32} {M0 : Mem}, g_fMd_isO M = some (r, M0) → Ct X.l X.N yX11_isO cX11_isO 3 (some .boolean) kr [.ref (X.N.2.1 66)] M (QcI X.N (some .boolean) r M0)) (G_fMd_isE : ∀ (M : Mem) {r : Int32} {M0 : Mem}, g_fMd_isE M = some (r, M0) → Ct X.l X.N yX11_isE cX11_isE 1 (some .boolean) kr [.ref (X.N.2.1 66)] M (QcI X.N (some .boolean) r M0)) (G_fMd_isA : ∀ (M : Mem) {r : Int32} {M0 : Mem}, g_fMd_isA M = some (r, M0) → Ct X.l X.N yX11_isA cX11_isA 1 (some .boolean) kr [.ref (X.N.2.1 66)] M (QcI X.N (some .boolean) r M0)) (G_fMd_isB : ∀ (M : Mem) {r : Int32} {M0 : Mem}, g_fMd_isB M = some (r, M0) → Ct X.l X.N yX11_isB cX11_isB 2 (some .boolean) kr [.ref (X.N.2.1 66)] M (QcI X.N (some .boolean) r M0)) (G_fMd_isS : ∀ (M : Mem) {r : Int32} {M0 : Mem}, g_fMd_isS M = some (r, M0) → Ct X.l X.N yX11_isS cX11_isS 2 (some .boolean) kr [.ref (X.N.2.1 66)] M (QcI X.N (some .boolean) r M0)) (G_fMd_isP : ∀ (M : Mem) {r : Int32} {M0 : Mem}, g_fMd_isP M = some (r, M0) → Ct X.l X.N yX11_isP cX11_isP 2 (some .boolean) kr [.ref (X.N.2.1 66)] M (QcI X.N (some .boolean) r M0)) (r : Int32) (M0 : Mem) (E : En X (some .boolean) (QcI X.N (some .boolean) r M0)) (M : Mem) (s0 : Int32) (h : fMd_isO_J179 g_fMd_isO g_fMd_isE g_fMd_isA g_fMd_isB g_fMd_isS g_fMd_isP M s0 = some (r, M0)) : WA X M [(0, .ref (X.N.2.1 66))] 179 [.int s0] := by
  unfold fMd_isO_J179 at h
  refine a_istore_n (pc := 179) C [(2, .int s0), (0, .ref (X.N.2.1 66))] dX11_isO_179 rfl (nlt eL rfl) rfl ?_
  refine a_goto (pc := 180) C 214 dX11_isO_180 rfl ?_
  refine a_sub (lv2 := [(0, .ref (X.N.2.1 66)), (2, .int s0)]) [1, 0] rfl ?_
  exact ok_fMd_isO_J214 eL hkr hkb C g_fMd_isO g_fMd_isE g_fMd_isA g_fMd_isB g_fMd_isS g_fMd_isP G_fMd_isO G_fMd_isE G_fMd_isA G_fMd_isB G_fMd_isS G_fMd_isP r M0 E M s0 h
set_option maxHeartbeats 200000 in
set_option maxRecDepth 100000 in
theorem ok_fMd_isO_J178 {X : Amb} (eL : X.nL = 3) {kr kc : Nat} (hkr : Nat.ble (kr + 1) kc = true) (hkb : Nat.ble 2 kc = true) (C : Cx X RX11 cX11_isO kc) (g_fMd_isO : Mem → Option (Int32 × Mem)) (g_fMd_isE : Mem → Option (Int32 × Mem)) (g_fMd_isA : Mem → Option (Int32 × Mem)) (g_fMd_isB : Mem → Option (Int32 × Mem)) (g_fMd_isS : Mem → Option (Int32 × Mem)) (g_fMd_isP : Mem → Option (Int32 × Mem)) (G_fMd_isO : ∀ (M : Mem) {r : Int32} {M0 : Mem}, g_fMd_isO M = some (r, M0) → Ct X.l X.N yX11_isO cX11_isO 3 (some .boolean) kr [.ref (X.N.2.1 66)] M (QcI X.N (some .boolean) r M0)) (G_fMd_isE : ∀ (M : Mem) {r : Int32} {M0 : Mem}, g_fMd_isE M = some (r, M0) → Ct X.l X.N yX11_isE cX11_isE 1 (some .boolean) kr [.ref (X.N.2.1 66)] M (QcI X.N (some .boolean) r M0)) (G_fMd_isA : ∀ (M : Mem) {r : Int32} {M0 : Mem}, g_fMd_isA M = some (r, M0) → Ct X.l X.N yX11_isA cX11_isA 1 (some .boolean) kr [.ref (X.N.2.1 66)] M (QcI X.N (some .boolean) r M0)) (G_fMd_isB : ∀ (M : Mem) {r : Int32} {M0 : Mem}, g_fMd_isB M = some (r, M0) → Ct X.l X.N yX11_isB cX11_isB 2 (some .boolean) kr [.ref (X.N.2.1 66)] M (QcI X.N (some .boolean) r M0)) (G_fMd_isS : ∀ (M : Mem) {r : Int32} {M0 : Mem}, g_fMd_isS M = some (r, M0) → Ct X.l X.N yX11_isS cX11_isS 2 (some .boolean) kr [.ref (X.N.2.1 66)] M (QcI X.N (some .boolean) r M0)) (G_fMd_isP : ∀ (M : Mem) {r : Int32} {M0 : Mem}, g_fMd_isP M = some (r, M0) → Ct X.l X.N yX11_isP cX11_isP 2 (some .boolean) kr [.ref (X.N.2.1 66)] M (QcI X.N (some .boolean) r M0)) (r : Int32) (M0 : Mem) (E : En X (some .boolean) (QcI X.N (some .boolean) r M0)) (M : Mem) (h : fMd_isO_J178 g_fMd_isO g_fMd_isE g_fMd_isA g_fMd_isB g_fMd_isS g_fMd_isP M = some (r, M0)) : WA X M [(0, .ref (X.N.2.1 66))] 178 [] := by
  unfold fMd_isO_J178 at h
  refine a_iconst (pc := 178) C 0 dX11_isO_178 rfl ?_
  refine a_sub (lv2 := [(0, .ref (X.N.2.1 66))]) [0] rfl ?_
  exact ok_fMd_isO_J179 eL hkr hkb C g_fMd_isO g_fMd_isE g_fMd_isA g_fMd_isB g_fMd_isS g_fMd_isP G_fMd_isO G_fMd_isE G_fMd_isA G_fMd_isB G_fMd_isS G_fMd_isP r M0 E M 0 h
set_option maxHeartbeats 200000 in
set_option maxRecDepth 100000 in
theorem ok_fMd_isO_J145 {X : Amb} (eL : X.nL = 3) {kr kc : Nat} (hkr : Nat.ble (kr + 1) kc = true) (hkb : Nat.ble 2 kc = true) (C : Cx X RX11 cX11_isO kc) (g_fMd_isO : Mem → Option (Int32 × Mem)) (g_fMd_isE : Mem → Option (Int32 × Mem)) (g_fMd_isA : Mem → Option (Int32 × Mem)) (g_fMd_isB : Mem → Option (Int32 × Mem)) (g_fMd_isS : Mem → Option (Int32 × Mem)) (g_fMd_isP : Mem → Option (Int32 × Mem)) (G_fMd_isO : ∀ (M : Mem) {r : Int32} {M0 : Mem}, g_fMd_isO M = some (r, M0) → Ct X.l X.N yX11_isO cX11_isO 3 (some .boolean) kr [.ref (X.N.2.1 66)] M (QcI X.N (some .boolean) r M0)) (G_fMd_isE : ∀ (M : Mem) {r : Int32} {M0 : Mem}, g_fMd_isE M = some (r, M0) → Ct X.l X.N yX11_isE cX11_isE 1 (some .boolean) kr [.ref (X.N.2.1 66)] M (QcI X.N (some .boolean) r M0)) (G_fMd_isA : ∀ (M : Mem) {r : Int32} {M0 : Mem}, g_fMd_isA M = some (r, M0) → Ct X.l X.N yX11_isA cX11_isA 1 (some .boolean) kr [.ref (X.N.2.1 66)] M (QcI X.N (some .boolean) r M0)) (G_fMd_isB : ∀ (M : Mem) {r : Int32} {M0 : Mem}, g_fMd_isB M = some (r, M0) → Ct X.l X.N yX11_isB cX11_isB 2 (some .boolean) kr [.ref (X.N.2.1 66)] M (QcI X.N (some .boolean) r M0)) (G_fMd_isS : ∀ (M : Mem) {r : Int32} {M0 : Mem}, g_fMd_isS M = some (r, M0) → Ct X.l X.N yX11_isS cX11_isS 2 (some .boolean) kr [.ref (X.N.2.1 66)] M (QcI X.N (some .boolean) r M0)) (G_fMd_isP : ∀ (M : Mem) {r : Int32} {M0 : Mem}, g_fMd_isP M = some (r, M0) → Ct X.l X.N yX11_isP cX11_isP 2 (some .boolean) kr [.ref (X.N.2.1 66)] M (QcI X.N (some .boolean) r M0)) (r : Int32) (M0 : Mem) (E : En X (some .boolean) (QcI X.N (some .boolean) r M0)) (M : Mem) (s0 : Int32) (h : fMd_isO_J145 g_fMd_isO g_fMd_isE g_fMd_isA g_fMd_isB g_fMd_isS g_fMd_isP M s0 = some (r, M0)) : WA X M [(0, .ref (X.N.2.1 66))] 145 [.int s0] := by
  unfold fMd_isO_J145 at h
  refine a_istore_n (pc := 145) C [(2, .int s0), (0, .ref (X.N.2.1 66))] dX11_isO_145 rfl (nlt eL rfl) rfl ?_
  refine a_goto (pc := 146) C 214 dX11_isO_146 rfl ?_
  refine a_sub (lv2 := [(0, .ref (X.N.2.1 66)), (2, .int s0)]) [1, 0] rfl ?_
  exact ok_fMd_isO_J214 eL hkr hkb C g_fMd_isO g_fMd_isE g_fMd_isA g_fMd_isB g_fMd_isS g_fMd_isP G_fMd_isO G_fMd_isE G_fMd_isA G_fMd_isB G_fMd_isS G_fMd_isP r M0 E M s0 h
set_option maxHeartbeats 200000 in
set_option maxRecDepth 100000 in
theorem ok_fMd_isO_J144 {X : Amb} (eL : X.nL = 3) {kr kc : Nat} (hkr : Nat.ble (kr + 1) kc = true) (hkb : Nat.ble 2 kc = true) (C : Cx X RX11 cX11_isO kc) (g_fMd_isO : Mem → Option (Int32 × Mem)) (g_fMd_isE : Mem → Option (Int32 × Mem)) (g_fMd_isA : Mem → Option (Int32 × Mem)) (g_fMd_isB : Mem → Option (Int32 × Mem)) (g_fMd_isS : Mem → Option (Int32 × Mem)) (g_fMd_isP : Mem → Option (Int32 × Mem)) (G_fMd_isO : ∀ (M : Mem) {r : Int32} {M0 : Mem}, g_fMd_isO M = some (r, M0) → Ct X.l X.N yX11_isO cX11_isO 3 (some .boolean) kr [.ref (X.N.2.1 66)] M (QcI X.N (some .boolean) r M0)) (G_fMd_isE : ∀ (M : Mem) {r : Int32} {M0 : Mem}, g_fMd_isE M = some (r, M0) → Ct X.l X.N yX11_isE cX11_isE 1 (some .boolean) kr [.ref (X.N.2.1 66)] M (QcI X.N (some .boolean) r M0)) (G_fMd_isA : ∀ (M : Mem) {r : Int32} {M0 : Mem}, g_fMd_isA M = some (r, M0) → Ct X.l X.N yX11_isA cX11_isA 1 (some .boolean) kr [.ref (X.N.2.1 66)] M (QcI X.N (some .boolean) r M0)) (G_fMd_isB : ∀ (M : Mem) {r : Int32} {M0 : Mem}, g_fMd_isB M = some (r, M0) → Ct X.l X.N yX11_isB cX11_isB 2 (some .boolean) kr [.ref (X.N.2.1 66)] M (QcI X.N (some .boolean) r M0)) (G_fMd_isS : ∀ (M : Mem) {r : Int32} {M0 : Mem}, g_fMd_isS M = some (r, M0) → Ct X.l X.N yX11_isS cX11_isS 2 (some .boolean) kr [.ref (X.N.2.1 66)] M (QcI X.N (some .boolean) r M0)) (G_fMd_isP : ∀ (M : Mem) {r : Int32} {M0 : Mem}, g_fMd_isP M = some (r, M0) → Ct X.l X.N yX11_isP cX11_isP 2 (some .boolean) kr [.ref (X.N.2.1 66)] M (QcI X.N (some .boolean) r M0)) (r : Int32) (M0 : Mem) (E : En X (some .boolean) (QcI X.N (some .boolean) r M0)) (M : Mem) (h : fMd_isO_J144 g_fMd_isO g_fMd_isE g_fMd_isA g_fMd_isB g_fMd_isS g_fMd_isP M = some (r, M0)) : WA X M [(0, .ref (X.N.2.1 66))] 144 [] := by
  unfold fMd_isO_J144 at h
  refine a_iconst (pc := 144) C 0 dX11_isO_144 rfl ?_
  refine a_sub (lv2 := [(0, .ref (X.N.2.1 66))]) [0] rfl ?_
  exact ok_fMd_isO_J145 eL hkr hkb C g_fMd_isO g_fMd_isE g_fMd_isA g_fMd_isB g_fMd_isS g_fMd_isP G_fMd_isO G_fMd_isE G_fMd_isA G_fMd_isB G_fMd_isS G_fMd_isP r M0 E M 0 h
set_option maxHeartbeats 200000 in
set_option maxRecDepth 100000 in
theorem ok_fMd_isO_L11 {X : Amb} (eL : X.nL = 3) {kr kc : Nat} (hkr : Nat.ble (kr + 1) kc = true) (hkb : Nat.ble 2 kc = true) (C : Cx X RX11 cX11_isO kc) (g_fMd_isO : Mem → Option (Int32 × Mem)) (g_fMd_isE : Mem → Option (Int32 × Mem)) (g_fMd_isA : Mem → Option (Int32 × Mem)) (g_fMd_isB : Mem → Option (Int32 × Mem)) (g_fMd_isS : Mem → Option (Int32 × Mem)) (g_fMd_isP : Mem → Option (Int32 × Mem)) (G_fMd_isO : ∀ (M : Mem) {r : Int32} {M0 : Mem}, g_fMd_isO M = some (r, M0) → Ct X.l X.N yX11_isO cX11_isO 3 (some .boolean) kr [.ref (X.N.2.1 66)] M (QcI X.N (some .boolean) r M0)) (G_fMd_isE : ∀ (M : Mem) {r : Int32} {M0 : Mem}, g_fMd_isE M = some (r, M0) → Ct X.l X.N yX11_isE cX11_isE 1 (some .boolean) kr [.ref (X.N.2.1 66)] M (QcI X.N (some .boolean) r M0)) (G_fMd_isA : ∀ (M : Mem) {r : Int32} {M0 : Mem}, g_fMd_isA M = some (r, M0) → Ct X.l X.N yX11_isA cX11_isA 1 (some .boolean) kr [.ref (X.N.2.1 66)] M (QcI X.N (some .boolean) r M0)) (G_fMd_isB : ∀ (M : Mem) {r : Int32} {M0 : Mem}, g_fMd_isB M = some (r, M0) → Ct X.l X.N yX11_isB cX11_isB 2 (some .boolean) kr [.ref (X.N.2.1 66)] M (QcI X.N (some .boolean) r M0)) (G_fMd_isS : ∀ (M : Mem) {r : Int32} {M0 : Mem}, g_fMd_isS M = some (r, M0) → Ct X.l X.N yX11_isS cX11_isS 2 (some .boolean) kr [.ref (X.N.2.1 66)] M (QcI X.N (some .boolean) r M0)) (G_fMd_isP : ∀ (M : Mem) {r : Int32} {M0 : Mem}, g_fMd_isP M = some (r, M0) → Ct X.l X.N yX11_isP cX11_isP 2 (some .boolean) kr [.ref (X.N.2.1 66)] M (QcI X.N (some .boolean) r M0)) (o : Mem × Int32) (K : WA X o.1 [(0, .ref (X.N.2.1 66)), (1, .int o.2)] 57 []) : ∀ (n : Nat) (M : Mem) (x1 : Int32) (x2 : Int32), fMd_isO_L11 g_fMd_isO g_fMd_isE g_fMd_isA g_fMd_isB g_fMd_isS g_fMd_isP n M x1 x2 = some o → WA X M [(0, .ref (X.N.2.1 66)), (1, .int x1), (2, .int x2)] 11 [] := by
  intro n
  induction n with
  | zero => intro _ _ _ h; cases h
  | succ n ih =>
    intro M x1 x2 h
    replace h : fMd_isO_L11_F g_fMd_isO g_fMd_isE g_fMd_isA g_fMd_isB g_fMd_isS g_fMd_isP (fMd_isO_L11 g_fMd_isO g_fMd_isE g_fMd_isA g_fMd_isB g_fMd_isS g_fMd_isP n) M x1 x2 = some o := h
    unfold fMd_isO_L11_F at h
    refine a_iload_n (pc := 11) C dX11_isO_11 rfl 2 rfl ?_
    refine a_iconst (pc := 12) C 4 dX11_isO_12 rfl ?_
    refine a_icmp_ge (pc := 13) C 57 dX11_isO_13 rfl (fun c39 => ?_) (fun c39 => ?_)
    · replace h := iteT c39 h
      refine a_sub (lv2 := [(0, .ref (X.N.2.1 66)), (1, .int x1)]) [0, 1] rfl ?_
      cases somI h
      exact K
    · replace h := iteF c39 h
      refine a_aload_n (pc := 16) C dX11_isO_16 rfl 0 rfl ?_
      obtain ⟨v40, ev40, h⟩ := bndS h
      refine a_callVI (pc := 17) C [] (ok_fMd_isDigit X.l X.N M ev40) (ble_tr (b := 2) rfl hkb) mw_X11_isDigit wd_1310 rfl rfl rfl rfl rfl rfl rfl dX11_isO_17 (fun z41 => ?_)
      refine a_if_eq (pc := 20) C 57 dX11_isO_20 rfl (fun c42 => ?_) (fun c42 => ?_)
      · replace h := iteT c42 h
        refine a_sub (lv2 := [(0, .ref (X.N.2.1 66)), (1, .int x1)]) [0, 1] rfl ?_
        cases somI h
        exact K
      · replace h := iteF c42 h
        refine a_bipush (pc := 23) C 10 dX11_isO_23 rfl ?_
        refine a_iload_n (pc := 25) C dX11_isO_25 rfl 1 rfl ?_
        refine a_imul (pc := 26) C dX11_isO_26 ?_
        refine a_aload_n (pc := 27) C dX11_isO_27 rfl 0 rfl ?_
        refine gf_11_7 (pc := 28) C wd_1084 dX11_isO_28 ?_
        refine a_aload_n (pc := 31) C dX11_isO_31 rfl 0 rfl ?_
        refine gf_11_14 (pc := 32) C wd_1091 dX11_isO_32 ?_
        obtain ⟨v43, ev43, h⟩ := bndS h
        refine a_iald (pc := 35) C rfl ev43 dX11_isO_35 ?_
        refine a_iadd (pc := 36) C dX11_isO_36 ?_
        refine a_bipush (pc := 37) C 48 dX11_isO_37 rfl ?_
        refine a_isub (pc := 39) C dX11_isO_39 ?_
        refine a_istore_n (pc := 40) C [(1, .int (((10 * x1) + v43) - 48)), (0, .ref (X.N.2.1 66)), (2, .int x2)] dX11_isO_40 rfl (nlt eL rfl) rfl ?_
        refine a_aload_n (pc := 41) C dX11_isO_41 rfl 1 rfl ?_
        refine a_dup (pc := 42) C dX11_isO_42 rfl ?_
        refine gf_11_14 (pc := 43) C wd_1091 dX11_isO_43 ?_
        refine a_iconst (pc := 46) C 1 dX11_isO_46 rfl ?_
        refine a_iadd (pc := 47) C dX11_isO_47 ?_
        refine pf_11_14 (pc := 48) C wd_1091 dX11_isO_48 ?_
        refine a_iinc (pc := 51) C 2 (x2 + 1) [(2, .int (x2 + 1)), (1, .int (((10 * x1) + v43) - 48)), (0, .ref (X.N.2.1 66))] dX11_isO_51 rfl rfl (nlt eL rfl) rfl ?_
        refine a_goto (pc := 54) C 11 dX11_isO_54 rfl ?_
        refine a_sub [2, 1, 0] rfl ?_
        exact ih (wI M 66 14 ((M.1 66 14) + 1)) (((10 * x1) + v43) - 48) (x2 + 1) h
set_option maxHeartbeats 200000 in
set_option maxRecDepth 100000 in
theorem ok_fMd_isO_F (l : Launch) (N : Rig) {kr kc : Nat} (hkr : Nat.ble (kr + 1) kc = true) (hkb : Nat.ble 2 kc = true) (g_fMd_isO : Mem → Option (Int32 × Mem)) (g_fMd_isE : Mem → Option (Int32 × Mem)) (g_fMd_isA : Mem → Option (Int32 × Mem)) (g_fMd_isB : Mem → Option (Int32 × Mem)) (g_fMd_isS : Mem → Option (Int32 × Mem)) (g_fMd_isP : Mem → Option (Int32 × Mem)) (G_fMd_isO : ∀ (M : Mem) {r : Int32} {M0 : Mem}, g_fMd_isO M = some (r, M0) → Ct l N yX11_isO cX11_isO 3 (some .boolean) kr [.ref (N.2.1 66)] M (QcI N (some .boolean) r M0)) (G_fMd_isE : ∀ (M : Mem) {r : Int32} {M0 : Mem}, g_fMd_isE M = some (r, M0) → Ct l N yX11_isE cX11_isE 1 (some .boolean) kr [.ref (N.2.1 66)] M (QcI N (some .boolean) r M0)) (G_fMd_isA : ∀ (M : Mem) {r : Int32} {M0 : Mem}, g_fMd_isA M = some (r, M0) → Ct l N yX11_isA cX11_isA 1 (some .boolean) kr [.ref (N.2.1 66)] M (QcI N (some .boolean) r M0)) (G_fMd_isB : ∀ (M : Mem) {r : Int32} {M0 : Mem}, g_fMd_isB M = some (r, M0) → Ct l N yX11_isB cX11_isB 2 (some .boolean) kr [.ref (N.2.1 66)] M (QcI N (some .boolean) r M0)) (G_fMd_isS : ∀ (M : Mem) {r : Int32} {M0 : Mem}, g_fMd_isS M = some (r, M0) → Ct l N yX11_isS cX11_isS 2 (some .boolean) kr [.ref (N.2.1 66)] M (QcI N (some .boolean) r M0)) (G_fMd_isP : ∀ (M : Mem) {r : Int32} {M0 : Mem}, g_fMd_isP M = some (r, M0) → Ct l N yX11_isP cX11_isP 2 (some .boolean) kr [.ref (N.2.1 66)] M (QcI N (some .boolean) r M0)) (M : Mem) (r : Int32) (M0 : Mem) (h : fMd_isO_F g_fMd_isO g_fMd_isE g_fMd_isA g_fMd_isB g_fMd_isS g_fMd_isP M = some (r, M0)) : Ct l N yX11_isO cX11_isO 3 (some .boolean) kc [.ref (N.2.1 66)] M (QcI N (some .boolean) r M0) := by
  refine ct_of (by decide) rfl ?_
  intro X el eN eL C E
  subst el
  subst eN
  unfold fMd_isO_F at h
  show WA X M [(0, .ref (X.N.2.1 66))] 0 []
  refine a_aload_n (pc := 0) C dX11_isO_0 rfl 0 rfl ?_
  obtain ⟨v1, ev1, h⟩ := bndS h
  refine a_callVI (pc := 1) C [] (ok_fMd_isDigit X.l X.N M ev1) (ble_tr (b := 2) rfl hkb) mw_X11_isDigit wd_1310 rfl rfl rfl rfl rfl rfl rfl dX11_isO_1 (fun z2 => ?_)
  refine a_if_eq (pc := 4) C 66 dX11_isO_4 rfl (fun c3 => ?_) (fun c3 => ?_)
  · replace h := iteT c3 h
    refine a_aload_n (pc := 66) C dX11_isO_66 rfl 0 rfl ?_
    obtain ⟨v4, ev4, h⟩ := bndS h
    refine a_callVI (pc := 67) C [] (ok_fMd_sign X.l X.N M ev4) (ble_tr (b := 2) rfl hkb) mw_X11_sign wd_1314 rfl rfl rfl rfl rfl rfl rfl dX11_isO_67 (fun z5 => ?_)
    refine a_callSI (pc := 70) C [.int v4] (ok_fMd_nameOf X.l X.N M v4) (ble_tr (b := 2) rfl hkb) mw_X11_nameOf wd_1322 rfl rfl rfl dX11_isO_70 (fun z6 => ?_)
    refine a_istore_n (pc := 73) C [(1, .int (fMd_nameOf v4)), (0, .ref (X.N.2.1 66))] dX11_isO_73 rfl (nlt eL rfl) rfl ?_
    refine a_iload_n (pc := 74) C dX11_isO_74 rfl 0 rfl ?_
    refine a_if_lt (pc := 75) C 94 dX11_isO_75 rfl (fun c7 => ?_) (fun c7 => ?_)
    · replace h := iteT c7 h
      refine a_aload_n (pc := 94) C dX11_isO_94 rfl 1 rfl ?_
      refine gf_11_15 (pc := 95) C wd_1092 dX11_isO_95 ?_
      refine a_bipush (pc := 98) C 6 dX11_isO_98 rfl ?_
      refine a_icmp_ne (pc := 100) C 105 dX11_isO_100 rfl (fun c8 => ?_) (fun c8 => ?_)
      · replace h := iteT c8 h
        refine a_aload_n (pc := 105) C dX11_isO_105 rfl 1 rfl ?_
        refine a_dup (pc := 106) C dX11_isO_106 rfl ?_
        refine gf_11_15 (pc := 107) C wd_1092 dX11_isO_107 ?_
        refine a_iconst (pc := 110) C 1 dX11_isO_110 rfl ?_
        refine a_iadd (pc := 111) C dX11_isO_111 ?_
        refine pf_11_15 (pc := 112) C wd_1092 dX11_isO_112 ?_
        refine a_aload_n (pc := 115) C dX11_isO_115 rfl 1 rfl ?_
        refine a_bipush (pc := 116) C 33 dX11_isO_116 rfl ?_
        obtain ⟨q9, eq9, h⟩ := bndS h
        refine a_callVI (pc := 118) C [.int 33] (ok_fMd_is X.l X.N (wI M 66 15 ((M.1 66 15) + 1)) 33 eq9) (ble_tr (b := 2) rfl hkb) mw_X11_is wd_1325 rfl rfl rfl rfl rfl rfl rfl dX11_isO_118 (fun z10 => ?_)
        refine a_if_eq (pc := 121) C 149 dX11_isO_121 rfl (fun c11 => ?_) (fun c11 => ?_)
        · replace h := iteT c11 h
          refine a_aload_n (pc := 149) C dX11_isO_149 rfl 1 rfl ?_
          refine a_bipush (pc := 150) C 45 dX11_isO_150 rfl ?_
          obtain ⟨q12, eq12, h⟩ := bndS h
          refine a_callVI (pc := 152) C [.int 45] (ok_fMd_is X.l X.N q9.2 45 eq12) (ble_tr (b := 2) rfl hkb) mw_X11_is wd_1325 rfl rfl rfl rfl rfl rfl rfl dX11_isO_152 (fun z13 => ?_)
          refine a_if_eq (pc := 155) C 183 dX11_isO_155 rfl (fun c14 => ?_) (fun c14 => ?_)
          · replace h := iteT c14 h
            refine a_aload_n (pc := 183) C dX11_isO_183 rfl 1 rfl ?_
            refine a_bipush (pc := 184) C 40 dX11_isO_184 rfl ?_
            obtain ⟨q15, eq15, h⟩ := bndS h
            refine a_callVI (pc := 186) C [.int 40] (ok_fMd_is X.l X.N q12.2 40 eq15) (ble_tr (b := 2) rfl hkb) mw_X11_is wd_1325 rfl rfl rfl rfl rfl rfl rfl dX11_isO_186 (fun z16 => ?_)
            refine a_if_eq (pc := 189) C 212 dX11_isO_189 rfl (fun c17 => ?_) (fun c17 => ?_)
            · replace h := iteT c17 h
              refine a_sub (lv2 := [(0, .ref (X.N.2.1 66))]) [1] rfl ?_
              exact ok_fMd_isO_J212 eL hkr hkb C g_fMd_isO g_fMd_isE g_fMd_isA g_fMd_isB g_fMd_isS g_fMd_isP G_fMd_isO G_fMd_isE G_fMd_isA G_fMd_isB G_fMd_isS G_fMd_isP r M0 E q15.2 h
            · replace h := iteF c17 h
              refine a_aload_n (pc := 192) C dX11_isO_192 rfl 1 rfl ?_
              obtain ⟨q19, eq19, h⟩ := bndS h
              refine a_callVI (pc := 193) C [] (G_fMd_isE q15.2 eq19) hkr mw_X11_isE wd_1286 rfl rfl rfl rfl rfl rfl rfl dX11_isO_193 (fun z20 => ?_)
              refine a_if_eq (pc := 196) C 212 dX11_isO_196 rfl (fun c21 => ?_) (fun c21 => ?_)
              · replace h := iteT c21 h
                refine a_sub (lv2 := [(0, .ref (X.N.2.1 66))]) [1] rfl ?_
                exact ok_fMd_isO_J212 eL hkr hkb C g_fMd_isO g_fMd_isE g_fMd_isA g_fMd_isB g_fMd_isS g_fMd_isP G_fMd_isO G_fMd_isE G_fMd_isA G_fMd_isB G_fMd_isS G_fMd_isP r M0 E q19.2 h
              · replace h := iteF c21 h
                refine a_aload_n (pc := 199) C dX11_isO_199 rfl 1 rfl ?_
                refine a_bipush (pc := 200) C 41 dX11_isO_200 rfl ?_
                obtain ⟨q22, eq22, h⟩ := bndS h
                refine a_callVI (pc := 202) C [.int 41] (ok_fMd_is X.l X.N q19.2 41 eq22) (ble_tr (b := 2) rfl hkb) mw_X11_is wd_1325 rfl rfl rfl rfl rfl rfl rfl dX11_isO_202 (fun z23 => ?_)
                refine a_if_eq (pc := 205) C 212 dX11_isO_205 rfl (fun c24 => ?_) (fun c24 => ?_)
                · replace h := iteT c24 h
                  refine a_sub (lv2 := [(0, .ref (X.N.2.1 66))]) [1] rfl ?_
                  exact ok_fMd_isO_J212 eL hkr hkb C g_fMd_isO g_fMd_isE g_fMd_isA g_fMd_isB g_fMd_isS g_fMd_isP G_fMd_isO G_fMd_isE G_fMd_isA G_fMd_isB G_fMd_isS G_fMd_isP r M0 E q22.2 h
                · replace h := iteF c24 h
                  refine a_iconst (pc := 208) C 1 dX11_isO_208 rfl ?_
                  refine a_goto (pc := 209) C 213 dX11_isO_209 rfl ?_
                  refine a_sub (lv2 := [(0, .ref (X.N.2.1 66))]) [1] rfl ?_
                  exact ok_fMd_isO_J213 eL hkr hkb C g_fMd_isO g_fMd_isE g_fMd_isA g_fMd_isB g_fMd_isS g_fMd_isP G_fMd_isO G_fMd_isE G_fMd_isA G_fMd_isB G_fMd_isS G_fMd_isP r M0 E q22.2 1 h
          · replace h := iteF c14 h
            refine a_aload_n (pc := 158) C dX11_isO_158 rfl 1 rfl ?_
            obtain ⟨q25, eq25, h⟩ := bndS h
            refine a_callVI (pc := 159) C [] (G_fMd_isO q12.2 eq25) hkr mw_X11_isO wd_1306 rfl rfl rfl rfl rfl rfl rfl dX11_isO_159 (fun z26 => ?_)
            refine a_if_eq (pc := 162) C 178 dX11_isO_162 rfl (fun c27 => ?_) (fun c27 => ?_)
            · replace h := iteT c27 h
              refine a_sub (lv2 := [(0, .ref (X.N.2.1 66))]) [1] rfl ?_
              exact ok_fMd_isO_J178 eL hkr hkb C g_fMd_isO g_fMd_isE g_fMd_isA g_fMd_isB g_fMd_isS g_fMd_isP G_fMd_isO G_fMd_isE G_fMd_isA G_fMd_isB G_fMd_isS G_fMd_isP r M0 E q25.2 h
            · replace h := iteF c27 h
              refine a_aload_n (pc := 165) C dX11_isO_165 rfl 1 rfl ?_
              refine a_bipush (pc := 166) C 17 dX11_isO_166 rfl ?_
              obtain ⟨q28, eq28, h⟩ := bndS h
              refine a_callVI (pc := 168) C [.int 17] (ok_fMd_codes X.l X.N q25.2 17 eq28) (ble_tr (b := 2) rfl hkb) mw_X11_codes wd_1318 rfl rfl rfl rfl rfl rfl rfl dX11_isO_168 (fun z29 => ?_)
              refine a_if_eq (pc := 171) C 178 dX11_isO_171 rfl (fun c30 => ?_) (fun c30 => ?_)
              · replace h := iteT c30 h
                refine a_sub (lv2 := [(0, .ref (X.N.2.1 66))]) [1] rfl ?_
                exact ok_fMd_isO_J178 eL hkr hkb C g_fMd_isO g_fMd_isE g_fMd_isA g_fMd_isB g_fMd_isS g_fMd_isP G_fMd_isO G_fMd_isE G_fMd_isA G_fMd_isB G_fMd_isS G_fMd_isP r M0 E q28.2 h
              · replace h := iteF c30 h
                refine a_iconst (pc := 174) C 1 dX11_isO_174 rfl ?_
                refine a_goto (pc := 175) C 179 dX11_isO_175 rfl ?_
                refine a_sub (lv2 := [(0, .ref (X.N.2.1 66))]) [1] rfl ?_
                exact ok_fMd_isO_J179 eL hkr hkb C g_fMd_isO g_fMd_isE g_fMd_isA g_fMd_isB g_fMd_isS g_fMd_isP G_fMd_isO G_fMd_isE G_fMd_isA G_fMd_isB G_fMd_isS G_fMd_isP r M0 E q28.2 1 h
        · replace h := iteF c11 h
          refine a_aload_n (pc := 124) C dX11_isO_124 rfl 1 rfl ?_
          obtain ⟨q31, eq31, h⟩ := bndS h
          refine a_callVI (pc := 125) C [] (G_fMd_isO q9.2 eq31) hkr mw_X11_isO wd_1306 rfl rfl rfl rfl rfl rfl rfl dX11_isO_125 (fun z32 => ?_)
          refine a_if_eq (pc := 128) C 144 dX11_isO_128 rfl (fun c33 => ?_) (fun c33 => ?_)
          · replace h := iteT c33 h
            refine a_sub (lv2 := [(0, .ref (X.N.2.1 66))]) [1] rfl ?_
            exact ok_fMd_isO_J144 eL hkr hkb C g_fMd_isO g_fMd_isE g_fMd_isA g_fMd_isB g_fMd_isS g_fMd_isP G_fMd_isO G_fMd_isE G_fMd_isA G_fMd_isB G_fMd_isS G_fMd_isP r M0 E q31.2 h
          · replace h := iteF c33 h
            refine a_aload_n (pc := 131) C dX11_isO_131 rfl 1 rfl ?_
            refine a_bipush (pc := 132) C 16 dX11_isO_132 rfl ?_
            obtain ⟨q34, eq34, h⟩ := bndS h
            refine a_callVI (pc := 134) C [.int 16] (ok_fMd_codes X.l X.N q31.2 16 eq34) (ble_tr (b := 2) rfl hkb) mw_X11_codes wd_1318 rfl rfl rfl rfl rfl rfl rfl dX11_isO_134 (fun z35 => ?_)
            refine a_if_eq (pc := 137) C 144 dX11_isO_137 rfl (fun c36 => ?_) (fun c36 => ?_)
            · replace h := iteT c36 h
              refine a_sub (lv2 := [(0, .ref (X.N.2.1 66))]) [1] rfl ?_
              exact ok_fMd_isO_J144 eL hkr hkb C g_fMd_isO g_fMd_isE g_fMd_isA g_fMd_isB g_fMd_isS g_fMd_isP G_fMd_isO G_fMd_isE G_fMd_isA G_fMd_isB G_fMd_isS G_fMd_isP r M0 E q34.2 h
            · replace h := iteF c36 h
              refine a_iconst (pc := 140) C 1 dX11_isO_140 rfl ?_
              refine a_goto (pc := 141) C 145 dX11_isO_141 rfl ?_
              refine a_sub (lv2 := [(0, .ref (X.N.2.1 66))]) [1] rfl ?_
              exact ok_fMd_isO_J145 eL hkr hkb C g_fMd_isO g_fMd_isE g_fMd_isA g_fMd_isB g_fMd_isS g_fMd_isP G_fMd_isO G_fMd_isE G_fMd_isA G_fMd_isB G_fMd_isS G_fMd_isP r M0 E q34.2 1 h
      · replace h := iteF c8 h
        refine a_iconst (pc := 103) C 0 dX11_isO_103 rfl ?_
        exact a_iret (pc := 104) C E rfl (som1 h) (som2 h) dX11_isO_104
    · replace h := iteF c7 h
      refine a_aload_n (pc := 78) C dX11_isO_78 rfl 1 rfl ?_
      refine a_dup (pc := 79) C dX11_isO_79 rfl ?_
      refine gf_11_14 (pc := 80) C wd_1091 dX11_isO_80 ?_
      refine a_iconst (pc := 83) C 1 dX11_isO_83 rfl ?_
      refine a_iadd (pc := 84) C dX11_isO_84 ?_
      refine pf_11_14 (pc := 85) C wd_1091 dX11_isO_85 ?_
      refine a_aload_n (pc := 88) C dX11_isO_88 rfl 1 rfl ?_
      refine a_iload_n (pc := 89) C dX11_isO_89 rfl 0 rfl ?_
      obtain ⟨q37, eq37, h⟩ := bndS h
      refine a_callVI (pc := 90) C [.int (fMd_nameOf v4)] (ok_fMd_codes X.l X.N (wI M 66 14 ((M.1 66 14) + 1)) (fMd_nameOf v4) eq37) (ble_tr (b := 2) rfl hkb) mw_X11_codes wd_1318 rfl rfl rfl rfl rfl rfl rfl dX11_isO_90 (fun z38 => ?_)
      exact a_iret (pc := 93) C E (z38 _ rfl) (som1 h) (som2 h) dX11_isO_93
  · replace h := iteF c3 h
    refine a_iconst (pc := 7) C 0 dX11_isO_7 rfl ?_
    refine a_istore_n (pc := 8) C [(1, .int 0), (0, .ref (X.N.2.1 66))] dX11_isO_8 rfl (nlt eL rfl) rfl ?_
    refine a_iconst (pc := 9) C 0 dX11_isO_9 rfl ?_
    refine a_istore_n (pc := 10) C [(2, .int 0), (1, .int 0), (0, .ref (X.N.2.1 66))] dX11_isO_10 rfl (nlt eL rfl) rfl ?_
    refine a_sub (lv2 := [(0, .ref (X.N.2.1 66)), (1, .int 0), (2, .int 0)]) [2, 1, 0] rfl ?_
    obtain ⟨o44, eo44, h⟩ := bndS h
    refine ok_fMd_isO_L11 eL hkr hkb C g_fMd_isO g_fMd_isE g_fMd_isA g_fMd_isB g_fMd_isS g_fMd_isP G_fMd_isO G_fMd_isE G_fMd_isA G_fMd_isB G_fMd_isS G_fMd_isP o44 ?_ FU M 0 0 eo44
    refine a_aload_n (pc := 57) C dX11_isO_57 rfl 0 rfl ?_
    refine a_bipush (pc := 58) C 18 dX11_isO_58 rfl ?_
    refine a_iload_n (pc := 60) C dX11_isO_60 rfl 1 rfl ?_
    refine a_iadd (pc := 61) C dX11_isO_61 ?_
    obtain ⟨q45, eq45, h⟩ := bndS h
    refine a_callVI (pc := 62) C [.int (18 + o44.2)] (ok_fMd_codes X.l X.N o44.1 (18 + o44.2) eq45) (ble_tr (b := 2) rfl hkb) mw_X11_codes wd_1318 rfl rfl rfl rfl rfl rfl rfl dX11_isO_62 (fun z46 => ?_)
    exact a_iret (pc := 65) C E (z46 _ rfl) (som1 h) (som2 h) dX11_isO_65
