set_option maxHeartbeats 200000 in
set_option maxRecDepth 100000 in
theorem ok_fTown_isSink (l : Launch) (N : Rig) (M : Mem) (x1 : Int32) {r : Int32} (h : fTown_isSink M x1 = some r) : Ct l N yX7_isSink cX7_isSink 2 (some .boolean) 0 [.ref (N.2.1 2), .int x1] M (QcI N (some .boolean) r M) := by
  refine ct_of (by decide) rfl ?_
  intro X el eN eL C E
  subst el
  subst eN
  have M0 : Mem := M
  unfold fTown_isSink at h
  show WA X M [(0, .ref (X.N.2.1 2)), (1, .int x1)] 0 []
  refine a_aload_n (pc := 0) C dX7_isSink_0 rfl 0 rfl ?_
  refine gf_7_1 (pc := 1) C wd_121 dX7_isSink_1 ?_
  refine a_iload_n (pc := 4) C dX7_isSink_4 rfl 1 rfl ?_
  obtain ⟨v1, ev1, h⟩ := bndS h
  refine a_iald (pc := 5) C rfl ev1 dX7_isSink_5 ?_
  refine a_if_ge (pc := 6) C 13 dX7_isSink_6 rfl (fun c2 => ?_) (fun c2 => ?_)
  · replace h := iteT c2 h
    refine a_iconst (pc := 13) C 0 dX7_isSink_13 rfl ?_
    exact a_iret (pc := 14) C E rfl (somI h) rfl dX7_isSink_14
  · replace h := iteF c2 h
    refine a_iconst (pc := 9) C 1 dX7_isSink_9 rfl ?_
    refine a_goto (pc := 10) C 14 dX7_isSink_10 rfl ?_
    exact a_iret (pc := 14) C E rfl (somI h) rfl dX7_isSink_14
set_option maxHeartbeats 200000 in
set_option maxRecDepth 100000 in
theorem ok_fStreet_withoutText (l : Launch) (N : Rig) (M : Mem) (x0 : Int32) (x1 : Int32) : Ct l N yX5_withoutText cX5_withoutText 2 (some .int) 1 [.int x0, .int x1] M (QcI N (some .int) (fStreet_withoutText x0 x1) M) := by
  obtain ⟨r, h⟩ : ∃ r, fStreet_withoutText x0 x1 = r := ⟨_, rfl⟩
  rw [h]
  refine ct_of (by decide) rfl ?_
  intro X el eN eL C E
  subst el
  subst eN
  unfold fStreet_withoutText at h
  show WA X M [(0, .int x0), (1, .int x1)] 0 []
  refine a_iload_n (pc := 0) C dX5_withoutText_0 rfl 1 rfl ?_
  refine a_iconst (pc := 1) C 1 dX5_withoutText_1 rfl ?_
  refine a_icmp_ne (pc := 2) C 14 dX5_withoutText_2 rfl (fun c1 => ?_) (fun c1 => ?_)
  · replace h := iteT c1 h
    refine a_iload_n (pc := 14) C dX5_withoutText_14 rfl 1 rfl ?_
    refine a_iconst (pc := 15) C 2 dX5_withoutText_15 rfl ?_
    refine a_icmp_ne (pc := 16) C 23 dX5_withoutText_16 rfl (fun c2 => ?_) (fun c2 => ?_)
    · replace h := iteT c2 h
      refine a_iload_n (pc := 23) C dX5_withoutText_23 rfl 0 rfl ?_
      refine a_iconst (pc := 24) C 2 dX5_withoutText_24 rfl ?_
      refine a_idiv (pc := 25) C dX5_withoutText_25 (by decide) ?_
      exact a_iret (pc := 26) C E rfl h rfl dX5_withoutText_26
    · replace h := iteF c2 h
      refine a_iload_n (pc := 19) C dX5_withoutText_19 rfl 0 rfl ?_
      refine a_goto (pc := 20) C 26 dX5_withoutText_20 rfl ?_
      exact a_iret (pc := 26) C E rfl h rfl dX5_withoutText_26
  · replace h := iteF c1 h
    refine a_iconst (pc := 5) C 0 dX5_withoutText_5 rfl ?_
    refine a_iload_n (pc := 6) C dX5_withoutText_6 rfl 0 rfl ?_
    refine a_bipush (pc := 7) C 20 dX5_withoutText_7 rfl ?_
    refine a_isub (pc := 9) C dX5_withoutText_9 ?_
    refine a_mmax (pc := 10) C rfl wd_630 wd_631 wd_94 wd_632 rfl dX5_withoutText_10 ?_
    exact a_iret (pc := 13) C E rfl h rfl dX5_withoutText_13
set_option maxHeartbeats 200000 in
set_option maxRecDepth 100000 in
theorem ok_fStreet_wholeLuck_L4 {X : Amb} (eL : X.nL = 3) (C : Cx X RX5 cX5_wholeLuck 0) (b0 : Nat) (hb0 : isSt b0) (M : Mem) (o : Int32) (K : WA X M [(1, .int o)] 25 []) : ∀ (n : Nat) (x1 : Int32) (x2 : Int32), fStreet_wholeLuck_L4 n M b0 x1 x2 = some o → WA X M [(0, .ref (X.N.2.1 b0)), (1, .int x1), (2, .int x2)] 4 [] := by
  intro n
  induction n with
  | zero => intro _ _ h; cases h
  | succ n ih =>
    intro x1 x2 h
    replace h : fStreet_wholeLuck_L4_F (fStreet_wholeLuck_L4 n) M b0 x1 x2 = some o := h
    unfold fStreet_wholeLuck_L4_F at h
    refine a_iload_n (pc := 4) C dX5_wholeLuck_4 rfl 2 rfl ?_
    refine a_bipush (pc := 5) C 36 dX5_wholeLuck_5 rfl ?_
    refine a_icmp_ge (pc := 7) C 25 dX5_wholeLuck_7 rfl (fun c1 => ?_) (fun c1 => ?_)
    · replace h := iteT c1 h
      refine a_sub (lv2 := [(1, .int x1)]) [1] rfl ?_
      cases somI h
      exact K
    · replace h := iteF c1 h
      refine a_iload_n (pc := 10) C dX5_wholeLuck_10 rfl 1 rfl ?_
      refine a_aload_n (pc := 11) C dX5_wholeLuck_11 rfl 0 rfl ?_
      refine gf_5_0 (pc := 12) C hb0 wd_153 dX5_wholeLuck_12 ?_
      refine a_iload_n (pc := 15) C dX5_wholeLuck_15 rfl 2 rfl ?_
      obtain ⟨v2, ev2, h⟩ := bndS h
      refine a_iald (pc := 16) C (st_a1 hb0) ev2 dX5_wholeLuck_16 ?_
      refine a_iadd (pc := 17) C dX5_wholeLuck_17 ?_
      refine a_istore_n (pc := 18) C [(1, .int (x1 + v2)), (0, .ref (X.N.2.1 b0)), (2, .int x2)] dX5_wholeLuck_18 rfl (nlt eL rfl) rfl ?_
      refine a_iinc (pc := 19) C 2 (x2 + 1) [(2, .int (x2 + 1)), (1, .int (x1 + v2)), (0, .ref (X.N.2.1 b0))] dX5_wholeLuck_19 rfl rfl (nlt eL rfl) rfl ?_
      refine a_goto (pc := 22) C 4 dX5_wholeLuck_22 rfl ?_
      refine a_sub [2, 1, 0] rfl ?_
      exact ih (x1 + v2) (x2 + 1) h
set_option maxHeartbeats 200000 in
set_option maxRecDepth 100000 in
theorem ok_fStreet_wholeLuck (l : Launch) (N : Rig) (M : Mem) (b0 : Nat) (hb0 : isSt b0) {r : Int32} (h : fStreet_wholeLuck M b0 = some r) : Ct l N yX5_wholeLuck cX5_wholeLuck 3 (some .int) 0 [.ref (N.2.1 b0)] M (QcI N (some .int) r M) := by
  refine ct_of (by decide) rfl ?_
  intro X el eN eL C E
  subst el
  subst eN
  have M0 : Mem := M
  unfold fStreet_wholeLuck at h
  show WA X M [(0, .ref (X.N.2.1 b0))] 0 []
  refine a_iconst (pc := 0) C 0 dX5_wholeLuck_0 rfl ?_
  refine a_istore_n (pc := 1) C [(1, .int 0), (0, .ref (X.N.2.1 b0))] dX5_wholeLuck_1 rfl (nlt eL rfl) rfl ?_
  refine a_iconst (pc := 2) C 0 dX5_wholeLuck_2 rfl ?_
  refine a_istore_n (pc := 3) C [(2, .int 0), (1, .int 0), (0, .ref (X.N.2.1 b0))] dX5_wholeLuck_3 rfl (nlt eL rfl) rfl ?_
  refine a_sub (lv2 := [(0, .ref (X.N.2.1 b0)), (1, .int 0), (2, .int 0)]) [2, 1, 0] rfl ?_
  obtain ⟨o3, eo3, h⟩ := bndS h
  refine ok_fStreet_wholeLuck_L4 eL C b0 hb0 M o3 ?_ FU 0 0 eo3
  refine a_iload_n (pc := 25) C dX5_wholeLuck_25 rfl 0 rfl ?_
  exact a_iret (pc := 26) C E rfl (somI h) rfl dX5_wholeLuck_26
set_option maxHeartbeats 200000 in
set_option maxRecDepth 100000 in
theorem ok_fTown_beside (l : Launch) (N : Rig) (M : Mem) (x0 : Int32) (x1 : Int32) : Ct l N yX7_beside cX7_beside 2 (some .int) 0 [.int x0, .int x1] M (QcI N (some .int) (fTown_beside x0 x1) M) := by
  obtain ⟨r, h⟩ : ∃ r, fTown_beside x0 x1 = r := ⟨_, rfl⟩
  rw [h]
  refine ct_of (by decide) rfl ?_
  intro X el eN eL C E
  subst el
  subst eN
  unfold fTown_beside at h
  show WA X M [(0, .int x0), (1, .int x1)] 0 []
  refine a_iload_n (pc := 0) C dX7_beside_0 rfl 1 rfl ?_
  by_cases c1 : x1 = 0
  · replace h := iteT c1 h
    refine a_tsw_in (pc := 1) C 0 28 dX7_beside_1 c1 (by decide) (by decide) rfl rfl ?_
    refine a_iload_n (pc := 28) C dX7_beside_28 rfl 0 rfl ?_
    refine a_bipush (pc := 29) C 6 dX7_beside_29 rfl ?_
    refine a_icmp_lt (pc := 31) C 41 dX7_beside_31 rfl (fun c2 => ?_) (fun c2 => ?_)
    · replace h := iteT c2 h
      refine a_iconst (pc := 41) C (-1) dX7_beside_41 rfl ?_
      exact a_iret (pc := 42) C E rfl h rfl dX7_beside_42
    · replace h := iteF c2 h
      refine a_iload_n (pc := 34) C dX7_beside_34 rfl 0 rfl ?_
      refine a_bipush (pc := 35) C 6 dX7_beside_35 rfl ?_
      refine a_isub (pc := 37) C dX7_beside_37 ?_
      refine a_goto (pc := 38) C 42 dX7_beside_38 rfl ?_
      exact a_iret (pc := 42) C E rfl h rfl dX7_beside_42
  replace h := iteF c1 h
  by_cases c3 : x1 = 1
  · replace h := iteT c3 h
    refine a_tsw_in (pc := 1) C 1 43 dX7_beside_1 c3 (by decide) (by decide) rfl rfl ?_
    refine a_iload_n (pc := 43) C dX7_beside_43 rfl 0 rfl ?_
    refine a_bipush (pc := 44) C 6 dX7_beside_44 rfl ?_
    refine a_irem (pc := 46) C dX7_beside_46 (by decide) ?_
    refine a_iconst (pc := 47) C 5 dX7_beside_47 rfl ?_
    refine a_icmp_ge (pc := 48) C 57 dX7_beside_48 rfl (fun c4 => ?_) (fun c4 => ?_)
    · replace h := iteT c4 h
      refine a_iconst (pc := 57) C (-1) dX7_beside_57 rfl ?_
      exact a_iret (pc := 58) C E rfl h rfl dX7_beside_58
    · replace h := iteF c4 h
      refine a_iload_n (pc := 51) C dX7_beside_51 rfl 0 rfl ?_
      refine a_iconst (pc := 52) C 1 dX7_beside_52 rfl ?_
      refine a_iadd (pc := 53) C dX7_beside_53 ?_
      refine a_goto (pc := 54) C 58 dX7_beside_54 rfl ?_
      exact a_iret (pc := 58) C E rfl h rfl dX7_beside_58
  replace h := iteF c3 h
  by_cases c5 : x1 = 2
  · replace h := iteT c5 h
    refine a_tsw_in (pc := 1) C 2 59 dX7_beside_1 c5 (by decide) (by decide) rfl rfl ?_
    refine a_iload_n (pc := 59) C dX7_beside_59 rfl 0 rfl ?_
    refine a_bipush (pc := 60) C 30 dX7_beside_60 rfl ?_
    refine a_icmp_ge (pc := 62) C 72 dX7_beside_62 rfl (fun c6 => ?_) (fun c6 => ?_)
    · replace h := iteT c6 h
      refine a_iconst (pc := 72) C (-1) dX7_beside_72 rfl ?_
      exact a_iret (pc := 73) C E rfl h rfl dX7_beside_73
    · replace h := iteF c6 h
      refine a_iload_n (pc := 65) C dX7_beside_65 rfl 0 rfl ?_
      refine a_bipush (pc := 66) C 6 dX7_beside_66 rfl ?_
      refine a_iadd (pc := 68) C dX7_beside_68 ?_
      refine a_goto (pc := 69) C 73 dX7_beside_69 rfl ?_
      exact a_iret (pc := 73) C E rfl h rfl dX7_beside_73
  replace h := iteF c5 h
  refine a_tsw_out (pc := 1) C 74 dX7_beside_1 (by have := neI 0 rfl c1; have := neI 1 rfl c3; have := neI 2 rfl c5; omega) rfl ?_
  refine a_iload_n (pc := 74) C dX7_beside_74 rfl 0 rfl ?_
  refine a_bipush (pc := 75) C 6 dX7_beside_75 rfl ?_
  refine a_irem (pc := 77) C dX7_beside_77 (by decide) ?_
  refine a_if_le (pc := 78) C 87 dX7_beside_78 rfl (fun c7 => ?_) (fun c7 => ?_)
  · replace h := iteT c7 h
    refine a_iconst (pc := 87) C (-1) dX7_beside_87 rfl ?_
    exact a_iret (pc := 88) C E rfl h rfl dX7_beside_88
  · replace h := iteF c7 h
    refine a_iload_n (pc := 81) C dX7_beside_81 rfl 0 rfl ?_
    refine a_iconst (pc := 82) C 1 dX7_beside_82 rfl ?_
    refine a_isub (pc := 83) C dX7_beside_83 ?_
    refine a_goto (pc := 84) C 88 dX7_beside_84 rfl ?_
    exact a_iret (pc := 88) C E rfl h rfl dX7_beside_88
set_option maxHeartbeats 200000 in
set_option maxRecDepth 100000 in
theorem ok_fTown_lowestFrom_L4 {X : Amb} (eL : X.nL = 4) (C : Cx X RX7 cX7_lowestFrom 1) (M : Mem) (o : Int32) (K : WA X M [(2, .int o)] 31 []) : ∀ (n : Nat) (x2 : Int32) (x3 : Int32), fTown_lowestFrom_L4 n M x2 x3 = some o → WA X M [(0, .ref (X.N.2.1 2)), (2, .int x2), (3, .int x3)] 4 [] := by
  intro n
  induction n with
  | zero => intro _ _ h; cases h
  | succ n ih =>
    intro x2 x3 h
    replace h : fTown_lowestFrom_L4_F (fTown_lowestFrom_L4 n) M x2 x3 = some o := h
    unfold fTown_lowestFrom_L4_F at h
    refine a_iload_n (pc := 4) C dX7_lowestFrom_4 rfl 2 rfl ?_
    refine a_bipush (pc := 5) C 36 dX7_lowestFrom_5 rfl ?_
    refine a_icmp_ge (pc := 7) C 31 dX7_lowestFrom_7 rfl (fun c1 => ?_) (fun c1 => ?_)
    · replace h := iteT c1 h
      refine a_sub (lv2 := [(2, .int x2)]) [1] rfl ?_
      cases somI h
      exact K
    · replace h := iteF c1 h
      refine a_aload_n (pc := 10) C dX7_lowestFrom_10 rfl 0 rfl ?_
      refine a_iload_n (pc := 11) C dX7_lowestFrom_11 rfl 1 rfl ?_
      obtain ⟨v2, ev2, h⟩ := bndS h
      refine a_callVI (pc := 12) C [.int x2] (ok_fTown_isSink X.l X.N M x2 ev2) rfl mw_X7_isSink wd_728 rfl rfl rfl rfl rfl rfl rfl dX7_lowestFrom_12 (fun z3 => ?_)
      refine a_if_ne (pc := 15) C 31 dX7_lowestFrom_15 rfl (fun c4 => ?_) (fun c4 => ?_)
      · replace h := iteT c4 h
        refine a_sub (lv2 := [(2, .int x2)]) [1] rfl ?_
        cases somI h
        exact K
      · replace h := iteF c4 h
        refine a_aload_n (pc := 18) C dX7_lowestFrom_18 rfl 0 rfl ?_
        refine gf_7_1 (pc := 19) C wd_121 dX7_lowestFrom_19 ?_
        refine a_iload_n (pc := 22) C dX7_lowestFrom_22 rfl 1 rfl ?_
        obtain ⟨v5, ev5, h⟩ := bndS h
        refine a_iald (pc := 23) C rfl ev5 dX7_lowestFrom_23 ?_
        refine a_istore_n (pc := 24) C [(2, .int v5), (0, .ref (X.N.2.1 2)), (3, .int x3)] dX7_lowestFrom_24 rfl (nlt eL rfl) rfl ?_
        refine a_iinc (pc := 25) C 2 (x3 + 1) [(3, .int (x3 + 1)), (2, .int v5), (0, .ref (X.N.2.1 2))] dX7_lowestFrom_25 rfl rfl (nlt eL rfl) rfl ?_
        refine a_goto (pc := 28) C 4 dX7_lowestFrom_28 rfl ?_
        refine a_sub [2, 1, 0] rfl ?_
        exact ih v5 (x3 + 1) h
set_option maxHeartbeats 200000 in
set_option maxRecDepth 100000 in
theorem ok_fTown_lowestFrom (l : Launch) (N : Rig) (M : Mem) (x1 : Int32) {r : Int32} (h : fTown_lowestFrom M x1 = some r) : Ct l N yX7_lowestFrom cX7_lowestFrom 4 (some .int) 1 [.ref (N.2.1 2), .int x1] M (QcI N (some .int) r M) := by
  refine ct_of (by decide) rfl ?_
  intro X el eN eL C E
  subst el
  subst eN
  have M0 : Mem := M
  unfold fTown_lowestFrom at h
  show WA X M [(0, .ref (X.N.2.1 2)), (1, .int x1)] 0 []
  refine a_iload_n (pc := 0) C dX7_lowestFrom_0 rfl 1 rfl ?_
  refine a_istore_n (pc := 1) C [(2, .int x1), (0, .ref (X.N.2.1 2)), (1, .int x1)] dX7_lowestFrom_1 rfl (nlt eL rfl) rfl ?_
  refine a_iconst (pc := 2) C 0 dX7_lowestFrom_2 rfl ?_
  refine a_istore_n (pc := 3) C [(3, .int 0), (2, .int x1), (0, .ref (X.N.2.1 2)), (1, .int x1)] dX7_lowestFrom_3 rfl (nlt eL rfl) rfl ?_
  refine a_sub (lv2 := [(0, .ref (X.N.2.1 2)), (2, .int x1), (3, .int 0)]) [2, 1, 0] rfl ?_
  obtain ⟨o6, eo6, h⟩ := bndS h
  refine ok_fTown_lowestFrom_L4 eL C M o6 ?_ FU x1 0 eo6
  refine a_iload_n (pc := 31) C dX7_lowestFrom_31 rfl 0 rfl ?_
  exact a_iret (pc := 32) C E rfl (somI h) rfl dX7_lowestFrom_32
