set_option maxHeartbeats 200000 in
set_option maxRecDepth 100000 in
theorem ok_fMd_isE_L9 {X : Amb} (eL : X.nL = 1) {kr kc : Nat} (hkr : Nat.ble (kr + 1) kc = true) (hkb : Nat.ble 2 kc = true) (C : Cx X RX11 cX11_isE kc) (g_fMd_isO : Mem → Option (Int32 × Mem)) (g_fMd_isE : Mem → Option (Int32 × Mem)) (g_fMd_isA : Mem → Option (Int32 × Mem)) (g_fMd_isB : Mem → Option (Int32 × Mem)) (g_fMd_isS : Mem → Option (Int32 × Mem)) (g_fMd_isP : Mem → Option (Int32 × Mem)) (G_fMd_isO : ∀ (M : Mem) {r : Int32} {M0 : Mem}, g_fMd_isO M = some (r, M0) → Ct X.l X.N yX11_isO cX11_isO 3 (some .boolean) kr [.ref (X.N.2.1 66)] M (QcI X.N (some .boolean) r M0)) (G_fMd_isE : ∀ (M : Mem) {r : Int32} {M0 : Mem}, g_fMd_isE M = some (r, M0) → Ct X.l X.N yX11_isE cX11_isE 1 (some .boolean) kr [.ref (X.N.2.1 66)] M (QcI X.N (some .boolean) r M0)) (G_fMd_isA : ∀ (M : Mem) {r : Int32} {M0 : Mem}, g_fMd_isA M = some (r, M0) → Ct X.l X.N yX11_isA cX11_isA 1 (some .boolean) kr [.ref (X.N.2.1 66)] M (QcI X.N (some .boolean) r M0)) (G_fMd_isB : ∀ (M : Mem) {r : Int32} {M0 : Mem}, g_fMd_isB M = some (r, M0) → Ct X.l X.N yX11_isB cX11_isB 2 (some .boolean) kr [.ref (X.N.2.1 66)] M (QcI X.N (some .boolean) r M0)) (G_fMd_isS : ∀ (M : Mem) {r : Int32} {M0 : Mem}, g_fMd_isS M = some (r, M0) → Ct X.l X.N yX11_isS cX11_isS 2 (some .boolean) kr [.ref (X.N.2.1 66)] M (QcI X.N (some .boolean) r M0)) (G_fMd_isP : ∀ (M : Mem) {r : Int32} {M0 : Mem}, g_fMd_isP M = some (r, M0) → Ct X.l X.N yX11_isP cX11_isP 2 (some .boolean) kr [.ref (X.N.2.1 66)] M (QcI X.N (some .boolean) r M0)) (r : Int32) (M0 : Mem) (E : En X (some .boolean) (QcI X.N (some .boolean) r M0)) : ∀ (n : Nat) (M : Mem), fMd_isE_L9 g_fMd_isO g_fMd_isE g_fMd_isA g_fMd_isB g_fMd_isS g_fMd_isP n M = some (r, M0) → WA X M [(0, .ref (X.N.2.1 66))] 9 [] := by
  intro n
  induction n with
  | zero => intro _ h; cases h
  | succ n ih =>
    intro M h
    replace h : fMd_isE_L9_F g_fMd_isO g_fMd_isE g_fMd_isA g_fMd_isB g_fMd_isS g_fMd_isP (fMd_isE_L9 g_fMd_isO g_fMd_isE g_fMd_isA g_fMd_isB g_fMd_isS g_fMd_isP n) M = some (r, M0) := h
    unfold fMd_isE_L9_F at h
    refine a_aload_n (pc := 9) C dX11_isE_9 rfl 0 rfl ?_
    refine a_bipush (pc := 10) C 124 dX11_isE_10 rfl ?_
    obtain ⟨q4, eq4, h⟩ := bndS h
    refine a_callVI (pc := 12) C [.int 124] (ok_fMd_is X.l X.N M 124 eq4) (ble_tr (b := 2) rfl hkb) mw_X11_is wd_1325 rfl rfl rfl rfl rfl rfl rfl dX11_isE_12 (fun z5 => ?_)
    refine a_if_eq (pc := 15) C 37 dX11_isE_15 rfl (fun c6 => ?_) (fun c6 => ?_)
    · replace h := iteT c6 h
      refine a_iconst (pc := 37) C 1 dX11_isE_37 rfl ?_
      exact a_iret (pc := 38) C E rfl (som1 h) (som2 h) dX11_isE_38
    · replace h := iteF c6 h
      refine a_aload_n (pc := 18) C dX11_isE_18 rfl 0 rfl ?_
      obtain ⟨q7, eq7, h⟩ := bndS h
      refine a_callVI (pc := 19) C [] (G_fMd_isA q4.2 eq7) hkr mw_X11_isA wd_1290 rfl rfl rfl rfl rfl rfl rfl dX11_isE_19 (fun z8 => ?_)
      refine a_if_ne (pc := 22) C 27 dX11_isE_22 rfl (fun c9 => ?_) (fun c9 => ?_)
      · replace h := iteT c9 h
        refine a_aload_n (pc := 27) C dX11_isE_27 rfl 0 rfl ?_
        refine a_bipush (pc := 28) C 6 dX11_isE_28 rfl ?_
        obtain ⟨q10, eq10, h⟩ := bndS h
        refine a_callVI (pc := 30) C [.int 6] (ok_fMd_codes X.l X.N q7.2 6 eq10) (ble_tr (b := 2) rfl hkb) mw_X11_codes wd_1318 rfl rfl rfl rfl rfl rfl rfl dX11_isE_30 (fun z11 => ?_)
        refine a_pop (pc := 33) C dX11_isE_33 rfl ?_
        refine a_goto (pc := 34) C 9 dX11_isE_34 rfl ?_
        refine a_sub [0] rfl ?_
        exact ih q10.2 h
      · replace h := iteF c9 h
        refine a_iconst (pc := 25) C 0 dX11_isE_25 rfl ?_
        exact a_iret (pc := 26) C E rfl (som1 h) (som2 h) dX11_isE_26
set_option maxHeartbeats 200000 in
set_option maxRecDepth 100000 in
theorem ok_fMd_isE_F (l : Launch) (N : Rig) {kr kc : Nat} (hkr : Nat.ble (kr + 1) kc = true) (hkb : Nat.ble 2 kc = true) (g_fMd_isO : Mem → Option (Int32 × Mem)) (g_fMd_isE : Mem → Option (Int32 × Mem)) (g_fMd_isA : Mem → Option (Int32 × Mem)) (g_fMd_isB : Mem → Option (Int32 × Mem)) (g_fMd_isS : Mem → Option (Int32 × Mem)) (g_fMd_isP : Mem → Option (Int32 × Mem)) (G_fMd_isO : ∀ (M : Mem) {r : Int32} {M0 : Mem}, g_fMd_isO M = some (r, M0) → Ct l N yX11_isO cX11_isO 3 (some .boolean) kr [.ref (N.2.1 66)] M (QcI N (some .boolean) r M0)) (G_fMd_isE : ∀ (M : Mem) {r : Int32} {M0 : Mem}, g_fMd_isE M = some (r, M0) → Ct l N yX11_isE cX11_isE 1 (some .boolean) kr [.ref (N.2.1 66)] M (QcI N (some .boolean) r M0)) (G_fMd_isA : ∀ (M : Mem) {r : Int32} {M0 : Mem}, g_fMd_isA M = some (r, M0) → Ct l N yX11_isA cX11_isA 1 (some .boolean) kr [.ref (N.2.1 66)] M (QcI N (some .boolean) r M0)) (G_fMd_isB : ∀ (M : Mem) {r : Int32} {M0 : Mem}, g_fMd_isB M = some (r, M0) → Ct l N yX11_isB cX11_isB 2 (some .boolean) kr [.ref (N.2.1 66)] M (QcI N (some .boolean) r M0)) (G_fMd_isS : ∀ (M : Mem) {r : Int32} {M0 : Mem}, g_fMd_isS M = some (r, M0) → Ct l N yX11_isS cX11_isS 2 (some .boolean) kr [.ref (N.2.1 66)] M (QcI N (some .boolean) r M0)) (G_fMd_isP : ∀ (M : Mem) {r : Int32} {M0 : Mem}, g_fMd_isP M = some (r, M0) → Ct l N yX11_isP cX11_isP 2 (some .boolean) kr [.ref (N.2.1 66)] M (QcI N (some .boolean) r M0)) (M : Mem) (r : Int32) (M0 : Mem) (h : fMd_isE_F g_fMd_isO g_fMd_isE g_fMd_isA g_fMd_isB g_fMd_isS g_fMd_isP M = some (r, M0)) : Ct l N yX11_isE cX11_isE 1 (some .boolean) kc [.ref (N.2.1 66)] M (QcI N (some .boolean) r M0) := by
  refine ct_of (by decide) rfl ?_
  intro X el eN eL C E
  subst el
  subst eN
  unfold fMd_isE_F at h
  show WA X M [(0, .ref (X.N.2.1 66))] 0 []
  refine a_aload_n (pc := 0) C dX11_isE_0 rfl 0 rfl ?_
  obtain ⟨q1, eq1, h⟩ := bndS h
  refine a_callVI (pc := 1) C [] (G_fMd_isA M eq1) hkr mw_X11_isA wd_1290 rfl rfl rfl rfl rfl rfl rfl dX11_isE_1 (fun z2 => ?_)
  refine a_if_ne (pc := 4) C 9 dX11_isE_4 rfl (fun c3 => ?_) (fun c3 => ?_)
  · replace h := iteT c3 h
    refine a_sub (lv2 := [(0, .ref (X.N.2.1 66))]) [0] rfl ?_
    exact ok_fMd_isE_L9 eL hkr hkb C g_fMd_isO g_fMd_isE g_fMd_isA g_fMd_isB g_fMd_isS g_fMd_isP G_fMd_isO G_fMd_isE G_fMd_isA G_fMd_isB G_fMd_isS G_fMd_isP r M0 E FU q1.2 h
  · replace h := iteF c3 h
    refine a_iconst (pc := 7) C 0 dX11_isE_7 rfl ?_
    exact a_iret (pc := 8) C E rfl (som1 h) (som2 h) dX11_isE_8
set_option maxHeartbeats 200000 in
set_option maxRecDepth 100000 in
theorem ok_fMd_isA_L9 {X : Amb} (eL : X.nL = 1) {kr kc : Nat} (hkr : Nat.ble (kr + 1) kc = true) (hkb : Nat.ble 2 kc = true) (C : Cx X RX11 cX11_isA kc) (g_fMd_isO : Mem → Option (Int32 × Mem)) (g_fMd_isE : Mem → Option (Int32 × Mem)) (g_fMd_isA : Mem → Option (Int32 × Mem)) (g_fMd_isB : Mem → Option (Int32 × Mem)) (g_fMd_isS : Mem → Option (Int32 × Mem)) (g_fMd_isP : Mem → Option (Int32 × Mem)) (G_fMd_isO : ∀ (M : Mem) {r : Int32} {M0 : Mem}, g_fMd_isO M = some (r, M0) → Ct X.l X.N yX11_isO cX11_isO 3 (some .boolean) kr [.ref (X.N.2.1 66)] M (QcI X.N (some .boolean) r M0)) (G_fMd_isE : ∀ (M : Mem) {r : Int32} {M0 : Mem}, g_fMd_isE M = some (r, M0) → Ct X.l X.N yX11_isE cX11_isE 1 (some .boolean) kr [.ref (X.N.2.1 66)] M (QcI X.N (some .boolean) r M0)) (G_fMd_isA : ∀ (M : Mem) {r : Int32} {M0 : Mem}, g_fMd_isA M = some (r, M0) → Ct X.l X.N yX11_isA cX11_isA 1 (some .boolean) kr [.ref (X.N.2.1 66)] M (QcI X.N (some .boolean) r M0)) (G_fMd_isB : ∀ (M : Mem) {r : Int32} {M0 : Mem}, g_fMd_isB M = some (r, M0) → Ct X.l X.N yX11_isB cX11_isB 2 (some .boolean) kr [.ref (X.N.2.1 66)] M (QcI X.N (some .boolean) r M0)) (G_fMd_isS : ∀ (M : Mem) {r : Int32} {M0 : Mem}, g_fMd_isS M = some (r, M0) → Ct X.l X.N yX11_isS cX11_isS 2 (some .boolean) kr [.ref (X.N.2.1 66)] M (QcI X.N (some .boolean) r M0)) (G_fMd_isP : ∀ (M : Mem) {r : Int32} {M0 : Mem}, g_fMd_isP M = some (r, M0) → Ct X.l X.N yX11_isP cX11_isP 2 (some .boolean) kr [.ref (X.N.2.1 66)] M (QcI X.N (some .boolean) r M0)) (r : Int32) (M0 : Mem) (E : En X (some .boolean) (QcI X.N (some .boolean) r M0)) : ∀ (n : Nat) (M : Mem), fMd_isA_L9 g_fMd_isO g_fMd_isE g_fMd_isA g_fMd_isB g_fMd_isS g_fMd_isP n M = some (r, M0) → WA X M [(0, .ref (X.N.2.1 66))] 9 [] := by
  intro n
  induction n with
  | zero => intro _ h; cases h
  | succ n ih =>
    intro M h
    replace h : fMd_isA_L9_F g_fMd_isO g_fMd_isE g_fMd_isA g_fMd_isB g_fMd_isS g_fMd_isP (fMd_isA_L9 g_fMd_isO g_fMd_isE g_fMd_isA g_fMd_isB g_fMd_isS g_fMd_isP n) M = some (r, M0) := h
    unfold fMd_isA_L9_F at h
    refine a_aload_n (pc := 9) C dX11_isA_9 rfl 0 rfl ?_
    refine a_bipush (pc := 10) C 38 dX11_isA_10 rfl ?_
    obtain ⟨q4, eq4, h⟩ := bndS h
    refine a_callVI (pc := 12) C [.int 38] (ok_fMd_is X.l X.N M 38 eq4) (ble_tr (b := 2) rfl hkb) mw_X11_is wd_1325 rfl rfl rfl rfl rfl rfl rfl dX11_isA_12 (fun z5 => ?_)
    refine a_if_eq (pc := 15) C 37 dX11_isA_15 rfl (fun c6 => ?_) (fun c6 => ?_)
    · replace h := iteT c6 h
      refine a_iconst (pc := 37) C 1 dX11_isA_37 rfl ?_
      exact a_iret (pc := 38) C E rfl (som1 h) (som2 h) dX11_isA_38
    · replace h := iteF c6 h
      refine a_aload_n (pc := 18) C dX11_isA_18 rfl 0 rfl ?_
      obtain ⟨q7, eq7, h⟩ := bndS h
      refine a_callVI (pc := 19) C [] (G_fMd_isB q4.2 eq7) hkr mw_X11_isB wd_1294 rfl rfl rfl rfl rfl rfl rfl dX11_isA_19 (fun z8 => ?_)
      refine a_if_ne (pc := 22) C 27 dX11_isA_22 rfl (fun c9 => ?_) (fun c9 => ?_)
      · replace h := iteT c9 h
        refine a_aload_n (pc := 27) C dX11_isA_27 rfl 0 rfl ?_
        refine a_bipush (pc := 28) C 7 dX11_isA_28 rfl ?_
        obtain ⟨q10, eq10, h⟩ := bndS h
        refine a_callVI (pc := 30) C [.int 7] (ok_fMd_codes X.l X.N q7.2 7 eq10) (ble_tr (b := 2) rfl hkb) mw_X11_codes wd_1318 rfl rfl rfl rfl rfl rfl rfl dX11_isA_30 (fun z11 => ?_)
        refine a_pop (pc := 33) C dX11_isA_33 rfl ?_
        refine a_goto (pc := 34) C 9 dX11_isA_34 rfl ?_
        refine a_sub [0] rfl ?_
        exact ih q10.2 h
      · replace h := iteF c9 h
        refine a_iconst (pc := 25) C 0 dX11_isA_25 rfl ?_
        exact a_iret (pc := 26) C E rfl (som1 h) (som2 h) dX11_isA_26
set_option maxHeartbeats 200000 in
set_option maxRecDepth 100000 in
theorem ok_fMd_isA_F (l : Launch) (N : Rig) {kr kc : Nat} (hkr : Nat.ble (kr + 1) kc = true) (hkb : Nat.ble 2 kc = true) (g_fMd_isO : Mem → Option (Int32 × Mem)) (g_fMd_isE : Mem → Option (Int32 × Mem)) (g_fMd_isA : Mem → Option (Int32 × Mem)) (g_fMd_isB : Mem → Option (Int32 × Mem)) (g_fMd_isS : Mem → Option (Int32 × Mem)) (g_fMd_isP : Mem → Option (Int32 × Mem)) (G_fMd_isO : ∀ (M : Mem) {r : Int32} {M0 : Mem}, g_fMd_isO M = some (r, M0) → Ct l N yX11_isO cX11_isO 3 (some .boolean) kr [.ref (N.2.1 66)] M (QcI N (some .boolean) r M0)) (G_fMd_isE : ∀ (M : Mem) {r : Int32} {M0 : Mem}, g_fMd_isE M = some (r, M0) → Ct l N yX11_isE cX11_isE 1 (some .boolean) kr [.ref (N.2.1 66)] M (QcI N (some .boolean) r M0)) (G_fMd_isA : ∀ (M : Mem) {r : Int32} {M0 : Mem}, g_fMd_isA M = some (r, M0) → Ct l N yX11_isA cX11_isA 1 (some .boolean) kr [.ref (N.2.1 66)] M (QcI N (some .boolean) r M0)) (G_fMd_isB : ∀ (M : Mem) {r : Int32} {M0 : Mem}, g_fMd_isB M = some (r, M0) → Ct l N yX11_isB cX11_isB 2 (some .boolean) kr [.ref (N.2.1 66)] M (QcI N (some .boolean) r M0)) (G_fMd_isS : ∀ (M : Mem) {r : Int32} {M0 : Mem}, g_fMd_isS M = some (r, M0) → Ct l N yX11_isS cX11_isS 2 (some .boolean) kr [.ref (N.2.1 66)] M (QcI N (some .boolean) r M0)) (G_fMd_isP : ∀ (M : Mem) {r : Int32} {M0 : Mem}, g_fMd_isP M = some (r, M0) → Ct l N yX11_isP cX11_isP 2 (some .boolean) kr [.ref (N.2.1 66)] M (QcI N (some .boolean) r M0)) (M : Mem) (r : Int32) (M0 : Mem) (h : fMd_isA_F g_fMd_isO g_fMd_isE g_fMd_isA g_fMd_isB g_fMd_isS g_fMd_isP M = some (r, M0)) : Ct l N yX11_isA cX11_isA 1 (some .boolean) kc [.ref (N.2.1 66)] M (QcI N (some .boolean) r M0) := by
  refine ct_of (by decide) rfl ?_
  intro X el eN eL C E
  subst el
  subst eN
  unfold fMd_isA_F at h
  show WA X M [(0, .ref (X.N.2.1 66))] 0 []
  refine a_aload_n (pc := 0) C dX11_isA_0 rfl 0 rfl ?_
  obtain ⟨q1, eq1, h⟩ := bndS h
  refine a_callVI (pc := 1) C [] (G_fMd_isB M eq1) hkr mw_X11_isB wd_1294 rfl rfl rfl rfl rfl rfl rfl dX11_isA_1 (fun z2 => ?_)
  refine a_if_ne (pc := 4) C 9 dX11_isA_4 rfl (fun c3 => ?_) (fun c3 => ?_)
  · replace h := iteT c3 h
    refine a_sub (lv2 := [(0, .ref (X.N.2.1 66))]) [0] rfl ?_
    exact ok_fMd_isA_L9 eL hkr hkb C g_fMd_isO g_fMd_isE g_fMd_isA g_fMd_isB g_fMd_isS g_fMd_isP G_fMd_isO G_fMd_isE G_fMd_isA G_fMd_isB G_fMd_isS G_fMd_isP r M0 E FU q1.2 h
  · replace h := iteF c3 h
    refine a_iconst (pc := 7) C 0 dX11_isA_7 rfl ?_
    exact a_iret (pc := 8) C E rfl (som1 h) (som2 h) dX11_isA_8
set_option maxHeartbeats 200000 in
set_option maxRecDepth 100000 in
theorem ok_fMd_isB_J52 {X : Amb} (eL : X.nL = 2) {kr kc : Nat} (hkr : Nat.ble (kr + 1) kc = true) (hkb : Nat.ble 2 kc = true) (C : Cx X RX11 cX11_isB kc) (g_fMd_isO : Mem → Option (Int32 × Mem)) (g_fMd_isE : Mem → Option (Int32 × Mem)) (g_fMd_isA : Mem → Option (Int32 × Mem)) (g_fMd_isB : Mem → Option (Int32 × Mem)) (g_fMd_isS : Mem → Option (Int32 × Mem)) (g_fMd_isP : Mem → Option (Int32 × Mem)) (G_fMd_isO : ∀ (M : Mem) {r : Int32} {M0 : Mem}, g_fMd_isO M = some (r, M0) → Ct X.l X.N yX11_isO cX11_isO 3 (some .boolean) kr [.ref (X.N.2.1 66)] M (QcI X.N (some .boolean) r M0)) (G_fMd_isE : ∀ (M : Mem) {r : Int32} {M0 : Mem}, g_fMd_isE M = some (r, M0) → Ct X.l X.N yX11_isE cX11_isE 1 (some .boolean) kr [.ref (X.N.2.1 66)] M (QcI X.N (some .boolean) r M0)) (G_fMd_isA : ∀ (M : Mem) {r : Int32} {M0 : Mem}, g_fMd_isA M = some (r, M0) → Ct X.l X.N yX11_isA cX11_isA 1 (some .boolean) kr [.ref (X.N.2.1 66)] M (QcI X.N (some .boolean) r M0)) (G_fMd_isB : ∀ (M : Mem) {r : Int32} {M0 : Mem}, g_fMd_isB M = some (r, M0) → Ct X.l X.N yX11_isB cX11_isB 2 (some .boolean) kr [.ref (X.N.2.1 66)] M (QcI X.N (some .boolean) r M0)) (G_fMd_isS : ∀ (M : Mem) {r : Int32} {M0 : Mem}, g_fMd_isS M = some (r, M0) → Ct X.l X.N yX11_isS cX11_isS 2 (some .boolean) kr [.ref (X.N.2.1 66)] M (QcI X.N (some .boolean) r M0)) (G_fMd_isP : ∀ (M : Mem) {r : Int32} {M0 : Mem}, g_fMd_isP M = some (r, M0) → Ct X.l X.N yX11_isP cX11_isP 2 (some .boolean) kr [.ref (X.N.2.1 66)] M (QcI X.N (some .boolean) r M0)) (r : Int32) (M0 : Mem) (E : En X (some .boolean) (QcI X.N (some .boolean) r M0)) (M : Mem) (s0 : Int32) (h : fMd_isB_J52 g_fMd_isO g_fMd_isE g_fMd_isA g_fMd_isB g_fMd_isS g_fMd_isP M s0 = some (r, M0)) : WA X M [(0, .ref (X.N.2.1 66))] 52 [.int s0] := by
  unfold fMd_isB_J52 at h
  refine a_istore_n (pc := 52) C [(1, .int s0), (0, .ref (X.N.2.1 66))] dX11_isB_52 rfl (nlt eL rfl) rfl ?_
  refine a_iload_n (pc := 53) C dX11_isB_53 rfl 0 rfl ?_
  refine a_if_ge (pc := 54) C 59 dX11_isB_54 rfl (fun c13 => ?_) (fun c13 => ?_)
  · replace h := iteT c13 h
    refine a_aload_n (pc := 59) C dX11_isB_59 rfl 1 rfl ?_
    refine a_dup (pc := 60) C dX11_isB_60 rfl ?_
    refine gf_11_14 (pc := 61) C wd_1091 dX11_isB_61 ?_
    refine a_iconst (pc := 64) C 1 dX11_isB_64 rfl ?_
    refine a_iadd (pc := 65) C dX11_isB_65 ?_
    refine pf_11_14 (pc := 66) C wd_1091 dX11_isB_66 ?_
    refine a_aload_n (pc := 69) C dX11_isB_69 rfl 1 rfl ?_
    obtain ⟨q14, eq14, h⟩ := bndS h
    refine a_callVI (pc := 70) C [] (G_fMd_isS (wI M 66 14 ((M.1 66 14) + 1)) eq14) hkr mw_X11_isS wd_1298 rfl rfl rfl rfl rfl rfl rfl dX11_isB_70 (fun z15 => ?_)
    refine a_if_eq (pc := 73) C 88 dX11_isB_73 rfl (fun c16 => ?_) (fun c16 => ?_)
    · replace h := iteT c16 h
      refine a_iconst (pc := 88) C 0 dX11_isB_88 rfl ?_
      exact a_iret (pc := 89) C E rfl (som1 h) (som2 h) dX11_isB_89
    · replace h := iteF c16 h
      refine a_aload_n (pc := 76) C dX11_isB_76 rfl 1 rfl ?_
      refine a_iload_n (pc := 77) C dX11_isB_77 rfl 0 rfl ?_
      obtain ⟨q17, eq17, h⟩ := bndS h
      refine a_callVI (pc := 78) C [.int s0] (ok_fMd_codes X.l X.N q14.2 s0 eq17) (ble_tr (b := 2) rfl hkb) mw_X11_codes wd_1318 rfl rfl rfl rfl rfl rfl rfl dX11_isB_78 (fun z18 => ?_)
      refine a_if_eq (pc := 81) C 88 dX11_isB_81 rfl (fun c19 => ?_) (fun c19 => ?_)
      · replace h := iteT c19 h
        refine a_iconst (pc := 88) C 0 dX11_isB_88 rfl ?_
        exact a_iret (pc := 89) C E rfl (som1 h) (som2 h) dX11_isB_89
      · replace h := iteF c19 h
        refine a_iconst (pc := 84) C 1 dX11_isB_84 rfl ?_
        refine a_goto (pc := 85) C 89 dX11_isB_85 rfl ?_
        exact a_iret (pc := 89) C E rfl (som1 h) (som2 h) dX11_isB_89
  · replace h := iteF c13 h
    refine a_iconst (pc := 57) C 1 dX11_isB_57 rfl ?_
    exact a_iret (pc := 58) C E rfl (som1 h) (som2 h) dX11_isB_58
set_option maxHeartbeats 200000 in
set_option maxRecDepth 100000 in
theorem ok_fMd_isB_F (l : Launch) (N : Rig) {kr kc : Nat} (hkr : Nat.ble (kr + 1) kc = true) (hkb : Nat.ble 2 kc = true) (g_fMd_isO : Mem → Option (Int32 × Mem)) (g_fMd_isE : Mem → Option (Int32 × Mem)) (g_fMd_isA : Mem → Option (Int32 × Mem)) (g_fMd_isB : Mem → Option (Int32 × Mem)) (g_fMd_isS : Mem → Option (Int32 × Mem)) (g_fMd_isP : Mem → Option (Int32 × Mem)) (G_fMd_isO : ∀ (M : Mem) {r : Int32} {M0 : Mem}, g_fMd_isO M = some (r, M0) → Ct l N yX11_isO cX11_isO 3 (some .boolean) kr [.ref (N.2.1 66)] M (QcI N (some .boolean) r M0)) (G_fMd_isE : ∀ (M : Mem) {r : Int32} {M0 : Mem}, g_fMd_isE M = some (r, M0) → Ct l N yX11_isE cX11_isE 1 (some .boolean) kr [.ref (N.2.1 66)] M (QcI N (some .boolean) r M0)) (G_fMd_isA : ∀ (M : Mem) {r : Int32} {M0 : Mem}, g_fMd_isA M = some (r, M0) → Ct l N yX11_isA cX11_isA 1 (some .boolean) kr [.ref (N.2.1 66)] M (QcI N (some .boolean) r M0)) (G_fMd_isB : ∀ (M : Mem) {r : Int32} {M0 : Mem}, g_fMd_isB M = some (r, M0) → Ct l N yX11_isB cX11_isB 2 (some .boolean) kr [.ref (N.2.1 66)] M (QcI N (some .boolean) r M0)) (G_fMd_isS : ∀ (M : Mem) {r : Int32} {M0 : Mem}, g_fMd_isS M = some (r, M0) → Ct l N yX11_isS cX11_isS 2 (some .boolean) kr [.ref (N.2.1 66)] M (QcI N (some .boolean) r M0)) (G_fMd_isP : ∀ (M : Mem) {r : Int32} {M0 : Mem}, g_fMd_isP M = some (r, M0) → Ct l N yX11_isP cX11_isP 2 (some .boolean) kr [.ref (N.2.1 66)] M (QcI N (some .boolean) r M0)) (M : Mem) (r : Int32) (M0 : Mem) (h : fMd_isB_F g_fMd_isO g_fMd_isE g_fMd_isA g_fMd_isB g_fMd_isS g_fMd_isP M = some (r, M0)) : Ct l N yX11_isB cX11_isB 2 (some .boolean) kc [.ref (N.2.1 66)] M (QcI N (some .boolean) r M0) := by
  refine ct_of (by decide) rfl ?_
  intro X el eN eL C E
  subst el
  subst eN
  unfold fMd_isB_F at h
  show WA X M [(0, .ref (X.N.2.1 66))] 0 []
  refine a_aload_n (pc := 0) C dX11_isB_0 rfl 0 rfl ?_
  obtain ⟨q1, eq1, h⟩ := bndS h
  refine a_callVI (pc := 1) C [] (G_fMd_isS M eq1) hkr mw_X11_isS wd_1298 rfl rfl rfl rfl rfl rfl rfl dX11_isB_1 (fun z2 => ?_)
  refine a_if_ne (pc := 4) C 9 dX11_isB_4 rfl (fun c3 => ?_) (fun c3 => ?_)
  · replace h := iteT c3 h
    refine a_aload_n (pc := 9) C dX11_isB_9 rfl 0 rfl ?_
    obtain ⟨v4, ev4, h⟩ := bndS h
    refine a_callVI (pc := 10) C [] (ok_fMd_sign X.l X.N q1.2 ev4) (ble_tr (b := 2) rfl hkb) mw_X11_sign wd_1314 rfl rfl rfl rfl rfl rfl rfl dX11_isB_10 (fun z5 => ?_)
    refine a_bipush (pc := 13) C 60 dX11_isB_13 rfl ?_
    refine a_icmp_ne (pc := 15) C 23 dX11_isB_15 rfl (fun c6 => ?_) (fun c6 => ?_)
    · replace h := iteT c6 h
      refine a_aload_n (pc := 23) C dX11_isB_23 rfl 0 rfl ?_
      obtain ⟨v7, ev7, h⟩ := bndS h
      refine a_callVI (pc := 24) C [] (ok_fMd_sign X.l X.N q1.2 ev7) (ble_tr (b := 2) rfl hkb) mw_X11_sign wd_1314 rfl rfl rfl rfl rfl rfl rfl dX11_isB_24 (fun z8 => ?_)
      refine a_bipush (pc := 27) C 61 dX11_isB_27 rfl ?_
      refine a_icmp_ne (pc := 29) C 37 dX11_isB_29 rfl (fun c9 => ?_) (fun c9 => ?_)
      · replace h := iteT c9 h
        refine a_aload_n (pc := 37) C dX11_isB_37 rfl 0 rfl ?_
        obtain ⟨v10, ev10, h⟩ := bndS h
        refine a_callVI (pc := 38) C [] (ok_fMd_sign X.l X.N q1.2 ev10) (ble_tr (b := 2) rfl hkb) mw_X11_sign wd_1314 rfl rfl rfl rfl rfl rfl rfl dX11_isB_38 (fun z11 => ?_)
        refine a_bipush (pc := 41) C 62 dX11_isB_41 rfl ?_
        refine a_icmp_ne (pc := 43) C 51 dX11_isB_43 rfl (fun c12 => ?_) (fun c12 => ?_)
        · replace h := iteT c12 h
          refine a_iconst (pc := 51) C (-1) dX11_isB_51 rfl ?_
          refine a_sub (lv2 := [(0, .ref (X.N.2.1 66))]) [0] rfl ?_
          exact ok_fMd_isB_J52 eL hkr hkb C g_fMd_isO g_fMd_isE g_fMd_isA g_fMd_isB g_fMd_isS g_fMd_isP G_fMd_isO G_fMd_isE G_fMd_isA G_fMd_isB G_fMd_isS G_fMd_isP r M0 E q1.2 (-1) h
        · replace h := iteF c12 h
          refine a_bipush (pc := 46) C 10 dX11_isB_46 rfl ?_
          refine a_goto (pc := 48) C 52 dX11_isB_48 rfl ?_
          refine a_sub (lv2 := [(0, .ref (X.N.2.1 66))]) [0] rfl ?_
          exact ok_fMd_isB_J52 eL hkr hkb C g_fMd_isO g_fMd_isE g_fMd_isA g_fMd_isB g_fMd_isS g_fMd_isP G_fMd_isO G_fMd_isE G_fMd_isA G_fMd_isB G_fMd_isS G_fMd_isP r M0 E q1.2 10 h
      · replace h := iteF c9 h
        refine a_bipush (pc := 32) C 9 dX11_isB_32 rfl ?_
        refine a_goto (pc := 34) C 52 dX11_isB_34 rfl ?_
        refine a_sub (lv2 := [(0, .ref (X.N.2.1 66))]) [0] rfl ?_
        exact ok_fMd_isB_J52 eL hkr hkb C g_fMd_isO g_fMd_isE g_fMd_isA g_fMd_isB g_fMd_isS g_fMd_isP G_fMd_isO G_fMd_isE G_fMd_isA G_fMd_isB G_fMd_isS G_fMd_isP r M0 E q1.2 9 h
    · replace h := iteF c6 h
      refine a_bipush (pc := 18) C 8 dX11_isB_18 rfl ?_
      refine a_goto (pc := 20) C 52 dX11_isB_20 rfl ?_
      refine a_sub (lv2 := [(0, .ref (X.N.2.1 66))]) [0] rfl ?_
      exact ok_fMd_isB_J52 eL hkr hkb C g_fMd_isO g_fMd_isE g_fMd_isA g_fMd_isB g_fMd_isS g_fMd_isP G_fMd_isO G_fMd_isE G_fMd_isA G_fMd_isB G_fMd_isS G_fMd_isP r M0 E q1.2 8 h
  · replace h := iteF c3 h
    refine a_iconst (pc := 7) C 0 dX11_isB_7 rfl ?_
    exact a_iret (pc := 8) C E rfl (som1 h) (som2 h) dX11_isB_8
set_option maxHeartbeats 200000 in
set_option maxRecDepth 100000 in
theorem ok_fMd_isS_J38_9 {X : Amb} (eL : X.nL = 2) {kr kc : Nat} (hkr : Nat.ble (kr + 1) kc = true) (hkb : Nat.ble 2 kc = true) (C : Cx X RX11 cX11_isS kc) (g_fMd_isO : Mem → Option (Int32 × Mem)) (g_fMd_isE : Mem → Option (Int32 × Mem)) (g_fMd_isA : Mem → Option (Int32 × Mem)) (g_fMd_isB : Mem → Option (Int32 × Mem)) (g_fMd_isS : Mem → Option (Int32 × Mem)) (g_fMd_isP : Mem → Option (Int32 × Mem)) (G_fMd_isO : ∀ (M : Mem) {r : Int32} {M0 : Mem}, g_fMd_isO M = some (r, M0) → Ct X.l X.N yX11_isO cX11_isO 3 (some .boolean) kr [.ref (X.N.2.1 66)] M (QcI X.N (some .boolean) r M0)) (G_fMd_isE : ∀ (M : Mem) {r : Int32} {M0 : Mem}, g_fMd_isE M = some (r, M0) → Ct X.l X.N yX11_isE cX11_isE 1 (some .boolean) kr [.ref (X.N.2.1 66)] M (QcI X.N (some .boolean) r M0)) (G_fMd_isA : ∀ (M : Mem) {r : Int32} {M0 : Mem}, g_fMd_isA M = some (r, M0) → Ct X.l X.N yX11_isA cX11_isA 1 (some .boolean) kr [.ref (X.N.2.1 66)] M (QcI X.N (some .boolean) r M0)) (G_fMd_isB : ∀ (M : Mem) {r : Int32} {M0 : Mem}, g_fMd_isB M = some (r, M0) → Ct X.l X.N yX11_isB cX11_isB 2 (some .boolean) kr [.ref (X.N.2.1 66)] M (QcI X.N (some .boolean) r M0)) (G_fMd_isS : ∀ (M : Mem) {r : Int32} {M0 : Mem}, g_fMd_isS M = some (r, M0) → Ct X.l X.N yX11_isS cX11_isS 2 (some .boolean) kr [.ref (X.N.2.1 66)] M (QcI X.N (some .boolean) r M0)) (G_fMd_isP : ∀ (M : Mem) {r : Int32} {M0 : Mem}, g_fMd_isP M = some (r, M0) → Ct X.l X.N yX11_isP cX11_isP 2 (some .boolean) kr [.ref (X.N.2.1 66)] M (QcI X.N (some .boolean) r M0)) (r : Int32) (M0 : Mem) (E : En X (some .boolean) (QcI X.N (some .boolean) r M0)) (ihf : Mem → Option (Int32 × Mem)) (ih : ∀ (M : Mem), ihf M = some (r, M0) → WA X M [(0, .ref (X.N.2.1 66))] 9 []) (M : Mem) (s0 : Int32) (h : fMd_isS_J38_9 g_fMd_isO g_fMd_isE g_fMd_isA g_fMd_isB g_fMd_isS g_fMd_isP ihf M s0 = some (r, M0)) : WA X M [(0, .ref (X.N.2.1 66))] 38 [.int s0] := by
  unfold fMd_isS_J38_9 at h
  refine a_istore_n (pc := 38) C [(1, .int s0), (0, .ref (X.N.2.1 66))] dX11_isS_38 rfl (nlt eL rfl) rfl ?_
  refine a_iload_n (pc := 39) C dX11_isS_39 rfl 0 rfl ?_
  refine a_if_ge (pc := 40) C 45 dX11_isS_40 rfl (fun c10 => ?_) (fun c10 => ?_)
  · replace h := iteT c10 h
    refine a_aload_n (pc := 45) C dX11_isS_45 rfl 1 rfl ?_
    refine a_dup (pc := 46) C dX11_isS_46 rfl ?_
    refine gf_11_14 (pc := 47) C wd_1091 dX11_isS_47 ?_
    refine a_iconst (pc := 50) C 1 dX11_isS_50 rfl ?_
    refine a_iadd (pc := 51) C dX11_isS_51 ?_
    refine pf_11_14 (pc := 52) C wd_1091 dX11_isS_52 ?_
    refine a_aload_n (pc := 55) C dX11_isS_55 rfl 1 rfl ?_
    obtain ⟨q11, eq11, h⟩ := bndS h
    refine a_callVI (pc := 56) C [] (G_fMd_isP (wI M 66 14 ((M.1 66 14) + 1)) eq11) hkr mw_X11_isP wd_1302 rfl rfl rfl rfl rfl rfl rfl dX11_isS_56 (fun z12 => ?_)
    refine a_if_ne (pc := 59) C 64 dX11_isS_59 rfl (fun c13 => ?_) (fun c13 => ?_)
    · replace h := iteT c13 h
      refine a_aload_n (pc := 64) C dX11_isS_64 rfl 1 rfl ?_
      refine a_iload_n (pc := 65) C dX11_isS_65 rfl 0 rfl ?_
      obtain ⟨q14, eq14, h⟩ := bndS h
      refine a_callVI (pc := 66) C [.int s0] (ok_fMd_codes X.l X.N q11.2 s0 eq14) (ble_tr (b := 2) rfl hkb) mw_X11_codes wd_1318 rfl rfl rfl rfl rfl rfl rfl dX11_isS_66 (fun z15 => ?_)
      refine a_pop (pc := 69) C dX11_isS_69 rfl ?_
      refine a_goto (pc := 70) C 9 dX11_isS_70 rfl ?_
      refine a_sub [1] rfl ?_
      exact ih q14.2 h
    · replace h := iteF c13 h
      refine a_iconst (pc := 62) C 0 dX11_isS_62 rfl ?_
      exact a_iret (pc := 63) C E rfl (som1 h) (som2 h) dX11_isS_63
  · replace h := iteF c10 h
    refine a_iconst (pc := 43) C 1 dX11_isS_43 rfl ?_
    exact a_iret (pc := 44) C E rfl (som1 h) (som2 h) dX11_isS_44
set_option maxHeartbeats 200000 in
set_option maxRecDepth 100000 in
theorem ok_fMd_isS_L9 {X : Amb} (eL : X.nL = 2) {kr kc : Nat} (hkr : Nat.ble (kr + 1) kc = true) (hkb : Nat.ble 2 kc = true) (C : Cx X RX11 cX11_isS kc) (g_fMd_isO : Mem → Option (Int32 × Mem)) (g_fMd_isE : Mem → Option (Int32 × Mem)) (g_fMd_isA : Mem → Option (Int32 × Mem)) (g_fMd_isB : Mem → Option (Int32 × Mem)) (g_fMd_isS : Mem → Option (Int32 × Mem)) (g_fMd_isP : Mem → Option (Int32 × Mem)) (G_fMd_isO : ∀ (M : Mem) {r : Int32} {M0 : Mem}, g_fMd_isO M = some (r, M0) → Ct X.l X.N yX11_isO cX11_isO 3 (some .boolean) kr [.ref (X.N.2.1 66)] M (QcI X.N (some .boolean) r M0)) (G_fMd_isE : ∀ (M : Mem) {r : Int32} {M0 : Mem}, g_fMd_isE M = some (r, M0) → Ct X.l X.N yX11_isE cX11_isE 1 (some .boolean) kr [.ref (X.N.2.1 66)] M (QcI X.N (some .boolean) r M0)) (G_fMd_isA : ∀ (M : Mem) {r : Int32} {M0 : Mem}, g_fMd_isA M = some (r, M0) → Ct X.l X.N yX11_isA cX11_isA 1 (some .boolean) kr [.ref (X.N.2.1 66)] M (QcI X.N (some .boolean) r M0)) (G_fMd_isB : ∀ (M : Mem) {r : Int32} {M0 : Mem}, g_fMd_isB M = some (r, M0) → Ct X.l X.N yX11_isB cX11_isB 2 (some .boolean) kr [.ref (X.N.2.1 66)] M (QcI X.N (some .boolean) r M0)) (G_fMd_isS : ∀ (M : Mem) {r : Int32} {M0 : Mem}, g_fMd_isS M = some (r, M0) → Ct X.l X.N yX11_isS cX11_isS 2 (some .boolean) kr [.ref (X.N.2.1 66)] M (QcI X.N (some .boolean) r M0)) (G_fMd_isP : ∀ (M : Mem) {r : Int32} {M0 : Mem}, g_fMd_isP M = some (r, M0) → Ct X.l X.N yX11_isP cX11_isP 2 (some .boolean) kr [.ref (X.N.2.1 66)] M (QcI X.N (some .boolean) r M0)) (r : Int32) (M0 : Mem) (E : En X (some .boolean) (QcI X.N (some .boolean) r M0)) : ∀ (n : Nat) (M : Mem), fMd_isS_L9 g_fMd_isO g_fMd_isE g_fMd_isA g_fMd_isB g_fMd_isS g_fMd_isP n M = some (r, M0) → WA X M [(0, .ref (X.N.2.1 66))] 9 [] := by
  intro n
  induction n with
  | zero => intro _ h; cases h
  | succ n ih =>
    intro M h
    replace h : fMd_isS_L9_F g_fMd_isO g_fMd_isE g_fMd_isA g_fMd_isB g_fMd_isS g_fMd_isP (fMd_isS_L9 g_fMd_isO g_fMd_isE g_fMd_isA g_fMd_isB g_fMd_isS g_fMd_isP n) M = some (r, M0) := h
    unfold fMd_isS_L9_F at h
    refine a_aload_n (pc := 9) C dX11_isS_9 rfl 0 rfl ?_
    obtain ⟨v4, ev4, h⟩ := bndS h
    refine a_callVI (pc := 10) C [] (ok_fMd_sign X.l X.N M ev4) (ble_tr (b := 2) rfl hkb) mw_X11_sign wd_1314 rfl rfl rfl rfl rfl rfl rfl dX11_isS_10 (fun z5 => ?_)
    refine a_bipush (pc := 13) C 43 dX11_isS_13 rfl ?_
    refine a_icmp_ne (pc := 15) C 23 dX11_isS_15 rfl (fun c6 => ?_) (fun c6 => ?_)
    · replace h := iteT c6 h
      refine a_aload_n (pc := 23) C dX11_isS_23 rfl 0 rfl ?_
      obtain ⟨v7, ev7, h⟩ := bndS h
      refine a_callVI (pc := 24) C [] (ok_fMd_sign X.l X.N M ev7) (ble_tr (b := 2) rfl hkb) mw_X11_sign wd_1314 rfl rfl rfl rfl rfl rfl rfl dX11_isS_24 (fun z8 => ?_)
      refine a_bipush (pc := 27) C 45 dX11_isS_27 rfl ?_
      refine a_icmp_ne (pc := 29) C 37 dX11_isS_29 rfl (fun c9 => ?_) (fun c9 => ?_)
      · replace h := iteT c9 h
        refine a_iconst (pc := 37) C (-1) dX11_isS_37 rfl ?_
        refine a_sub (lv2 := [(0, .ref (X.N.2.1 66))]) [0] rfl ?_
        exact ok_fMd_isS_J38_9 eL hkr hkb C g_fMd_isO g_fMd_isE g_fMd_isA g_fMd_isB g_fMd_isS g_fMd_isP G_fMd_isO G_fMd_isE G_fMd_isA G_fMd_isB G_fMd_isS G_fMd_isP r M0 E _ ih M (-1) h
      · replace h := iteF c9 h
        refine a_bipush (pc := 32) C 12 dX11_isS_32 rfl ?_
        refine a_goto (pc := 34) C 38 dX11_isS_34 rfl ?_
        refine a_sub (lv2 := [(0, .ref (X.N.2.1 66))]) [0] rfl ?_
        exact ok_fMd_isS_J38_9 eL hkr hkb C g_fMd_isO g_fMd_isE g_fMd_isA g_fMd_isB g_fMd_isS g_fMd_isP G_fMd_isO G_fMd_isE G_fMd_isA G_fMd_isB G_fMd_isS G_fMd_isP r M0 E _ ih M 12 h
    · replace h := iteF c6 h
      refine a_bipush (pc := 18) C 11 dX11_isS_18 rfl ?_
      refine a_goto (pc := 20) C 38 dX11_isS_20 rfl ?_
      refine a_sub (lv2 := [(0, .ref (X.N.2.1 66))]) [0] rfl ?_
      exact ok_fMd_isS_J38_9 eL hkr hkb C g_fMd_isO g_fMd_isE g_fMd_isA g_fMd_isB g_fMd_isS g_fMd_isP G_fMd_isO G_fMd_isE G_fMd_isA G_fMd_isB G_fMd_isS G_fMd_isP r M0 E _ ih M 11 h
set_option maxHeartbeats 200000 in
set_option maxRecDepth 100000 in
theorem ok_fMd_isS_F (l : Launch) (N : Rig) {kr kc : Nat} (hkr : Nat.ble (kr + 1) kc = true) (hkb : Nat.ble 2 kc = true) (g_fMd_isO : Mem → Option (Int32 × Mem)) (g_fMd_isE : Mem → Option (Int32 × Mem)) (g_fMd_isA : Mem → Option (Int32 × Mem)) (g_fMd_isB : Mem → Option (Int32 × Mem)) (g_fMd_isS : Mem → Option (Int32 × Mem)) (g_fMd_isP : Mem → Option (Int32 × Mem)) (G_fMd_isO : ∀ (M : Mem) {r : Int32} {M0 : Mem}, g_fMd_isO M = some (r, M0) → Ct l N yX11_isO cX11_isO 3 (some .boolean) kr [.ref (N.2.1 66)] M (QcI N (some .boolean) r M0)) (G_fMd_isE : ∀ (M : Mem) {r : Int32} {M0 : Mem}, g_fMd_isE M = some (r, M0) → Ct l N yX11_isE cX11_isE 1 (some .boolean) kr [.ref (N.2.1 66)] M (QcI N (some .boolean) r M0)) (G_fMd_isA : ∀ (M : Mem) {r : Int32} {M0 : Mem}, g_fMd_isA M = some (r, M0) → Ct l N yX11_isA cX11_isA 1 (some .boolean) kr [.ref (N.2.1 66)] M (QcI N (some .boolean) r M0)) (G_fMd_isB : ∀ (M : Mem) {r : Int32} {M0 : Mem}, g_fMd_isB M = some (r, M0) → Ct l N yX11_isB cX11_isB 2 (some .boolean) kr [.ref (N.2.1 66)] M (QcI N (some .boolean) r M0)) (G_fMd_isS : ∀ (M : Mem) {r : Int32} {M0 : Mem}, g_fMd_isS M = some (r, M0) → Ct l N yX11_isS cX11_isS 2 (some .boolean) kr [.ref (N.2.1 66)] M (QcI N (some .boolean) r M0)) (G_fMd_isP : ∀ (M : Mem) {r : Int32} {M0 : Mem}, g_fMd_isP M = some (r, M0) → Ct l N yX11_isP cX11_isP 2 (some .boolean) kr [.ref (N.2.1 66)] M (QcI N (some .boolean) r M0)) (M : Mem) (r : Int32) (M0 : Mem) (h : fMd_isS_F g_fMd_isO g_fMd_isE g_fMd_isA g_fMd_isB g_fMd_isS g_fMd_isP M = some (r, M0)) : Ct l N yX11_isS cX11_isS 2 (some .boolean) kc [.ref (N.2.1 66)] M (QcI N (some .boolean) r M0) := by
  refine ct_of (by decide) rfl ?_
  intro X el eN eL C E
  subst el
  subst eN
  unfold fMd_isS_F at h
  show WA X M [(0, .ref (X.N.2.1 66))] 0 []
  refine a_aload_n (pc := 0) C dX11_isS_0 rfl 0 rfl ?_
  obtain ⟨q1, eq1, h⟩ := bndS h
  refine a_callVI (pc := 1) C [] (G_fMd_isP M eq1) hkr mw_X11_isP wd_1302 rfl rfl rfl rfl rfl rfl rfl dX11_isS_1 (fun z2 => ?_)
  refine a_if_ne (pc := 4) C 9 dX11_isS_4 rfl (fun c3 => ?_) (fun c3 => ?_)
  · replace h := iteT c3 h
    refine a_sub (lv2 := [(0, .ref (X.N.2.1 66))]) [0] rfl ?_
    exact ok_fMd_isS_L9 eL hkr hkb C g_fMd_isO g_fMd_isE g_fMd_isA g_fMd_isB g_fMd_isS g_fMd_isP G_fMd_isO G_fMd_isE G_fMd_isA G_fMd_isB G_fMd_isS G_fMd_isP r M0 E FU q1.2 h
  · replace h := iteF c3 h
    refine a_iconst (pc := 7) C 0 dX11_isS_7 rfl ?_
    exact a_iret (pc := 8) C E rfl (som1 h) (som2 h) dX11_isS_8
set_option maxHeartbeats 200000 in
set_option maxRecDepth 100000 in
theorem ok_fMd_isP_J52_9 {X : Amb} (eL : X.nL = 2) {kr kc : Nat} (hkr : Nat.ble (kr + 1) kc = true) (hkb : Nat.ble 2 kc = true) (C : Cx X RX11 cX11_isP kc) (g_fMd_isO : Mem → Option (Int32 × Mem)) (g_fMd_isE : Mem → Option (Int32 × Mem)) (g_fMd_isA : Mem → Option (Int32 × Mem)) (g_fMd_isB : Mem → Option (Int32 × Mem)) (g_fMd_isS : Mem → Option (Int32 × Mem)) (g_fMd_isP : Mem → Option (Int32 × Mem)) (G_fMd_isO : ∀ (M : Mem) {r : Int32} {M0 : Mem}, g_fMd_isO M = some (r, M0) → Ct X.l X.N yX11_isO cX11_isO 3 (some .boolean) kr [.ref (X.N.2.1 66)] M (QcI X.N (some .boolean) r M0)) (G_fMd_isE : ∀ (M : Mem) {r : Int32} {M0 : Mem}, g_fMd_isE M = some (r, M0) → Ct X.l X.N yX11_isE cX11_isE 1 (some .boolean) kr [.ref (X.N.2.1 66)] M (QcI X.N (some .boolean) r M0)) (G_fMd_isA : ∀ (M : Mem) {r : Int32} {M0 : Mem}, g_fMd_isA M = some (r, M0) → Ct X.l X.N yX11_isA cX11_isA 1 (some .boolean) kr [.ref (X.N.2.1 66)] M (QcI X.N (some .boolean) r M0)) (G_fMd_isB : ∀ (M : Mem) {r : Int32} {M0 : Mem}, g_fMd_isB M = some (r, M0) → Ct X.l X.N yX11_isB cX11_isB 2 (some .boolean) kr [.ref (X.N.2.1 66)] M (QcI X.N (some .boolean) r M0)) (G_fMd_isS : ∀ (M : Mem) {r : Int32} {M0 : Mem}, g_fMd_isS M = some (r, M0) → Ct X.l X.N yX11_isS cX11_isS 2 (some .boolean) kr [.ref (X.N.2.1 66)] M (QcI X.N (some .boolean) r M0)) (G_fMd_isP : ∀ (M : Mem) {r : Int32} {M0 : Mem}, g_fMd_isP M = some (r, M0) → Ct X.l X.N yX11_isP cX11_isP 2 (some .boolean) kr [.ref (X.N.2.1 66)] M (QcI X.N (some .boolean) r M0)) (r : Int32) (M0 : Mem) (E : En X (some .boolean) (QcI X.N (some .boolean) r M0)) (ihf : Mem → Option (Int32 × Mem)) (ih : ∀ (M : Mem), ihf M = some (r, M0) → WA X M [(0, .ref (X.N.2.1 66))] 9 []) (M : Mem) (s0 : Int32) (h : fMd_isP_J52_9 g_fMd_isO g_fMd_isE g_fMd_isA g_fMd_isB g_fMd_isS g_fMd_isP ihf M s0 = some (r, M0)) : WA X M [(0, .ref (X.N.2.1 66))] 52 [.int s0] := by
  unfold fMd_isP_J52_9 at h
  refine a_istore_n (pc := 52) C [(1, .int s0), (0, .ref (X.N.2.1 66))] dX11_isP_52 rfl (nlt eL rfl) rfl ?_
  refine a_iload_n (pc := 53) C dX11_isP_53 rfl 0 rfl ?_
  refine a_if_ge (pc := 54) C 59 dX11_isP_54 rfl (fun c13 => ?_) (fun c13 => ?_)
  · replace h := iteT c13 h
    refine a_aload_n (pc := 59) C dX11_isP_59 rfl 1 rfl ?_
    refine a_dup (pc := 60) C dX11_isP_60 rfl ?_
    refine gf_11_14 (pc := 61) C wd_1091 dX11_isP_61 ?_
    refine a_iconst (pc := 64) C 1 dX11_isP_64 rfl ?_
    refine a_iadd (pc := 65) C dX11_isP_65 ?_
    refine pf_11_14 (pc := 66) C wd_1091 dX11_isP_66 ?_
    refine a_aload_n (pc := 69) C dX11_isP_69 rfl 1 rfl ?_
    obtain ⟨q14, eq14, h⟩ := bndS h
    refine a_callVI (pc := 70) C [] (G_fMd_isO (wI M 66 14 ((M.1 66 14) + 1)) eq14) hkr mw_X11_isO wd_1306 rfl rfl rfl rfl rfl rfl rfl dX11_isP_70 (fun z15 => ?_)
    refine a_if_ne (pc := 73) C 78 dX11_isP_73 rfl (fun c16 => ?_) (fun c16 => ?_)
    · replace h := iteT c16 h
      refine a_aload_n (pc := 78) C dX11_isP_78 rfl 1 rfl ?_
      refine a_iload_n (pc := 79) C dX11_isP_79 rfl 0 rfl ?_
      obtain ⟨q17, eq17, h⟩ := bndS h
      refine a_callVI (pc := 80) C [.int s0] (ok_fMd_codes X.l X.N q14.2 s0 eq17) (ble_tr (b := 2) rfl hkb) mw_X11_codes wd_1318 rfl rfl rfl rfl rfl rfl rfl dX11_isP_80 (fun z18 => ?_)
      refine a_pop (pc := 83) C dX11_isP_83 rfl ?_
      refine a_goto (pc := 84) C 9 dX11_isP_84 rfl ?_
      refine a_sub [1] rfl ?_
      exact ih q17.2 h
    · replace h := iteF c16 h
      refine a_iconst (pc := 76) C 0 dX11_isP_76 rfl ?_
      exact a_iret (pc := 77) C E rfl (som1 h) (som2 h) dX11_isP_77
  · replace h := iteF c13 h
    refine a_iconst (pc := 57) C 1 dX11_isP_57 rfl ?_
    exact a_iret (pc := 58) C E rfl (som1 h) (som2 h) dX11_isP_58
set_option maxHeartbeats 200000 in
set_option maxRecDepth 100000 in
theorem ok_fMd_isP_L9 {X : Amb} (eL : X.nL = 2) {kr kc : Nat} (hkr : Nat.ble (kr + 1) kc = true) (hkb : Nat.ble 2 kc = true) (C : Cx X RX11 cX11_isP kc) (g_fMd_isO : Mem → Option (Int32 × Mem)) (g_fMd_isE : Mem → Option (Int32 × Mem)) (g_fMd_isA : Mem → Option (Int32 × Mem)) (g_fMd_isB : Mem → Option (Int32 × Mem)) (g_fMd_isS : Mem → Option (Int32 × Mem)) (g_fMd_isP : Mem → Option (Int32 × Mem)) (G_fMd_isO : ∀ (M : Mem) {r : Int32} {M0 : Mem}, g_fMd_isO M = some (r, M0) → Ct X.l X.N yX11_isO cX11_isO 3 (some .boolean) kr [.ref (X.N.2.1 66)] M (QcI X.N (some .boolean) r M0)) (G_fMd_isE : ∀ (M : Mem) {r : Int32} {M0 : Mem}, g_fMd_isE M = some (r, M0) → Ct X.l X.N yX11_isE cX11_isE 1 (some .boolean) kr [.ref (X.N.2.1 66)] M (QcI X.N (some .boolean) r M0)) (G_fMd_isA : ∀ (M : Mem) {r : Int32} {M0 : Mem}, g_fMd_isA M = some (r, M0) → Ct X.l X.N yX11_isA cX11_isA 1 (some .boolean) kr [.ref (X.N.2.1 66)] M (QcI X.N (some .boolean) r M0)) (G_fMd_isB : ∀ (M : Mem) {r : Int32} {M0 : Mem}, g_fMd_isB M = some (r, M0) → Ct X.l X.N yX11_isB cX11_isB 2 (some .boolean) kr [.ref (X.N.2.1 66)] M (QcI X.N (some .boolean) r M0)) (G_fMd_isS : ∀ (M : Mem) {r : Int32} {M0 : Mem}, g_fMd_isS M = some (r, M0) → Ct X.l X.N yX11_isS cX11_isS 2 (some .boolean) kr [.ref (X.N.2.1 66)] M (QcI X.N (some .boolean) r M0)) (G_fMd_isP : ∀ (M : Mem) {r : Int32} {M0 : Mem}, g_fMd_isP M = some (r, M0) → Ct X.l X.N yX11_isP cX11_isP 2 (some .boolean) kr [.ref (X.N.2.1 66)] M (QcI X.N (some .boolean) r M0)) (r : Int32) (M0 : Mem) (E : En X (some .boolean) (QcI X.N (some .boolean) r M0)) : ∀ (n : Nat) (M : Mem), fMd_isP_L9 g_fMd_isO g_fMd_isE g_fMd_isA g_fMd_isB g_fMd_isS g_fMd_isP n M = some (r, M0) → WA X M [(0, .ref (X.N.2.1 66))] 9 [] := by
  intro n
  induction n with
  | zero => intro _ h; cases h
  | succ n ih =>
    intro M h
    replace h : fMd_isP_L9_F g_fMd_isO g_fMd_isE g_fMd_isA g_fMd_isB g_fMd_isS g_fMd_isP (fMd_isP_L9 g_fMd_isO g_fMd_isE g_fMd_isA g_fMd_isB g_fMd_isS g_fMd_isP n) M = some (r, M0) := h
    unfold fMd_isP_L9_F at h
    refine a_aload_n (pc := 9) C dX11_isP_9 rfl 0 rfl ?_
    obtain ⟨v4, ev4, h⟩ := bndS h
    refine a_callVI (pc := 10) C [] (ok_fMd_sign X.l X.N M ev4) (ble_tr (b := 2) rfl hkb) mw_X11_sign wd_1314 rfl rfl rfl rfl rfl rfl rfl dX11_isP_10 (fun z5 => ?_)
    refine a_bipush (pc := 13) C 42 dX11_isP_13 rfl ?_
    refine a_icmp_ne (pc := 15) C 23 dX11_isP_15 rfl (fun c6 => ?_) (fun c6 => ?_)
    · replace h := iteT c6 h
      refine a_aload_n (pc := 23) C dX11_isP_23 rfl 0 rfl ?_
      obtain ⟨v7, ev7, h⟩ := bndS h
      refine a_callVI (pc := 24) C [] (ok_fMd_sign X.l X.N M ev7) (ble_tr (b := 2) rfl hkb) mw_X11_sign wd_1314 rfl rfl rfl rfl rfl rfl rfl dX11_isP_24 (fun z8 => ?_)
      refine a_bipush (pc := 27) C 47 dX11_isP_27 rfl ?_
      refine a_icmp_ne (pc := 29) C 37 dX11_isP_29 rfl (fun c9 => ?_) (fun c9 => ?_)
      · replace h := iteT c9 h
        refine a_aload_n (pc := 37) C dX11_isP_37 rfl 0 rfl ?_
        obtain ⟨v10, ev10, h⟩ := bndS h
        refine a_callVI (pc := 38) C [] (ok_fMd_sign X.l X.N M ev10) (ble_tr (b := 2) rfl hkb) mw_X11_sign wd_1314 rfl rfl rfl rfl rfl rfl rfl dX11_isP_38 (fun z11 => ?_)
        refine a_bipush (pc := 41) C 37 dX11_isP_41 rfl ?_
        refine a_icmp_ne (pc := 43) C 51 dX11_isP_43 rfl (fun c12 => ?_) (fun c12 => ?_)
        · replace h := iteT c12 h
          refine a_iconst (pc := 51) C (-1) dX11_isP_51 rfl ?_
          refine a_sub (lv2 := [(0, .ref (X.N.2.1 66))]) [0] rfl ?_
          exact ok_fMd_isP_J52_9 eL hkr hkb C g_fMd_isO g_fMd_isE g_fMd_isA g_fMd_isB g_fMd_isS g_fMd_isP G_fMd_isO G_fMd_isE G_fMd_isA G_fMd_isB G_fMd_isS G_fMd_isP r M0 E _ ih M (-1) h
        · replace h := iteF c12 h
          refine a_bipush (pc := 46) C 15 dX11_isP_46 rfl ?_
          refine a_goto (pc := 48) C 52 dX11_isP_48 rfl ?_
          refine a_sub (lv2 := [(0, .ref (X.N.2.1 66))]) [0] rfl ?_
          exact ok_fMd_isP_J52_9 eL hkr hkb C g_fMd_isO g_fMd_isE g_fMd_isA g_fMd_isB g_fMd_isS g_fMd_isP G_fMd_isO G_fMd_isE G_fMd_isA G_fMd_isB G_fMd_isS G_fMd_isP r M0 E _ ih M 15 h
      · replace h := iteF c9 h
        refine a_bipush (pc := 32) C 14 dX11_isP_32 rfl ?_
        refine a_goto (pc := 34) C 52 dX11_isP_34 rfl ?_
        refine a_sub (lv2 := [(0, .ref (X.N.2.1 66))]) [0] rfl ?_
        exact ok_fMd_isP_J52_9 eL hkr hkb C g_fMd_isO g_fMd_isE g_fMd_isA g_fMd_isB g_fMd_isS g_fMd_isP G_fMd_isO G_fMd_isE G_fMd_isA G_fMd_isB G_fMd_isS G_fMd_isP r M0 E _ ih M 14 h
    · replace h := iteF c6 h
      refine a_bipush (pc := 18) C 13 dX11_isP_18 rfl ?_
      refine a_goto (pc := 20) C 52 dX11_isP_20 rfl ?_
      refine a_sub (lv2 := [(0, .ref (X.N.2.1 66))]) [0] rfl ?_
      exact ok_fMd_isP_J52_9 eL hkr hkb C g_fMd_isO g_fMd_isE g_fMd_isA g_fMd_isB g_fMd_isS g_fMd_isP G_fMd_isO G_fMd_isE G_fMd_isA G_fMd_isB G_fMd_isS G_fMd_isP r M0 E _ ih M 13 h
set_option maxHeartbeats 200000 in
set_option maxRecDepth 100000 in
theorem ok_fMd_isP_F (l : Launch) (N : Rig) {kr kc : Nat} (hkr : Nat.ble (kr + 1) kc = true) (hkb : Nat.ble 2 kc = true) (g_fMd_isO : Mem → Option (Int32 × Mem)) (g_fMd_isE : Mem → Option (Int32 × Mem)) (g_fMd_isA : Mem → Option (Int32 × Mem)) (g_fMd_isB : Mem → Option (Int32 × Mem)) (g_fMd_isS : Mem → Option (Int32 × Mem)) (g_fMd_isP : Mem → Option (Int32 × Mem)) (G_fMd_isO : ∀ (M : Mem) {r : Int32} {M0 : Mem}, g_fMd_isO M = some (r, M0) → Ct l N yX11_isO cX11_isO 3 (some .boolean) kr [.ref (N.2.1 66)] M (QcI N (some .boolean) r M0)) (G_fMd_isE : ∀ (M : Mem) {r : Int32} {M0 : Mem}, g_fMd_isE M = some (r, M0) → Ct l N yX11_isE cX11_isE 1 (some .boolean) kr [.ref (N.2.1 66)] M (QcI N (some .boolean) r M0)) (G_fMd_isA : ∀ (M : Mem) {r : Int32} {M0 : Mem}, g_fMd_isA M = some (r, M0) → Ct l N yX11_isA cX11_isA 1 (some .boolean) kr [.ref (N.2.1 66)] M (QcI N (some .boolean) r M0)) (G_fMd_isB : ∀ (M : Mem) {r : Int32} {M0 : Mem}, g_fMd_isB M = some (r, M0) → Ct l N yX11_isB cX11_isB 2 (some .boolean) kr [.ref (N.2.1 66)] M (QcI N (some .boolean) r M0)) (G_fMd_isS : ∀ (M : Mem) {r : Int32} {M0 : Mem}, g_fMd_isS M = some (r, M0) → Ct l N yX11_isS cX11_isS 2 (some .boolean) kr [.ref (N.2.1 66)] M (QcI N (some .boolean) r M0)) (G_fMd_isP : ∀ (M : Mem) {r : Int32} {M0 : Mem}, g_fMd_isP M = some (r, M0) → Ct l N yX11_isP cX11_isP 2 (some .boolean) kr [.ref (N.2.1 66)] M (QcI N (some .boolean) r M0)) (M : Mem) (r : Int32) (M0 : Mem) (h : fMd_isP_F g_fMd_isO g_fMd_isE g_fMd_isA g_fMd_isB g_fMd_isS g_fMd_isP M = some (r, M0)) : Ct l N yX11_isP cX11_isP 2 (some .boolean) kc [.ref (N.2.1 66)] M (QcI N (some .boolean) r M0) := by
  refine ct_of (by decide) rfl ?_
  intro X el eN eL C E
  subst el
  subst eN
  unfold fMd_isP_F at h
  show WA X M [(0, .ref (X.N.2.1 66))] 0 []
  refine a_aload_n (pc := 0) C dX11_isP_0 rfl 0 rfl ?_
  obtain ⟨q1, eq1, h⟩ := bndS h
  refine a_callVI (pc := 1) C [] (G_fMd_isO M eq1) hkr mw_X11_isO wd_1306 rfl rfl rfl rfl rfl rfl rfl dX11_isP_1 (fun z2 => ?_)
  refine a_if_ne (pc := 4) C 9 dX11_isP_4 rfl (fun c3 => ?_) (fun c3 => ?_)
  · replace h := iteT c3 h
    refine a_sub (lv2 := [(0, .ref (X.N.2.1 66))]) [0] rfl ?_
    exact ok_fMd_isP_L9 eL hkr hkb C g_fMd_isO g_fMd_isE g_fMd_isA g_fMd_isB g_fMd_isS g_fMd_isP G_fMd_isO G_fMd_isE G_fMd_isA G_fMd_isB G_fMd_isS G_fMd_isP r M0 E FU q1.2 h
  · replace h := iteF c3 h
    refine a_iconst (pc := 7) C 0 dX11_isP_7 rfl ?_
    exact a_iret (pc := 8) C E rfl (som1 h) (som2 h) dX11_isP_8
theorem ok_rec_fMd_isO (l : Launch) (N : Rig) : ∀ n : Nat, (∀ (M : Mem) {r : Int32} {M0 : Mem}, (rec_fMd_isO n).1 M = some (r, M0) → Ct l N yX11_isO cX11_isO 3 (some .boolean) (2 + n) [.ref (N.2.1 66)] M (QcI N (some .boolean) r M0)) ∧ (∀ (M : Mem) {r : Int32} {M0 : Mem}, (rec_fMd_isO n).2.1 M = some (r, M0) → Ct l N yX11_isE cX11_isE 1 (some .boolean) (2 + n) [.ref (N.2.1 66)] M (QcI N (some .boolean) r M0)) ∧ (∀ (M : Mem) {r : Int32} {M0 : Mem}, (rec_fMd_isO n).2.2.1 M = some (r, M0) → Ct l N yX11_isA cX11_isA 1 (some .boolean) (2 + n) [.ref (N.2.1 66)] M (QcI N (some .boolean) r M0)) ∧ (∀ (M : Mem) {r : Int32} {M0 : Mem}, (rec_fMd_isO n).2.2.2.1 M = some (r, M0) → Ct l N yX11_isB cX11_isB 2 (some .boolean) (2 + n) [.ref (N.2.1 66)] M (QcI N (some .boolean) r M0)) ∧ (∀ (M : Mem) {r : Int32} {M0 : Mem}, (rec_fMd_isO n).2.2.2.2.1 M = some (r, M0) → Ct l N yX11_isS cX11_isS 2 (some .boolean) (2 + n) [.ref (N.2.1 66)] M (QcI N (some .boolean) r M0)) ∧ (∀ (M : Mem) {r : Int32} {M0 : Mem}, (rec_fMd_isO n).2.2.2.2.2 M = some (r, M0) → Ct l N yX11_isP cX11_isP 2 (some .boolean) (2 + n) [.ref (N.2.1 66)] M (QcI N (some .boolean) r M0)) := by
  intro n
  induction n with
  | zero => exact ⟨(by intro _ _ _ h; cases h), (by intro _ _ _ h; cases h), (by intro _ _ _ h; cases h), (by intro _ _ _ h; cases h), (by intro _ _ _ h; cases h), (by intro _ _ _ h; cases h)⟩
  | succ n ih => exact ⟨fun M r M0 h => ok_fMd_isO_F l N (kr := 2 + n) (kc := 2 + (n + 1)) (Nat.ble_eq.mpr (by omega)) (Nat.ble_eq.mpr (by omega)) (rec_fMd_isO n).1 (rec_fMd_isO n).2.1 (rec_fMd_isO n).2.2.1 (rec_fMd_isO n).2.2.2.1 (rec_fMd_isO n).2.2.2.2.1 (rec_fMd_isO n).2.2.2.2.2 ih.1 ih.2.1 ih.2.2.1 ih.2.2.2.1 ih.2.2.2.2.1 ih.2.2.2.2.2 M r M0 h, fun M r M0 h => ok_fMd_isE_F l N (kr := 2 + n) (kc := 2 + (n + 1)) (Nat.ble_eq.mpr (by omega)) (Nat.ble_eq.mpr (by omega)) (rec_fMd_isO n).1 (rec_fMd_isO n).2.1 (rec_fMd_isO n).2.2.1 (rec_fMd_isO n).2.2.2.1 (rec_fMd_isO n).2.2.2.2.1 (rec_fMd_isO n).2.2.2.2.2 ih.1 ih.2.1 ih.2.2.1 ih.2.2.2.1 ih.2.2.2.2.1 ih.2.2.2.2.2 M r M0 h, fun M r M0 h => ok_fMd_isA_F l N (kr := 2 + n) (kc := 2 + (n + 1)) (Nat.ble_eq.mpr (by omega)) (Nat.ble_eq.mpr (by omega)) (rec_fMd_isO n).1 (rec_fMd_isO n).2.1 (rec_fMd_isO n).2.2.1 (rec_fMd_isO n).2.2.2.1 (rec_fMd_isO n).2.2.2.2.1 (rec_fMd_isO n).2.2.2.2.2 ih.1 ih.2.1 ih.2.2.1 ih.2.2.2.1 ih.2.2.2.2.1 ih.2.2.2.2.2 M r M0 h, fun M r M0 h => ok_fMd_isB_F l N (kr := 2 + n) (kc := 2 + (n + 1)) (Nat.ble_eq.mpr (by omega)) (Nat.ble_eq.mpr (by omega)) (rec_fMd_isO n).1 (rec_fMd_isO n).2.1 (rec_fMd_isO n).2.2.1 (rec_fMd_isO n).2.2.2.1 (rec_fMd_isO n).2.2.2.2.1 (rec_fMd_isO n).2.2.2.2.2 ih.1 ih.2.1 ih.2.2.1 ih.2.2.2.1 ih.2.2.2.2.1 ih.2.2.2.2.2 M r M0 h, fun M r M0 h => ok_fMd_isS_F l N (kr := 2 + n) (kc := 2 + (n + 1)) (Nat.ble_eq.mpr (by omega)) (Nat.ble_eq.mpr (by omega)) (rec_fMd_isO n).1 (rec_fMd_isO n).2.1 (rec_fMd_isO n).2.2.1 (rec_fMd_isO n).2.2.2.1 (rec_fMd_isO n).2.2.2.2.1 (rec_fMd_isO n).2.2.2.2.2 ih.1 ih.2.1 ih.2.2.1 ih.2.2.2.1 ih.2.2.2.2.1 ih.2.2.2.2.2 M r M0 h, fun M r M0 h => ok_fMd_isP_F l N (kr := 2 + n) (kc := 2 + (n + 1)) (Nat.ble_eq.mpr (by omega)) (Nat.ble_eq.mpr (by omega)) (rec_fMd_isO n).1 (rec_fMd_isO n).2.1 (rec_fMd_isO n).2.2.1 (rec_fMd_isO n).2.2.2.1 (rec_fMd_isO n).2.2.2.2.1 (rec_fMd_isO n).2.2.2.2.2 ih.1 ih.2.1 ih.2.2.1 ih.2.2.2.1 ih.2.2.2.2.1 ih.2.2.2.2.2 M r M0 h⟩
theorem ok_fMd_isO (l : Launch) (N : Rig) (M : Mem) {r : Int32} {M0 : Mem} (h : fMd_isO M = some (r, M0)) : Ct l N yX11_isO cX11_isO 3 (some .boolean) 102 [.ref (N.2.1 66)] M (QcI N (some .boolean) r M0) := (ok_rec_fMd_isO l N 100).1 M h
theorem ok_fMd_isE (l : Launch) (N : Rig) (M : Mem) {r : Int32} {M0 : Mem} (h : fMd_isE M = some (r, M0)) : Ct l N yX11_isE cX11_isE 1 (some .boolean) 102 [.ref (N.2.1 66)] M (QcI N (some .boolean) r M0) := (ok_rec_fMd_isO l N 100).2.1 M h
theorem ok_fMd_isA (l : Launch) (N : Rig) (M : Mem) {r : Int32} {M0 : Mem} (h : fMd_isA M = some (r, M0)) : Ct l N yX11_isA cX11_isA 1 (some .boolean) 102 [.ref (N.2.1 66)] M (QcI N (some .boolean) r M0) := (ok_rec_fMd_isO l N 100).2.2.1 M h
theorem ok_fMd_isB (l : Launch) (N : Rig) (M : Mem) {r : Int32} {M0 : Mem} (h : fMd_isB M = some (r, M0)) : Ct l N yX11_isB cX11_isB 2 (some .boolean) 102 [.ref (N.2.1 66)] M (QcI N (some .boolean) r M0) := (ok_rec_fMd_isO l N 100).2.2.2.1 M h
theorem ok_fMd_isS (l : Launch) (N : Rig) (M : Mem) {r : Int32} {M0 : Mem} (h : fMd_isS M = some (r, M0)) : Ct l N yX11_isS cX11_isS 2 (some .boolean) 102 [.ref (N.2.1 66)] M (QcI N (some .boolean) r M0) := (ok_rec_fMd_isO l N 100).2.2.2.2.1 M h
theorem ok_fMd_isP (l : Launch) (N : Rig) (M : Mem) {r : Int32} {M0 : Mem} (h : fMd_isP M = some (r, M0)) : Ct l N yX11_isP cX11_isP 2 (some .boolean) 102 [.ref (N.2.1 66)] M (QcI N (some .boolean) r M0) := (ok_rec_fMd_isO l N 100).2.2.2.2.2 M h
set_option maxHeartbeats 200000 in
set_option maxRecDepth 100000 in
theorem ok_fMd_isLine_J71 {X : Amb} (eL : X.nL = 1) (C : Cx X RX11 cX11_isLine 103) (r : Int32) (M0 : Mem) (E : En X (some .boolean) (QcI X.N (some .boolean) r M0)) (M : Mem) (h : fMd_isLine_J71 M = some (r, M0)) : WA X M [(0, .ref (X.N.2.1 66))] 71 [] := by
  unfold fMd_isLine_J71 at h
  refine a_aload_n (pc := 71) C dX11_isLine_71 rfl 0 rfl ?_
  refine gf_11_20 (pc := 72) C wd_1097 dX11_isLine_72 ?_
  refine a_aload_n (pc := 75) C dX11_isLine_75 rfl 0 rfl ?_
  refine a_dup (pc := 76) C dX11_isLine_76 rfl ?_
  refine gf_11_17 (pc := 77) C wd_1094 dX11_isLine_77 ?_
  refine a_dup_x1 (pc := 80) C dX11_isLine_80 rfl rfl ?_
  refine a_iconst (pc := 81) C 1 dX11_isLine_81 rfl ?_
  refine a_iadd (pc := 82) C dX11_isLine_82 ?_
  refine pf_11_17 (pc := 83) C wd_1094 dX11_isLine_83 ?_
  refine a_aload_n (pc := 86) C dX11_isLine_86 rfl 0 rfl ?_
  refine gf_11_16 (pc := 87) C wd_1093 dX11_isLine_87 ?_
  obtain ⟨M10, eM10, h⟩ := bndS h
  refine a_iast (pc := 90) C rfl eM10 dX11_isLine_90 ?_
  refine a_iconst (pc := 91) C 1 dX11_isLine_91 rfl ?_
  exact a_iret (pc := 92) C E rfl (som1 h) (som2 h) dX11_isLine_92
set_option maxHeartbeats 200000 in
set_option maxRecDepth 100000 in
theorem ok_fMd_isLine (l : Launch) (N : Rig) (M : Mem) {r : Int32} {M0 : Mem} (h : fMd_isLine M = some (r, M0)) : Ct l N yX11_isLine cX11_isLine 1 (some .boolean) 103 [.ref (N.2.1 66)] M (QcI N (some .boolean) r M0) := by
  refine ct_of (by decide) rfl ?_
  intro X el eN eL C E
  subst el
  subst eN
  unfold fMd_isLine at h
  show WA X M [(0, .ref (X.N.2.1 66))] 0 []
  refine a_aload_n (pc := 0) C dX11_isLine_0 rfl 0 rfl ?_
  refine gf_11_18 (pc := 1) C wd_1095 dX11_isLine_1 ?_
  refine a_aload_n (pc := 4) C dX11_isLine_4 rfl 0 rfl ?_
  refine gf_11_17 (pc := 5) C wd_1094 dX11_isLine_5 ?_
  refine a_aload_n (pc := 8) C dX11_isLine_8 rfl 0 rfl ?_
  refine gf_11_16 (pc := 9) C wd_1093 dX11_isLine_9 ?_
  obtain ⟨M1, eM1, h⟩ := bndS h
  refine a_iast (pc := 12) C rfl eM1 dX11_isLine_12 ?_
  refine a_aload_n (pc := 13) C dX11_isLine_13 rfl 0 rfl ?_
  obtain ⟨q2, eq2, h⟩ := bndS h
  refine a_callVI (pc := 14) C [] (ok_fMd_isE X.l X.N M1 eq2) rfl mw_X11_isE wd_1286 rfl rfl rfl rfl rfl rfl rfl dX11_isLine_14 (fun z3 => ?_)
  refine a_if_ne (pc := 17) C 22 dX11_isLine_17 rfl (fun c4 => ?_) (fun c4 => ?_)
  · replace h := iteT c4 h
    refine a_aload_n (pc := 22) C dX11_isLine_22 rfl 0 rfl ?_
    refine gf_11_19 (pc := 23) C wd_1096 dX11_isLine_23 ?_
    refine a_aload_n (pc := 26) C dX11_isLine_26 rfl 0 rfl ?_
    refine gf_11_17 (pc := 27) C wd_1094 dX11_isLine_27 ?_
    refine a_aload_n (pc := 30) C dX11_isLine_30 rfl 0 rfl ?_
    refine gf_11_18 (pc := 31) C wd_1095 dX11_isLine_31 ?_
    refine a_aload_n (pc := 34) C dX11_isLine_34 rfl 0 rfl ?_
    refine gf_11_17 (pc := 35) C wd_1094 dX11_isLine_35 ?_
    obtain ⟨v5, ev5, h⟩ := bndS h
    refine a_iald (pc := 38) C rfl ev5 dX11_isLine_38 ?_
    obtain ⟨M6, eM6, h⟩ := bndS h
    refine a_iast (pc := 39) C rfl eM6 dX11_isLine_39 ?_
    refine a_aload_n (pc := 40) C dX11_isLine_40 rfl 0 rfl ?_
    refine a_bipush (pc := 41) C 63 dX11_isLine_41 rfl ?_
    obtain ⟨q7, eq7, h⟩ := bndS h
    refine a_callVI (pc := 43) C [.int 63] (ok_fMd_is X.l X.N M6 63 eq7) rfl mw_X11_is wd_1325 rfl rfl rfl rfl rfl rfl rfl dX11_isLine_43 (fun z8 => ?_)
    refine a_if_eq (pc := 46) C 71 dX11_isLine_46 rfl (fun c9 => ?_) (fun c9 => ?_)
    · replace h := iteT c9 h
      refine a_sub (lv2 := [(0, .ref (X.N.2.1 66))]) [0] rfl ?_
      exact ok_fMd_isLine_J71 eL C r M0 E q7.2 h
    · replace h := iteF c9 h
      refine a_aload_n (pc := 49) C dX11_isLine_49 rfl 0 rfl ?_
      refine gf_11_19 (pc := 50) C wd_1096 dX11_isLine_50 ?_
      refine a_aload_n (pc := 53) C dX11_isLine_53 rfl 0 rfl ?_
      refine gf_11_17 (pc := 54) C wd_1094 dX11_isLine_54 ?_
      refine a_aload_n (pc := 57) C dX11_isLine_57 rfl 0 rfl ?_
      refine gf_11_16 (pc := 58) C wd_1093 dX11_isLine_58 ?_
      obtain ⟨M11, eM11, h⟩ := bndS h
      refine a_iast (pc := 61) C rfl eM11 dX11_isLine_61 ?_
      refine a_aload_n (pc := 62) C dX11_isLine_62 rfl 0 rfl ?_
      obtain ⟨q12, eq12, h⟩ := bndS h
      refine a_callVI (pc := 63) C [] (ok_fMd_isE X.l X.N M11 eq12) rfl mw_X11_isE wd_1286 rfl rfl rfl rfl rfl rfl rfl dX11_isLine_63 (fun z13 => ?_)
      refine a_if_ne (pc := 66) C 71 dX11_isLine_66 rfl (fun c14 => ?_) (fun c14 => ?_)
      · replace h := iteT c14 h
        refine a_sub (lv2 := [(0, .ref (X.N.2.1 66))]) [0] rfl ?_
        exact ok_fMd_isLine_J71 eL C r M0 E q12.2 h
      · replace h := iteF c14 h
        refine a_iconst (pc := 69) C 0 dX11_isLine_69 rfl ?_
        exact a_iret (pc := 70) C E rfl (som1 h) (som2 h) dX11_isLine_70
  · replace h := iteF c4 h
    refine a_iconst (pc := 20) C 0 dX11_isLine_20 rfl ?_
    exact a_iret (pc := 21) C E rfl (som1 h) (som2 h) dX11_isLine_21
set_option maxHeartbeats 200000 in
set_option maxRecDepth 100000 in
theorem ok_fMd_law_L25 {X : Amb} (eL : X.nL = 4) (C : Cx X RX11 cX11_law 104) (o : Mem × Int32) (K : WA X o.1 [(0, .ref (X.N.2.1 66)), (1, .int o.2)] 46 []) : ∀ (n : Nat) (M : Mem) (x1 : Int32), fMd_law_L25 n M x1 = some o → WA X M [(0, .ref (X.N.2.1 66)), (1, .int x1)] 25 [] := by
  intro n
  induction n with
  | zero => intro _ _ h; cases h
  | succ n ih =>
    intro M x1 h
    replace h : fMd_law_L25_F (fMd_law_L25 n) M x1 = some o := h
    unfold fMd_law_L25_F at h
    refine a_iload_n (pc := 25) C dX11_law_25 rfl 1 rfl ?_
    refine a_if_eq (pc := 26) C 46 dX11_law_26 rfl (fun c3 => ?_) (fun c3 => ?_)
    · replace h := iteT c3 h
      refine a_sub (lv2 := [(0, .ref (X.N.2.1 66)), (1, .int x1)]) [0, 1] rfl ?_
      cases somI h
      exact K
    · replace h := iteF c3 h
      refine a_aload_n (pc := 29) C dX11_law_29 rfl 0 rfl ?_
      refine a_bipush (pc := 30) C 59 dX11_law_30 rfl ?_
      obtain ⟨q4, eq4, h⟩ := bndS h
      refine a_callVI (pc := 32) C [.int 59] (ok_fMd_is X.l X.N M 59 eq4) rfl mw_X11_is wd_1325 rfl rfl rfl rfl rfl rfl rfl dX11_law_32 (fun z5 => ?_)
      refine a_if_eq (pc := 35) C 46 dX11_law_35 rfl (fun c6 => ?_) (fun c6 => ?_)
      · replace h := iteT c6 h
        refine a_sub (lv2 := [(0, .ref (X.N.2.1 66)), (1, .int x1)]) [0, 1] rfl ?_
        cases somI h
        exact K
      · replace h := iteF c6 h
        refine a_aload_n (pc := 38) C dX11_law_38 rfl 0 rfl ?_
        obtain ⟨q7, eq7, h⟩ := bndS h
        refine a_callVI (pc := 39) C [] (ok_fMd_isLine X.l X.N q4.2 eq7) rfl mw_X11_isLine wd_1282 rfl rfl rfl rfl rfl rfl rfl dX11_law_39 (fun z8 => ?_)
        refine a_istore_n (pc := 42) C [(1, .int q7.1), (0, .ref (X.N.2.1 66))] dX11_law_42 rfl (nlt eL rfl) rfl ?_
        refine a_goto (pc := 43) C 25 dX11_law_43 rfl ?_
        refine a_sub [1, 0] rfl ?_
        exact ih q7.2 q7.1 h
set_option maxHeartbeats 200000 in
set_option maxRecDepth 100000 in
theorem ok_fMd_law_L99 {X : Amb} (eL : X.nL = 4) (C : Cx X RX11 cX11_law 104) (o : Mem) (K : WA X o [(0, .ref (X.N.2.1 66))] 149 []) : ∀ (n : Nat) (M : Mem) (x3 : Int32), fMd_law_L99 n M x3 = some o → WA X M [(0, .ref (X.N.2.1 66)), (3, .int x3)] 99 [] := by
  intro n
  induction n with
  | zero => intro _ _ h; cases h
  | succ n ih =>
    intro M x3 h
    replace h : fMd_law_L99_F (fMd_law_L99 n) M x3 = some o := h
    unfold fMd_law_L99_F at h
    refine a_iload_n (pc := 99) C dX11_law_99 rfl 1 rfl ?_
    refine a_aload_n (pc := 100) C dX11_law_100 rfl 0 rfl ?_
    refine gf_11_9 (pc := 101) C wd_1086 dX11_law_101 ?_
    refine a_icmp_ge (pc := 104) C 149 dX11_law_104 rfl (fun c13 => ?_) (fun c13 => ?_)
    · replace h := iteT c13 h
      refine a_sub (lv2 := [(0, .ref (X.N.2.1 66))]) [0] rfl ?_
      cases somI h
      exact K
    · replace h := iteF c13 h
      refine a_aload_n (pc := 107) C dX11_law_107 rfl 0 rfl ?_
      refine gf_11_10 (pc := 108) C wd_1087 dX11_law_108 ?_
      refine a_iload_n (pc := 111) C dX11_law_111 rfl 1 rfl ?_
      refine a_aload_n (pc := 112) C dX11_law_112 rfl 0 rfl ?_
      refine gf_11_18 (pc := 113) C wd_1095 dX11_law_113 ?_
      refine a_iload_n (pc := 116) C dX11_law_116 rfl 1 rfl ?_
      obtain ⟨v14, ev14, h⟩ := bndS h
      refine a_iald (pc := 117) C rfl ev14 dX11_law_117 ?_
      obtain ⟨M15, eM15, h⟩ := bndS h
      refine a_iast (pc := 118) C rfl eM15 dX11_law_118 ?_
      refine a_aload_n (pc := 119) C dX11_law_119 rfl 0 rfl ?_
      refine gf_11_11 (pc := 120) C wd_1088 dX11_law_120 ?_
      refine a_iload_n (pc := 123) C dX11_law_123 rfl 1 rfl ?_
      refine a_aload_n (pc := 124) C dX11_law_124 rfl 0 rfl ?_
      refine gf_11_19 (pc := 125) C wd_1096 dX11_law_125 ?_
      refine a_iload_n (pc := 128) C dX11_law_128 rfl 1 rfl ?_
      obtain ⟨v16, ev16, h⟩ := bndS h
      refine a_iald (pc := 129) C rfl ev16 dX11_law_129 ?_
      obtain ⟨M17, eM17, h⟩ := bndS h
      refine a_iast (pc := 130) C rfl eM17 dX11_law_130 ?_
      refine a_aload_n (pc := 131) C dX11_law_131 rfl 0 rfl ?_
      refine gf_11_12 (pc := 132) C wd_1089 dX11_law_132 ?_
      refine a_iload_n (pc := 135) C dX11_law_135 rfl 1 rfl ?_
      refine a_aload_n (pc := 136) C dX11_law_136 rfl 0 rfl ?_
      refine gf_11_20 (pc := 137) C wd_1097 dX11_law_137 ?_
      refine a_iload_n (pc := 140) C dX11_law_140 rfl 1 rfl ?_
      obtain ⟨v18, ev18, h⟩ := bndS h
      refine a_iald (pc := 141) C rfl ev18 dX11_law_141 ?_
      obtain ⟨M19, eM19, h⟩ := bndS h
      refine a_iast (pc := 142) C rfl eM19 dX11_law_142 ?_
      refine a_iinc (pc := 143) C 1 (x3 + 1) [(3, .int (x3 + 1)), (0, .ref (X.N.2.1 66))] dX11_law_143 rfl rfl (nlt eL rfl) rfl ?_
      refine a_goto (pc := 146) C 99 dX11_law_146 rfl ?_
      refine a_sub [1, 0] rfl ?_
      exact ih M19 (x3 + 1) h
set_option maxHeartbeats 200000 in
set_option maxRecDepth 100000 in
theorem ok_fMd_law_L151 {X : Amb} (eL : X.nL = 4) (C : Cx X RX11 cX11_law 104) (o : Mem) (K : WA X o [] 177 []) : ∀ (n : Nat) (M : Mem) (x3 : Int32), fMd_law_L151 n M x3 = some o → WA X M [(0, .ref (X.N.2.1 66)), (3, .int x3)] 151 [] := by
  intro n
  induction n with
  | zero => intro _ _ h; cases h
  | succ n ih =>
    intro M x3 h
    replace h : fMd_law_L151_F (fMd_law_L151 n) M x3 = some o := h
    unfold fMd_law_L151_F at h
    refine a_iload_n (pc := 151) C dX11_law_151 rfl 1 rfl ?_
    refine a_aload_n (pc := 152) C dX11_law_152 rfl 0 rfl ?_
    refine gf_11_16 (pc := 153) C wd_1093 dX11_law_153 ?_
    refine a_icmp_ge (pc := 156) C 177 dX11_law_156 rfl (fun c21 => ?_) (fun c21 => ?_)
    · replace h := iteT c21 h
      refine a_sub (lv2 := []) [] rfl ?_
      cases somI h
      exact K
    · replace h := iteF c21 h
      refine a_aload_n (pc := 159) C dX11_law_159 rfl 0 rfl ?_
      refine gf_11_13 (pc := 160) C wd_1090 dX11_law_160 ?_
      refine a_iload_n (pc := 163) C dX11_law_163 rfl 1 rfl ?_
      refine a_aload_n (pc := 164) C dX11_law_164 rfl 0 rfl ?_
      refine gf_11_21 (pc := 165) C wd_1098 dX11_law_165 ?_
      refine a_iload_n (pc := 168) C dX11_law_168 rfl 1 rfl ?_
      obtain ⟨v22, ev22, h⟩ := bndS h
      refine a_iald (pc := 169) C rfl ev22 dX11_law_169 ?_
      obtain ⟨M23, eM23, h⟩ := bndS h
      refine a_iast (pc := 170) C rfl eM23 dX11_law_170 ?_
      refine a_iinc (pc := 171) C 1 (x3 + 1) [(3, .int (x3 + 1)), (0, .ref (X.N.2.1 66))] dX11_law_171 rfl rfl (nlt eL rfl) rfl ?_
      refine a_goto (pc := 174) C 151 dX11_law_174 rfl ?_
      refine a_sub [1, 0] rfl ?_
      exact ih M23 (x3 + 1) h
set_option maxHeartbeats 200000 in
set_option maxRecDepth 100000 in
theorem ok_fMd_law_J66 {X : Amb} (eL : X.nL = 4) (C : Cx X RX11 cX11_law 104) (r : Int32) (M0 : Mem) (E : En X (some .int) (QcI X.N (some .int) r M0)) (M : Mem) (s0 : Int32) (h : fMd_law_J66 M s0 = some (r, M0)) : WA X M [(0, .ref (X.N.2.1 66))] 66 [.int s0] := by
  unfold fMd_law_J66 at h
  refine a_istore_n (pc := 66) C [(2, .int s0), (0, .ref (X.N.2.1 66))] dX11_law_66 rfl (nlt eL rfl) rfl ?_
  refine a_aload_n (pc := 67) C dX11_law_67 rfl 1 rfl ?_
  refine a_iconst (pc := 68) C 0 dX11_law_68 rfl ?_
  refine pf_11_6 (pc := 69) C wd_1083 dX11_law_69 ?_
  refine a_iload_n (pc := 72) C dX11_law_72 rfl 0 rfl ?_
  refine a_if_ne (pc := 73) C 84 dX11_law_73 rfl (fun c11 => ?_) (fun c11 => ?_)
  · replace h := iteT c11 h
    refine a_aload_n (pc := 84) C dX11_law_84 rfl 1 rfl ?_
    refine a_iconst (pc := 85) C 1 dX11_law_85 rfl ?_
    obtain ⟨M12, eM12, h⟩ := bndS h
    refine pf_11_8 (pc := 86) C eM12 wd_1085 dX11_law_86 ?_
    refine a_aload_n (pc := 89) C dX11_law_89 rfl 1 rfl ?_
    refine a_aload_n (pc := 90) C dX11_law_90 rfl 1 rfl ?_
    refine gf_11_17 (pc := 91) C wd_1094 dX11_law_91 ?_
    refine pf_11_9 (pc := 94) C wd_1086 dX11_law_94 ?_
    refine a_iconst (pc := 97) C 0 dX11_law_97 rfl ?_
    refine a_istore_n (pc := 98) C [(3, .int 0), (2, .int s0), (0, .ref (X.N.2.1 66))] dX11_law_98 rfl (nlt eL rfl) rfl ?_
    refine a_sub (lv2 := [(0, .ref (X.N.2.1 66)), (3, .int 0)]) [2, 0] rfl ?_
    obtain ⟨o20, eo20, h⟩ := bndS h
    refine ok_fMd_law_L99 eL C o20 ?_ FU (wI M12 66 9 (M12.1 66 17)) 0 eo20
    refine a_iconst (pc := 149) C 0 dX11_law_149 rfl ?_
    refine a_istore_n (pc := 150) C [(3, .int 0), (0, .ref (X.N.2.1 66))] dX11_law_150 rfl (nlt eL rfl) rfl ?_
    refine a_sub (lv2 := [(0, .ref (X.N.2.1 66)), (3, .int 0)]) [1, 0] rfl ?_
    obtain ⟨o24, eo24, h⟩ := bndS h
    refine ok_fMd_law_L151 eL C o24 ?_ FU o20 0 eo24
    refine a_iconst (pc := 177) C 1 dX11_law_177 rfl ?_
    exact a_iret (pc := 178) C E rfl (som1 h) (som2 h) dX11_law_178
  · replace h := iteF c11 h
    refine a_bipush (pc := 76) C (-100) dX11_law_76 rfl ?_
    refine a_aload_n (pc := 78) C dX11_law_78 rfl 1 rfl ?_
    refine gf_11_14 (pc := 79) C wd_1091 dX11_law_79 ?_
    refine a_isub (pc := 82) C dX11_law_82 ?_
    exact a_iret (pc := 83) C E rfl (som1 h) (som2 h) dX11_law_83
set_option maxHeartbeats 200000 in
set_option maxRecDepth 100000 in
theorem ok_fMd_law_J65 {X : Amb} (eL : X.nL = 4) (C : Cx X RX11 cX11_law 104) (r : Int32) (M0 : Mem) (E : En X (some .int) (QcI X.N (some .int) r M0)) (M : Mem) (h : fMd_law_J65 M = some (r, M0)) : WA X M [(0, .ref (X.N.2.1 66))] 65 [] := by
  unfold fMd_law_J65 at h
  refine a_iconst (pc := 65) C 0 dX11_law_65 rfl ?_
  refine a_sub (lv2 := [(0, .ref (X.N.2.1 66))]) [0] rfl ?_
  exact ok_fMd_law_J66 eL C r M0 E M 0 h
set_option maxHeartbeats 200000 in
set_option maxRecDepth 100000 in
theorem ok_fMd_law_J46 {X : Amb} (eL : X.nL = 4) (C : Cx X RX11 cX11_law 104) (r : Int32) (M0 : Mem) (E : En X (some .int) (QcI X.N (some .int) r M0)) (M : Mem) (x1 : Int32) (h : fMd_law_J46 M x1 = some (r, M0)) : WA X M [(0, .ref (X.N.2.1 66)), (1, .int x1)] 46 [] := by
  unfold fMd_law_J46 at h
  refine a_iload_n (pc := 46) C dX11_law_46 rfl 1 rfl ?_
  refine a_if_eq (pc := 47) C 65 dX11_law_47 rfl (fun c10 => ?_) (fun c10 => ?_)
  · replace h := iteT c10 h
    refine a_sub (lv2 := [(0, .ref (X.N.2.1 66))]) [0] rfl ?_
    exact ok_fMd_law_J65 eL C r M0 E M h
  · replace h := iteF c10 h
    refine a_aload_n (pc := 50) C dX11_law_50 rfl 0 rfl ?_
    refine gf_11_14 (pc := 51) C wd_1091 dX11_law_51 ?_
    refine a_aload_n (pc := 54) C dX11_law_54 rfl 0 rfl ?_
    refine gf_11_6 (pc := 55) C wd_1083 dX11_law_55 ?_
    refine a_icmp_ne (pc := 58) C 65 dX11_law_58 rfl (fun c25 => ?_) (fun c25 => ?_)
    · replace h := iteT c25 h
      refine a_sub (lv2 := [(0, .ref (X.N.2.1 66))]) [0] rfl ?_
      exact ok_fMd_law_J65 eL C r M0 E M h
    · replace h := iteF c25 h
      refine a_iconst (pc := 61) C 1 dX11_law_61 rfl ?_
      refine a_goto (pc := 62) C 66 dX11_law_62 rfl ?_
      refine a_sub (lv2 := [(0, .ref (X.N.2.1 66))]) [0] rfl ?_
      exact ok_fMd_law_J66 eL C r M0 E M 1 h
set_option maxHeartbeats 200000 in
set_option maxRecDepth 100000 in
theorem ok_fMd_law (l : Launch) (N : Rig) (M : Mem) {r : Int32} {M0 : Mem} (h : fMd_law M = some (r, M0)) : Ct l N yX11_law cX11_law 4 (some .int) 104 [.ref (N.2.1 66)] M (QcI N (some .int) r M0) := by
  refine ct_of (by decide) rfl ?_
  intro X el eN eL C E
  subst el
  subst eN
  unfold fMd_law at h
  show WA X M [(0, .ref (X.N.2.1 66))] 0 []
  refine a_aload_n (pc := 0) C dX11_law_0 rfl 0 rfl ?_
  refine a_iconst (pc := 1) C 0 dX11_law_1 rfl ?_
  refine pf_11_14 (pc := 2) C wd_1091 dX11_law_2 ?_
  refine a_aload_n (pc := 5) C dX11_law_5 rfl 0 rfl ?_
  refine a_iconst (pc := 6) C 0 dX11_law_6 rfl ?_
  refine pf_11_15 (pc := 7) C wd_1092 dX11_law_7 ?_
  refine a_aload_n (pc := 10) C dX11_law_10 rfl 0 rfl ?_
  refine a_iconst (pc := 11) C 0 dX11_law_11 rfl ?_
  refine pf_11_16 (pc := 12) C wd_1093 dX11_law_12 ?_
  refine a_aload_n (pc := 15) C dX11_law_15 rfl 0 rfl ?_
  refine a_iconst (pc := 16) C 0 dX11_law_16 rfl ?_
  refine pf_11_17 (pc := 17) C wd_1094 dX11_law_17 ?_
  refine a_aload_n (pc := 20) C dX11_law_20 rfl 0 rfl ?_
  obtain ⟨q1, eq1, h⟩ := bndS h
  refine a_callVI (pc := 21) C [] (ok_fMd_isLine X.l X.N (wI (wI (wI (wI M 66 14 0) 66 15 0) 66 16 0) 66 17 0) eq1) rfl mw_X11_isLine wd_1282 rfl rfl rfl rfl rfl rfl rfl dX11_law_21 (fun z2 => ?_)
  refine a_istore_n (pc := 24) C [(1, .int q1.1), (0, .ref (X.N.2.1 66))] dX11_law_24 rfl (nlt eL rfl) rfl ?_
  refine a_sub (lv2 := [(0, .ref (X.N.2.1 66)), (1, .int q1.1)]) [1, 0] rfl ?_
  obtain ⟨o9, eo9, h⟩ := bndS h
  refine ok_fMd_law_L25 eL C o9 ?_ FU q1.2 q1.1 eo9
  refine a_sub (lv2 := [(0, .ref (X.N.2.1 66)), (1, .int o9.2)]) [0, 1] rfl ?_
  exact ok_fMd_law_J46 eL C r M0 E o9.1 o9.2 h
set_option maxHeartbeats 200000 in
set_option maxRecDepth 100000 in
theorem ok_fMd_both (l : Launch) (N : Rig) (M : Mem) (x0 : Int32) (x1 : Int32) (x2 : Int32) {r : Int32} (h : fMd_both x0 x1 x2 = some r) : Ct l N yX11_both cX11_both 3 (some .int) 0 [.int x0, .int x1, .int x2] M (QcI N (some .int) r M) := by
  refine ct_of (by decide) rfl ?_
  intro X el eN eL C E
  subst el
  subst eN
  unfold fMd_both at h
  show WA X M [(0, .int x0), (1, .int x1), (2, .int x2)] 0 []
  refine a_iload_n (pc := 0) C dX11_both_0 rfl 0 rfl ?_
  by_cases c1 : x0 = 6
  · replace h := iteT c1 h
    refine a_tsw_in (pc := 1) C 6 52 dX11_both_1 c1 (by decide) (by decide) rfl rfl ?_
    refine a_iload_n (pc := 52) C dX11_both_52 rfl 1 rfl ?_
    refine a_if_ne (pc := 53) C 60 dX11_both_53 rfl (fun c2 => ?_) (fun c2 => ?_)
    · replace h := iteT c2 h
      refine a_iconst (pc := 60) C 1 dX11_both_60 rfl ?_
      refine a_goto (pc := 61) C 65 dX11_both_61 rfl ?_
      exact a_iret (pc := 65) C E rfl (somI h) rfl dX11_both_65
    · replace h := iteF c2 h
      refine a_iload_n (pc := 56) C dX11_both_56 rfl 2 rfl ?_
      refine a_if_eq (pc := 57) C 64 dX11_both_57 rfl (fun c3 => ?_) (fun c3 => ?_)
      · replace h := iteT c3 h
        refine a_iconst (pc := 64) C 0 dX11_both_64 rfl ?_
        exact a_iret (pc := 65) C E rfl (somI h) rfl dX11_both_65
      · replace h := iteF c3 h
        refine a_iconst (pc := 60) C 1 dX11_both_60 rfl ?_
        refine a_goto (pc := 61) C 65 dX11_both_61 rfl ?_
        exact a_iret (pc := 65) C E rfl (somI h) rfl dX11_both_65
  replace h := iteF c1 h
  by_cases c4 : x0 = 7
  · replace h := iteT c4 h
    refine a_tsw_in (pc := 1) C 7 66 dX11_both_1 c4 (by decide) (by decide) rfl rfl ?_
    refine a_iload_n (pc := 66) C dX11_both_66 rfl 1 rfl ?_
    refine a_if_eq (pc := 67) C 78 dX11_both_67 rfl (fun c5 => ?_) (fun c5 => ?_)
    · replace h := iteT c5 h
      refine a_iconst (pc := 78) C 0 dX11_both_78 rfl ?_
      exact a_iret (pc := 79) C E rfl (somI h) rfl dX11_both_79
    · replace h := iteF c5 h
      refine a_iload_n (pc := 70) C dX11_both_70 rfl 2 rfl ?_
      refine a_if_eq (pc := 71) C 78 dX11_both_71 rfl (fun c6 => ?_) (fun c6 => ?_)
      · replace h := iteT c6 h
        refine a_iconst (pc := 78) C 0 dX11_both_78 rfl ?_
        exact a_iret (pc := 79) C E rfl (somI h) rfl dX11_both_79
      · replace h := iteF c6 h
        refine a_iconst (pc := 74) C 1 dX11_both_74 rfl ?_
        refine a_goto (pc := 75) C 79 dX11_both_75 rfl ?_
        exact a_iret (pc := 79) C E rfl (somI h) rfl dX11_both_79
  replace h := iteF c4 h
  by_cases c7 : x0 = 8
  · replace h := iteT c7 h
    refine a_tsw_in (pc := 1) C 8 80 dX11_both_1 c7 (by decide) (by decide) rfl rfl ?_
    refine a_iload_n (pc := 80) C dX11_both_80 rfl 1 rfl ?_
    refine a_iload_n (pc := 81) C dX11_both_81 rfl 2 rfl ?_
    refine a_icmp_ge (pc := 82) C 89 dX11_both_82 rfl (fun c8 => ?_) (fun c8 => ?_)
    · replace h := iteT c8 h
      refine a_iconst (pc := 89) C 0 dX11_both_89 rfl ?_
      exact a_iret (pc := 90) C E rfl (somI h) rfl dX11_both_90
    · replace h := iteF c8 h
      refine a_iconst (pc := 85) C 1 dX11_both_85 rfl ?_
      refine a_goto (pc := 86) C 90 dX11_both_86 rfl ?_
      exact a_iret (pc := 90) C E rfl (somI h) rfl dX11_both_90
  replace h := iteF c7 h
  by_cases c9 : x0 = 9
  · replace h := iteT c9 h
    refine a_tsw_in (pc := 1) C 9 91 dX11_both_1 c9 (by decide) (by decide) rfl rfl ?_
    refine a_iload_n (pc := 91) C dX11_both_91 rfl 1 rfl ?_
    refine a_iload_n (pc := 92) C dX11_both_92 rfl 2 rfl ?_
    refine a_icmp_ne (pc := 93) C 100 dX11_both_93 rfl (fun c10 => ?_) (fun c10 => ?_)
    · replace h := iteT c10 h
      refine a_iconst (pc := 100) C 0 dX11_both_100 rfl ?_
      exact a_iret (pc := 101) C E rfl (somI h) rfl dX11_both_101
    · replace h := iteF c10 h
      refine a_iconst (pc := 96) C 1 dX11_both_96 rfl ?_
      refine a_goto (pc := 97) C 101 dX11_both_97 rfl ?_
      exact a_iret (pc := 101) C E rfl (somI h) rfl dX11_both_101
  replace h := iteF c9 h
  by_cases c11 : x0 = 10
  · replace h := iteT c11 h
    refine a_tsw_in (pc := 1) C 10 102 dX11_both_1 c11 (by decide) (by decide) rfl rfl ?_
    refine a_iload_n (pc := 102) C dX11_both_102 rfl 1 rfl ?_
    refine a_iload_n (pc := 103) C dX11_both_103 rfl 2 rfl ?_
    refine a_icmp_le (pc := 104) C 111 dX11_both_104 rfl (fun c12 => ?_) (fun c12 => ?_)
    · replace h := iteT c12 h
      refine a_iconst (pc := 111) C 0 dX11_both_111 rfl ?_
      exact a_iret (pc := 112) C E rfl (somI h) rfl dX11_both_112
    · replace h := iteF c12 h
      refine a_iconst (pc := 107) C 1 dX11_both_107 rfl ?_
      refine a_goto (pc := 108) C 112 dX11_both_108 rfl ?_
      exact a_iret (pc := 112) C E rfl (somI h) rfl dX11_both_112
  replace h := iteF c11 h
  by_cases c13 : x0 = 11
  · replace h := iteT c13 h
    refine a_tsw_in (pc := 1) C 11 113 dX11_both_1 c13 (by decide) (by decide) rfl rfl ?_
    refine a_iload_n (pc := 113) C dX11_both_113 rfl 1 rfl ?_
    refine a_iload_n (pc := 114) C dX11_both_114 rfl 2 rfl ?_
    refine a_iadd (pc := 115) C dX11_both_115 ?_
    exact a_iret (pc := 116) C E rfl (somI h) rfl dX11_both_116
  replace h := iteF c13 h
  by_cases c14 : x0 = 12
  · replace h := iteT c14 h
    refine a_tsw_in (pc := 1) C 12 117 dX11_both_1 c14 (by decide) (by decide) rfl rfl ?_
    refine a_iload_n (pc := 117) C dX11_both_117 rfl 1 rfl ?_
    refine a_iload_n (pc := 118) C dX11_both_118 rfl 2 rfl ?_
    refine a_isub (pc := 119) C dX11_both_119 ?_
    exact a_iret (pc := 120) C E rfl (somI h) rfl dX11_both_120
  replace h := iteF c14 h
  by_cases c15 : x0 = 13
  · replace h := iteT c15 h
    refine a_tsw_in (pc := 1) C 13 121 dX11_both_1 c15 (by decide) (by decide) rfl rfl ?_
    refine a_iload_n (pc := 121) C dX11_both_121 rfl 1 rfl ?_
    refine a_iload_n (pc := 122) C dX11_both_122 rfl 2 rfl ?_
    refine a_imul (pc := 123) C dX11_both_123 ?_
    exact a_iret (pc := 124) C E rfl (somI h) rfl dX11_both_124
  replace h := iteF c15 h
  by_cases c16 : x0 = 14
  · replace h := iteT c16 h
    refine a_tsw_in (pc := 1) C 14 125 dX11_both_1 c16 (by decide) (by decide) rfl rfl ?_
    refine a_iload_n (pc := 125) C dX11_both_125 rfl 2 rfl ?_
    refine a_if_ne (pc := 126) C 133 dX11_both_126 rfl (fun c17 => ?_) (fun c17 => ?_)
    · replace h := iteT c17 h
      refine a_iload_n (pc := 133) C dX11_both_133 rfl 1 rfl ?_
      refine a_iload_n (pc := 134) C dX11_both_134 rfl 2 rfl ?_
      obtain ⟨v18, ev18, h⟩ := bndS h
      obtain ⟨nv18, rfl⟩ := dvI_s ev18
      refine a_idiv (pc := 135) C dX11_both_135 nv18 ?_
      exact a_iret (pc := 136) C E rfl (somI h) rfl dX11_both_136
    · replace h := iteF c17 h
      refine a_iconst (pc := 129) C 0 dX11_both_129 rfl ?_
      refine a_goto (pc := 130) C 136 dX11_both_130 rfl ?_
      exact a_iret (pc := 136) C E rfl (somI h) rfl dX11_both_136
  replace h := iteF c16 h
  refine a_tsw_out (pc := 1) C 137 dX11_both_1 (by have := neI 6 rfl c1; have := neI 7 rfl c4; have := neI 8 rfl c7; have := neI 9 rfl c9; have := neI 10 rfl c11; have := neI 11 rfl c13; have := neI 12 rfl c14; have := neI 13 rfl c15; have := neI 14 rfl c16; omega) rfl ?_
  refine a_iload_n (pc := 137) C dX11_both_137 rfl 2 rfl ?_
  refine a_if_ne (pc := 138) C 145 dX11_both_138 rfl (fun c19 => ?_) (fun c19 => ?_)
  · replace h := iteT c19 h
    refine a_iload_n (pc := 145) C dX11_both_145 rfl 1 rfl ?_
    refine a_iload_n (pc := 146) C dX11_both_146 rfl 2 rfl ?_
    obtain ⟨v20, ev20, h⟩ := bndS h
    obtain ⟨nv20, rfl⟩ := rmIo_s ev20
    refine a_irem (pc := 147) C dX11_both_147 nv20 ?_
    exact a_iret (pc := 148) C E rfl (somI h) rfl dX11_both_148
  · replace h := iteF c19 h
    refine a_iconst (pc := 141) C 0 dX11_both_141 rfl ?_
    refine a_goto (pc := 142) C 148 dX11_both_142 rfl ?_
    exact a_iret (pc := 148) C E rfl (somI h) rfl dX11_both_148
set_option maxHeartbeats 200000 in
set_option maxRecDepth 100000 in
theorem ok_fMd_worked_J33_5 {X : Amb} (eL : X.nL = 6) (C : Cx X RX11 cX11_worked 1) (x2 : Int32) (o : Mem) (K : WA X o [(0, .ref (X.N.2.1 66))] 163 []) (ihf : Mem → Int32 → Int32 → Int32 → Option (Mem)) (ih : ∀ (M : Mem) (x3 : Int32) (x4 : Int32), ihf M x2 x3 x4 = some o → WA X M [(0, .ref (X.N.2.1 66)), (2, .int x2), (3, .int x3), (4, .int x4)] 5 []) (M : Mem) (x3 : Int32) (x4 : Int32) (x5 : Int32) (h : fMd_worked_J33_5 ihf M x2 x3 x4 x5 = some o) : WA X M [(0, .ref (X.N.2.1 66)), (2, .int x2), (3, .int x3), (4, .int x4), (5, .int x5)] 33 [] := by
  unfold fMd_worked_J33_5 at h
  refine a_aload_n (pc := 33) C dX11_worked_33 rfl 0 rfl ?_
  refine gf_11_22 (pc := 34) C wd_1099 dX11_worked_34 ?_
  refine a_iload_n (pc := 37) C dX11_worked_37 rfl 2 rfl ?_
  refine a_iinc (pc := 38) C 2 (x3 + 1) [(3, .int (x3 + 1)), (0, .ref (X.N.2.1 66)), (2, .int x2), (4, .int x4), (5, .int x5)] dX11_worked_38 rfl rfl (nlt eL rfl) rfl ?_
  refine a_iload (pc := 41) C dX11_worked_41 4 rfl ?_
  refine a_bipush (pc := 43) C 18 dX11_worked_43 rfl ?_
  refine a_icmp_lt (pc := 45) C 56 dX11_worked_45 rfl (fun c4 => ?_) (fun c4 => ?_)
  · replace h := iteT c4 h
    refine a_aload_n (pc := 56) C dX11_worked_56 rfl 1 rfl ?_
    refine gf_11_23 (pc := 57) C wd_1100 dX11_worked_57 ?_
    refine a_iload (pc := 60) C dX11_worked_60 4 rfl ?_
    obtain ⟨v5, ev5, h⟩ := bndS h
    refine a_iald (pc := 62) C rfl ev5 dX11_worked_62 ?_
    obtain ⟨M6, eM6, h⟩ := bndS h
    refine a_iast (pc := 63) C rfl eM6 dX11_worked_63 ?_
    refine a_goto (pc := 64) C 157 dX11_worked_64 rfl ?_
    refine a_iinc (pc := 157) C 3 (x4 + 1) [(4, .int (x4 + 1)), (3, .int (x3 + 1)), (0, .ref (X.N.2.1 66)), (2, .int x2), (5, .int x5)] dX11_worked_157 rfl rfl (nlt eL rfl) rfl ?_
    refine a_goto (pc := 160) C 5 dX11_worked_160 rfl ?_
    refine a_sub [2, 3, 1, 0] rfl ?_
    exact ih M6 (x3 + 1) (x4 + 1) h
  · replace h := iteF c4 h
    refine a_iload (pc := 48) C dX11_worked_48 4 rfl ?_
    refine a_bipush (pc := 50) C 18 dX11_worked_50 rfl ?_
    refine a_isub (pc := 52) C dX11_worked_52 ?_
    refine a_goto (pc := 53) C 63 dX11_worked_53 rfl ?_
    obtain ⟨M7, eM7, h⟩ := bndS h
    refine a_iast (pc := 63) C rfl eM7 dX11_worked_63 ?_
    refine a_goto (pc := 64) C 157 dX11_worked_64 rfl ?_
    refine a_iinc (pc := 157) C 3 (x4 + 1) [(4, .int (x4 + 1)), (3, .int (x3 + 1)), (0, .ref (X.N.2.1 66)), (2, .int x2), (5, .int x5)] dX11_worked_157 rfl rfl (nlt eL rfl) rfl ?_
    refine a_goto (pc := 160) C 5 dX11_worked_160 rfl ?_
    refine a_sub [2, 3, 1, 0] rfl ?_
    exact ih M7 (x3 + 1) (x4 + 1) h
set_option maxHeartbeats 200000 in
set_option maxRecDepth 100000 in
theorem ok_fMd_worked_J81_5 {X : Amb} (eL : X.nL = 6) (C : Cx X RX11 cX11_worked 1) (x2 : Int32) (o : Mem) (K : WA X o [(0, .ref (X.N.2.1 66))] 163 []) (ihf : Mem → Int32 → Int32 → Int32 → Option (Mem)) (ih : ∀ (M : Mem) (x3 : Int32) (x4 : Int32), ihf M x2 x3 x4 = some o → WA X M [(0, .ref (X.N.2.1 66)), (2, .int x2), (3, .int x3), (4, .int x4)] 5 []) (M : Mem) (x3 : Int32) (x4 : Int32) (x5 : Int32) (h : fMd_worked_J81_5 ihf M x2 x3 x4 x5 = some o) : WA X M [(0, .ref (X.N.2.1 66)), (2, .int x2), (3, .int x3), (4, .int x4), (5, .int x5)] 81 [] := by
  unfold fMd_worked_J81_5 at h
  refine a_aload_n (pc := 81) C dX11_worked_81 rfl 0 rfl ?_
  refine gf_11_22 (pc := 82) C wd_1099 dX11_worked_82 ?_
  refine a_iload_n (pc := 85) C dX11_worked_85 rfl 2 rfl ?_
  refine a_iconst (pc := 86) C 1 dX11_worked_86 rfl ?_
  refine a_isub (pc := 87) C dX11_worked_87 ?_
  refine a_iload (pc := 88) C dX11_worked_88 4 rfl ?_
  refine a_bipush (pc := 90) C 17 dX11_worked_90 rfl ?_
  refine a_icmp_ne (pc := 92) C 107 dX11_worked_92 rfl (fun c10 => ?_) (fun c10 => ?_)
  · replace h := iteT c10 h
    refine a_aload_n (pc := 107) C dX11_worked_107 rfl 0 rfl ?_
    refine gf_11_22 (pc := 108) C wd_1099 dX11_worked_108 ?_
    refine a_iload_n (pc := 111) C dX11_worked_111 rfl 2 rfl ?_
    refine a_iconst (pc := 112) C 1 dX11_worked_112 rfl ?_
    refine a_isub (pc := 113) C dX11_worked_113 ?_
    obtain ⟨v11, ev11, h⟩ := bndS h
    refine a_iald (pc := 114) C rfl ev11 dX11_worked_114 ?_
    refine a_if_ne (pc := 115) C 122 dX11_worked_115 rfl (fun c12 => ?_) (fun c12 => ?_)
    · replace h := iteT c12 h
      refine a_iconst (pc := 122) C 0 dX11_worked_122 rfl ?_
      obtain ⟨M13, eM13, h⟩ := bndS h
      refine a_iast (pc := 123) C rfl eM13 dX11_worked_123 ?_
      refine a_goto (pc := 124) C 157 dX11_worked_124 rfl ?_
      refine a_iinc (pc := 157) C 3 (x4 + 1) [(4, .int (x4 + 1)), (0, .ref (X.N.2.1 66)), (2, .int x2), (3, .int x3), (5, .int x5)] dX11_worked_157 rfl rfl (nlt eL rfl) rfl ?_
      refine a_goto (pc := 160) C 5 dX11_worked_160 rfl ?_
      refine a_sub [1, 2, 3, 0] rfl ?_
      exact ih M13 x3 (x4 + 1) h
    · replace h := iteF c12 h
      refine a_iconst (pc := 118) C 1 dX11_worked_118 rfl ?_
      refine a_goto (pc := 119) C 123 dX11_worked_119 rfl ?_
      obtain ⟨M14, eM14, h⟩ := bndS h
      refine a_iast (pc := 123) C rfl eM14 dX11_worked_123 ?_
      refine a_goto (pc := 124) C 157 dX11_worked_124 rfl ?_
      refine a_iinc (pc := 157) C 3 (x4 + 1) [(4, .int (x4 + 1)), (0, .ref (X.N.2.1 66)), (2, .int x2), (3, .int x3), (5, .int x5)] dX11_worked_157 rfl rfl (nlt eL rfl) rfl ?_
      refine a_goto (pc := 160) C 5 dX11_worked_160 rfl ?_
      refine a_sub [1, 2, 3, 0] rfl ?_
      exact ih M14 x3 (x4 + 1) h
  · replace h := iteF c10 h
    refine a_aload_n (pc := 95) C dX11_worked_95 rfl 0 rfl ?_
    refine gf_11_22 (pc := 96) C wd_1099 dX11_worked_96 ?_
    refine a_iload_n (pc := 99) C dX11_worked_99 rfl 2 rfl ?_
    refine a_iconst (pc := 100) C 1 dX11_worked_100 rfl ?_
    refine a_isub (pc := 101) C dX11_worked_101 ?_
    obtain ⟨v15, ev15, h⟩ := bndS h
    refine a_iald (pc := 102) C rfl ev15 dX11_worked_102 ?_
    refine a_ineg (pc := 103) C dX11_worked_103 ?_
    refine a_goto (pc := 104) C 123 dX11_worked_104 rfl ?_
    obtain ⟨M16, eM16, h⟩ := bndS h
    refine a_iast (pc := 123) C rfl eM16 dX11_worked_123 ?_
    refine a_goto (pc := 124) C 157 dX11_worked_124 rfl ?_
    refine a_iinc (pc := 157) C 3 (x4 + 1) [(4, .int (x4 + 1)), (0, .ref (X.N.2.1 66)), (2, .int x2), (3, .int x3), (5, .int x5)] dX11_worked_157 rfl rfl (nlt eL rfl) rfl ?_
    refine a_goto (pc := 160) C 5 dX11_worked_160 rfl ?_
    refine a_sub [1, 2, 3, 0] rfl ?_
    exact ih M16 x3 (x4 + 1) h
set_option maxHeartbeats 200000 in
set_option maxRecDepth 100000 in
theorem ok_fMd_worked_L5 {X : Amb} (eL : X.nL = 6) (C : Cx X RX11 cX11_worked 1) (x2 : Int32) (o : Mem) (K : WA X o [(0, .ref (X.N.2.1 66))] 163 []) : ∀ (n : Nat) (M : Mem) (x3 : Int32) (x4 : Int32), fMd_worked_L5 n M x2 x3 x4 = some o → WA X M [(0, .ref (X.N.2.1 66)), (2, .int x2), (3, .int x3), (4, .int x4)] 5 [] := by
  intro n
  induction n with
  | zero => intro _ _ _ h; cases h
  | succ n ih =>
    intro M x3 x4 h
    replace h : fMd_worked_L5_F (fMd_worked_L5 n) M x2 x3 x4 = some o := h
    unfold fMd_worked_L5_F at h
    refine a_iload (pc := 5) C dX11_worked_5 3 rfl ?_
    refine a_iload_n (pc := 7) C dX11_worked_7 rfl 1 rfl ?_
    refine a_icmp_ge (pc := 8) C 163 dX11_worked_8 rfl (fun c1 => ?_) (fun c1 => ?_)
    · replace h := iteT c1 h
      refine a_sub (lv2 := [(0, .ref (X.N.2.1 66))]) [0] rfl ?_
      cases somI h
      exact K
    · replace h := iteF c1 h
      refine a_aload_n (pc := 11) C dX11_worked_11 rfl 0 rfl ?_
      refine gf_11_13 (pc := 12) C wd_1090 dX11_worked_12 ?_
      refine a_iload (pc := 15) C dX11_worked_15 3 rfl ?_
      obtain ⟨v2, ev2, h⟩ := bndS h
      refine a_iald (pc := 17) C rfl ev2 dX11_worked_17 ?_
      refine a_istore (pc := 18) C [(5, .int v2), (0, .ref (X.N.2.1 66)), (2, .int x2), (3, .int x3), (4, .int x4)] dX11_worked_18 (nlt eL rfl) rfl ?_
      refine a_iload (pc := 20) C dX11_worked_20 0 rfl ?_
      refine a_bipush (pc := 22) C 18 dX11_worked_22 rfl ?_
      refine a_icmp_ge (pc := 24) C 33 dX11_worked_24 rfl (fun c3 => ?_) (fun c3 => ?_)
      · replace h := iteT c3 h
        refine a_sub (lv2 := [(0, .ref (X.N.2.1 66)), (2, .int x2), (3, .int x3), (4, .int x4), (5, .int v2)]) [1, 2, 3, 4, 0] rfl ?_
        exact ok_fMd_worked_J33_5 eL C x2 o K _ ih M x3 x4 v2 h
      · replace h := iteF c3 h
        refine a_iload (pc := 27) C dX11_worked_27 0 rfl ?_
        refine a_iconst (pc := 29) C 5 dX11_worked_29 rfl ?_
        refine a_icmp_gt (pc := 30) C 67 dX11_worked_30 rfl (fun c8 => ?_) (fun c8 => ?_)
        · replace h := iteT c8 h
          refine a_iload (pc := 67) C dX11_worked_67 0 rfl ?_
          refine a_bipush (pc := 69) C 16 dX11_worked_69 rfl ?_
          refine a_icmp_eq (pc := 71) C 81 dX11_worked_71 rfl (fun c9 => ?_) (fun c9 => ?_)
          · replace h := iteT c9 h
            refine a_sub (lv2 := [(0, .ref (X.N.2.1 66)), (2, .int x2), (3, .int x3), (4, .int x4), (5, .int v2)]) [1, 2, 3, 4, 0] rfl ?_
            exact ok_fMd_worked_J81_5 eL C x2 o K _ ih M x3 x4 v2 h
          · replace h := iteF c9 h
            refine a_iload (pc := 74) C dX11_worked_74 0 rfl ?_
            refine a_bipush (pc := 76) C 17 dX11_worked_76 rfl ?_
            refine a_icmp_ne (pc := 78) C 127 dX11_worked_78 rfl (fun c17 => ?_) (fun c17 => ?_)
            · replace h := iteT c17 h
              refine a_iinc (pc := 127) C 3 (x3 + (-1)) [(3, .int (x3 + (-1))), (5, .int v2), (0, .ref (X.N.2.1 66)), (2, .int x2), (4, .int x4)] dX11_worked_127 rfl rfl (nlt eL rfl) rfl ?_
              refine a_aload_n (pc := 130) C dX11_worked_130 rfl 2 rfl ?_
              refine gf_11_22 (pc := 131) C wd_1099 dX11_worked_131 ?_
              refine a_iload_n (pc := 134) C dX11_worked_134 rfl 0 rfl ?_
              refine a_iconst (pc := 135) C 1 dX11_worked_135 rfl ?_
              refine a_isub (pc := 136) C dX11_worked_136 ?_
              refine a_iload (pc := 137) C dX11_worked_137 1 rfl ?_
              refine a_aload_n (pc := 139) C dX11_worked_139 rfl 2 rfl ?_
              refine gf_11_22 (pc := 140) C wd_1099 dX11_worked_140 ?_
              refine a_iload_n (pc := 143) C dX11_worked_143 rfl 0 rfl ?_
              refine a_iconst (pc := 144) C 1 dX11_worked_144 rfl ?_
              refine a_isub (pc := 145) C dX11_worked_145 ?_
              obtain ⟨v18, ev18, h⟩ := bndS h
              refine a_iald (pc := 146) C rfl ev18 dX11_worked_146 ?_
              refine a_aload_n (pc := 147) C dX11_worked_147 rfl 2 rfl ?_
              refine gf_11_22 (pc := 148) C wd_1099 dX11_worked_148 ?_
              refine a_iload_n (pc := 151) C dX11_worked_151 rfl 0 rfl ?_
              obtain ⟨v19, ev19, h⟩ := bndS h
              refine a_iald (pc := 152) C rfl ev19 dX11_worked_152 ?_
              obtain ⟨v20, ev20, h⟩ := bndS h
              refine a_callSI (pc := 153) C [.int v2, .int v18, .int v19] (ok_fMd_both X.l X.N M v2 v18 v19 ev20) rfl mw_X11_both wd_1356 rfl rfl rfl dX11_worked_153 (fun z21 => ?_)
              obtain ⟨M22, eM22, h⟩ := bndS h
              refine a_iast (pc := 156) C rfl eM22 dX11_worked_156 ?_
              refine a_iinc (pc := 157) C 4 (x4 + 1) [(4, .int (x4 + 1)), (3, .int (x3 + (-1))), (5, .int v2), (0, .ref (X.N.2.1 66)), (2, .int x2)] dX11_worked_157 rfl rfl (nlt eL rfl) rfl ?_
              refine a_goto (pc := 160) C 5 dX11_worked_160 rfl ?_
              refine a_sub [3, 4, 1, 0] rfl ?_
              exact ih M22 (x3 + (-1)) (x4 + 1) h
            · replace h := iteF c17 h
              refine a_sub (lv2 := [(0, .ref (X.N.2.1 66)), (2, .int x2), (3, .int x3), (4, .int x4), (5, .int v2)]) [1, 2, 3, 4, 0] rfl ?_
              exact ok_fMd_worked_J81_5 eL C x2 o K _ ih M x3 x4 v2 h
        · replace h := iteF c8 h
          refine a_sub (lv2 := [(0, .ref (X.N.2.1 66)), (2, .int x2), (3, .int x3), (4, .int x4), (5, .int v2)]) [1, 2, 3, 4, 0] rfl ?_
          exact ok_fMd_worked_J33_5 eL C x2 o K _ ih M x3 x4 v2 h
set_option maxHeartbeats 200000 in
set_option maxRecDepth 100000 in
theorem ok_fMd_worked (l : Launch) (N : Rig) (M : Mem) (x1 : Int32) (x2 : Int32) {r : Int32} {M0 : Mem} (h : fMd_worked M x1 x2 = some (r, M0)) : Ct l N yX11_worked cX11_worked 6 (some .int) 1 [.ref (N.2.1 66), .int x1, .int x2] M (QcI N (some .int) r M0) := by
  refine ct_of (by decide) rfl ?_
  intro X el eN eL C E
  subst el
  subst eN
  unfold fMd_worked at h
  show WA X M [(0, .ref (X.N.2.1 66)), (1, .int x1), (2, .int x2)] 0 []
  refine a_iconst (pc := 0) C 0 dX11_worked_0 rfl ?_
  refine a_istore_n (pc := 1) C [(3, .int 0), (0, .ref (X.N.2.1 66)), (1, .int x1), (2, .int x2)] dX11_worked_1 rfl (nlt eL rfl) rfl ?_
  refine a_iload_n (pc := 2) C dX11_worked_2 rfl 2 rfl ?_
  refine a_istore (pc := 3) C [(4, .int x1), (3, .int 0), (0, .ref (X.N.2.1 66)), (1, .int x1), (2, .int x2)] dX11_worked_3 (nlt eL rfl) rfl ?_
  refine a_sub (lv2 := [(0, .ref (X.N.2.1 66)), (2, .int x2), (3, .int 0), (4, .int x1)]) [2, 4, 1, 0] rfl ?_
  obtain ⟨o23, eo23, h⟩ := bndS h
  refine ok_fMd_worked_L5 eL C x2 o23 ?_ FU M 0 x1 eo23
  refine a_aload_n (pc := 163) C dX11_worked_163 rfl 0 rfl ?_
  refine gf_11_22 (pc := 164) C wd_1099 dX11_worked_164 ?_
  refine a_iconst (pc := 167) C 0 dX11_worked_167 rfl ?_
  obtain ⟨v24, ev24, h⟩ := bndS h
  refine a_iald (pc := 168) C rfl ev24 dX11_worked_168 ?_
  exact a_iret (pc := 169) C E rfl (som1 h) (som2 h) dX11_worked_169
set_option maxHeartbeats 200000 in
set_option maxRecDepth 100000 in
theorem ok_fMd_beside (l : Launch) (N : Rig) (M : Mem) (x0 : Int32) (x1 : Int32) : Ct l N yX11_beside cX11_beside 2 (some .int) 0 [.int x0, .int x1] M (QcI N (some .int) (fMd_beside x0 x1) M) := by
  obtain ⟨r, h⟩ : ∃ r, fMd_beside x0 x1 = r := ⟨_, rfl⟩
  rw [h]
  refine ct_of (by decide) rfl ?_
  intro X el eN eL C E
  subst el
  subst eN
  unfold fMd_beside at h
  show WA X M [(0, .int x0), (1, .int x1)] 0 []
  refine a_iload_n (pc := 0) C dX11_beside_0 rfl 1 rfl ?_
  by_cases c1 : x1 = 0
  · replace h := iteT c1 h
    refine a_tsw_in (pc := 1) C 0 28 dX11_beside_1 c1 (by decide) (by decide) rfl rfl ?_
    refine a_iload_n (pc := 28) C dX11_beside_28 rfl 0 rfl ?_
    refine a_bipush (pc := 29) C 6 dX11_beside_29 rfl ?_
    refine a_icmp_ge (pc := 31) C 38 dX11_beside_31 rfl (fun c2 => ?_) (fun c2 => ?_)
    · replace h := iteT c2 h
      refine a_iload_n (pc := 38) C dX11_beside_38 rfl 0 rfl ?_
      refine a_bipush (pc := 39) C 6 dX11_beside_39 rfl ?_
      refine a_isub (pc := 41) C dX11_beside_41 ?_
      exact a_iret (pc := 42) C E rfl h rfl dX11_beside_42
    · replace h := iteF c2 h
      refine a_iconst (pc := 34) C (-1) dX11_beside_34 rfl ?_
      refine a_goto (pc := 35) C 42 dX11_beside_35 rfl ?_
      exact a_iret (pc := 42) C E rfl h rfl dX11_beside_42
  replace h := iteF c1 h
  by_cases c3 : x1 = 1
  · replace h := iteT c3 h
    refine a_tsw_in (pc := 1) C 1 43 dX11_beside_1 c3 (by decide) (by decide) rfl rfl ?_
    refine a_iload_n (pc := 43) C dX11_beside_43 rfl 0 rfl ?_
    refine a_bipush (pc := 44) C 6 dX11_beside_44 rfl ?_
    refine a_irem (pc := 46) C dX11_beside_46 (by decide) ?_
    refine a_iconst (pc := 47) C 5 dX11_beside_47 rfl ?_
    refine a_icmp_ne (pc := 48) C 55 dX11_beside_48 rfl (fun c4 => ?_) (fun c4 => ?_)
    · replace h := iteT c4 h
      refine a_iload_n (pc := 55) C dX11_beside_55 rfl 0 rfl ?_
      refine a_iconst (pc := 56) C 1 dX11_beside_56 rfl ?_
      refine a_iadd (pc := 57) C dX11_beside_57 ?_
      exact a_iret (pc := 58) C E rfl h rfl dX11_beside_58
    · replace h := iteF c4 h
      refine a_iconst (pc := 51) C (-1) dX11_beside_51 rfl ?_
      refine a_goto (pc := 52) C 58 dX11_beside_52 rfl ?_
      exact a_iret (pc := 58) C E rfl h rfl dX11_beside_58
  replace h := iteF c3 h
  by_cases c5 : x1 = 2
  · replace h := iteT c5 h
    refine a_tsw_in (pc := 1) C 2 59 dX11_beside_1 c5 (by decide) (by decide) rfl rfl ?_
    refine a_iload_n (pc := 59) C dX11_beside_59 rfl 0 rfl ?_
    refine a_bipush (pc := 60) C 30 dX11_beside_60 rfl ?_
    refine a_icmp_lt (pc := 62) C 69 dX11_beside_62 rfl (fun c6 => ?_) (fun c6 => ?_)
    · replace h := iteT c6 h
      refine a_iload_n (pc := 69) C dX11_beside_69 rfl 0 rfl ?_
      refine a_bipush (pc := 70) C 6 dX11_beside_70 rfl ?_
      refine a_iadd (pc := 72) C dX11_beside_72 ?_
      exact a_iret (pc := 73) C E rfl h rfl dX11_beside_73
    · replace h := iteF c6 h
      refine a_iconst (pc := 65) C (-1) dX11_beside_65 rfl ?_
      refine a_goto (pc := 66) C 73 dX11_beside_66 rfl ?_
      exact a_iret (pc := 73) C E rfl h rfl dX11_beside_73
  replace h := iteF c5 h
  refine a_tsw_out (pc := 1) C 74 dX11_beside_1 (by have := neI 0 rfl c1; have := neI 1 rfl c3; have := neI 2 rfl c5; omega) rfl ?_
  refine a_iload_n (pc := 74) C dX11_beside_74 rfl 0 rfl ?_
  refine a_bipush (pc := 75) C 6 dX11_beside_75 rfl ?_
  refine a_irem (pc := 77) C dX11_beside_77 (by decide) ?_
  refine a_if_ne (pc := 78) C 85 dX11_beside_78 rfl (fun c7 => ?_) (fun c7 => ?_)
  · replace h := iteT c7 h
    refine a_iload_n (pc := 85) C dX11_beside_85 rfl 0 rfl ?_
    refine a_iconst (pc := 86) C 1 dX11_beside_86 rfl ?_
    refine a_isub (pc := 87) C dX11_beside_87 ?_
    exact a_iret (pc := 88) C E rfl h rfl dX11_beside_88
  · replace h := iteF c7 h
    refine a_iconst (pc := 81) C (-1) dX11_beside_81 rfl ?_
    refine a_goto (pc := 82) C 88 dX11_beside_82 rfl ?_
    exact a_iret (pc := 88) C E rfl h rfl dX11_beside_88
set_option maxHeartbeats 200000 in
set_option maxRecDepth 100000 in
theorem ok_fMd_below_L4 {X : Amb} (eL : X.nL = 5) (C : Cx X RX11 cX11_below 1) (x1 : Int32) (M : Mem) (o : Int32) (K : WA X M [(2, .int o)] 66 []) : ∀ (n : Nat) (x2 : Int32) (x3 : Int32), fMd_below_L4 n M x1 x2 x3 = some o → WA X M [(0, .ref (X.N.2.1 66)), (1, .int x1), (2, .int x2), (3, .int x3)] 4 [] := by
  intro n
  induction n with
  | zero => intro _ _ h; cases h
  | succ n ih =>
    intro x2 x3 h
    replace h : fMd_below_L4_F (fMd_below_L4 n) M x1 x2 x3 = some o := h
    unfold fMd_below_L4_F at h
    refine a_iload_n (pc := 4) C dX11_below_4 rfl 3 rfl ?_
    refine a_iconst (pc := 5) C 4 dX11_below_5 rfl ?_
    refine a_icmp_ge (pc := 6) C 66 dX11_below_6 rfl (fun c1 => ?_) (fun c1 => ?_)
    · replace h := iteT c1 h
      refine a_sub (lv2 := [(2, .int x2)]) [2] rfl ?_
      cases somI h
      exact K
    · replace h := iteF c1 h
      refine a_iload_n (pc := 9) C dX11_below_9 rfl 1 rfl ?_
      refine a_iload_n (pc := 10) C dX11_below_10 rfl 3 rfl ?_
      refine a_callSI (pc := 11) C [.int x1, .int x3] (ok_fMd_beside X.l X.N M x1 x3) rfl mw_X11_beside wd_1337 rfl rfl rfl dX11_below_11 (fun z2 => ?_)
      refine a_istore (pc := 14) C [(4, .int (fMd_beside x1 x3)), (0, .ref (X.N.2.1 66)), (1, .int x1), (2, .int x2), (3, .int x3)] dX11_below_14 (nlt eL rfl) rfl ?_
      refine a_iload (pc := 16) C dX11_below_16 0 rfl ?_
      refine a_if_lt (pc := 18) C 60 dX11_below_18 rfl (fun c3 => ?_) (fun c3 => ?_)
      · replace h := iteT c3 h
        refine a_iinc (pc := 60) C 4 (x3 + 1) [(3, .int (x3 + 1)), (4, .int (fMd_beside x1 x3)), (0, .ref (X.N.2.1 66)), (1, .int x1), (2, .int x2)] dX11_below_60 rfl rfl (nlt eL rfl) rfl ?_
        refine a_goto (pc := 63) C 4 dX11_below_63 rfl ?_
        refine a_sub [2, 3, 4, 0] rfl ?_
        exact ih x2 (x3 + 1) h
      · replace h := iteF c3 h
        refine a_aload_n (pc := 21) C dX11_below_21 rfl 1 rfl ?_
        refine gf_11_0 (pc := 22) C wd_1077 dX11_below_22 ?_
        refine a_iload (pc := 25) C dX11_below_25 0 rfl ?_
        obtain ⟨v4, ev4, h⟩ := bndS h
        refine a_iald (pc := 27) C rfl ev4 dX11_below_27 ?_
        refine a_aload_n (pc := 28) C dX11_below_28 rfl 1 rfl ?_
        refine gf_11_0 (pc := 29) C wd_1077 dX11_below_29 ?_
        refine a_iload_n (pc := 32) C dX11_below_32 rfl 2 rfl ?_
        obtain ⟨v5, ev5, h⟩ := bndS h
        refine a_iald (pc := 33) C rfl ev5 dX11_below_33 ?_
        refine a_icmp_ge (pc := 34) C 60 dX11_below_34 rfl (fun c6 => ?_) (fun c6 => ?_)
        · replace h := iteT c6 h
          refine a_iinc (pc := 60) C 4 (x3 + 1) [(3, .int (x3 + 1)), (4, .int (fMd_beside x1 x3)), (0, .ref (X.N.2.1 66)), (1, .int x1), (2, .int x2)] dX11_below_60 rfl rfl (nlt eL rfl) rfl ?_
          refine a_goto (pc := 63) C 4 dX11_below_63 rfl ?_
          refine a_sub [2, 3, 4, 0] rfl ?_
          exact ih x2 (x3 + 1) h
        · replace h := iteF c6 h
          refine a_iload_n (pc := 37) C dX11_below_37 rfl 3 rfl ?_
          refine a_if_lt (pc := 38) C 57 dX11_below_38 rfl (fun c7 => ?_) (fun c7 => ?_)
          · replace h := iteT c7 h
            refine a_iload (pc := 57) C dX11_below_57 0 rfl ?_
            refine a_istore_n (pc := 59) C [(2, .int (fMd_beside x1 x3)), (4, .int (fMd_beside x1 x3)), (0, .ref (X.N.2.1 66)), (1, .int x1), (3, .int x3)] dX11_below_59 rfl (nlt eL rfl) rfl ?_
            refine a_iinc (pc := 60) C 4 (x3 + 1) [(3, .int (x3 + 1)), (2, .int (fMd_beside x1 x3)), (4, .int (fMd_beside x1 x3)), (0, .ref (X.N.2.1 66)), (1, .int x1)] dX11_below_60 rfl rfl (nlt eL rfl) rfl ?_
            refine a_goto (pc := 63) C 4 dX11_below_63 rfl ?_
            refine a_sub [3, 4, 1, 0] rfl ?_
            exact ih (fMd_beside x1 x3) (x3 + 1) h
          · replace h := iteF c7 h
            refine a_aload_n (pc := 41) C dX11_below_41 rfl 1 rfl ?_
            refine gf_11_0 (pc := 42) C wd_1077 dX11_below_42 ?_
            refine a_iload (pc := 45) C dX11_below_45 0 rfl ?_
            obtain ⟨v8, ev8, h⟩ := bndS h
            refine a_iald (pc := 47) C rfl ev8 dX11_below_47 ?_
            refine a_aload_n (pc := 48) C dX11_below_48 rfl 1 rfl ?_
            refine gf_11_0 (pc := 49) C wd_1077 dX11_below_49 ?_
            refine a_iload_n (pc := 52) C dX11_below_52 rfl 3 rfl ?_
            obtain ⟨v9, ev9, h⟩ := bndS h
            refine a_iald (pc := 53) C rfl ev9 dX11_below_53 ?_
            refine a_icmp_ge (pc := 54) C 60 dX11_below_54 rfl (fun c10 => ?_) (fun c10 => ?_)
            · replace h := iteT c10 h
              refine a_iinc (pc := 60) C 4 (x3 + 1) [(3, .int (x3 + 1)), (4, .int (fMd_beside x1 x3)), (0, .ref (X.N.2.1 66)), (1, .int x1), (2, .int x2)] dX11_below_60 rfl rfl (nlt eL rfl) rfl ?_
              refine a_goto (pc := 63) C 4 dX11_below_63 rfl ?_
              refine a_sub [2, 3, 4, 0] rfl ?_
              exact ih x2 (x3 + 1) h
            · replace h := iteF c10 h
              refine a_iload (pc := 57) C dX11_below_57 0 rfl ?_
              refine a_istore_n (pc := 59) C [(2, .int (fMd_beside x1 x3)), (4, .int (fMd_beside x1 x3)), (0, .ref (X.N.2.1 66)), (1, .int x1), (3, .int x3)] dX11_below_59 rfl (nlt eL rfl) rfl ?_
              refine a_iinc (pc := 60) C 4 (x3 + 1) [(3, .int (x3 + 1)), (2, .int (fMd_beside x1 x3)), (4, .int (fMd_beside x1 x3)), (0, .ref (X.N.2.1 66)), (1, .int x1)] dX11_below_60 rfl rfl (nlt eL rfl) rfl ?_
              refine a_goto (pc := 63) C 4 dX11_below_63 rfl ?_
              refine a_sub [3, 4, 1, 0] rfl ?_
              exact ih (fMd_beside x1 x3) (x3 + 1) h
set_option maxHeartbeats 200000 in
set_option maxRecDepth 100000 in
theorem ok_fMd_below (l : Launch) (N : Rig) (M : Mem) (x1 : Int32) {r : Int32} (h : fMd_below M x1 = some r) : Ct l N yX11_below cX11_below 5 (some .int) 1 [.ref (N.2.1 66), .int x1] M (QcI N (some .int) r M) := by
  refine ct_of (by decide) rfl ?_
  intro X el eN eL C E
  subst el
  subst eN
  unfold fMd_below at h
  show WA X M [(0, .ref (X.N.2.1 66)), (1, .int x1)] 0 []
  refine a_iconst (pc := 0) C (-1) dX11_below_0 rfl ?_
  refine a_istore_n (pc := 1) C [(2, .int (-1)), (0, .ref (X.N.2.1 66)), (1, .int x1)] dX11_below_1 rfl (nlt eL rfl) rfl ?_
  refine a_iconst (pc := 2) C 0 dX11_below_2 rfl ?_
  refine a_istore_n (pc := 3) C [(3, .int 0), (2, .int (-1)), (0, .ref (X.N.2.1 66)), (1, .int x1)] dX11_below_3 rfl (nlt eL rfl) rfl ?_
  refine a_sub (lv2 := [(0, .ref (X.N.2.1 66)), (1, .int x1), (2, .int (-1)), (3, .int 0)]) [2, 3, 1, 0] rfl ?_
  obtain ⟨o11, eo11, h⟩ := bndS h
  refine ok_fMd_below_L4 eL C x1 M o11 ?_ FU (-1) 0 eo11
  refine a_iload_n (pc := 66) C dX11_below_66 rfl 0 rfl ?_
  exact a_iret (pc := 67) C E rfl (somI h) rfl dX11_below_67
set_option maxHeartbeats 200000 in
set_option maxRecDepth 100000 in
theorem ok_fMd_sitting_L4 {X : Amb} (eL : X.nL = 4) (C : Cx X RX11 cX11_sitting 0) (x1 : Int32) (M : Mem) (o : Int32) (K : WA X M [(2, .int o)] 31 []) : ∀ (n : Nat) (x2 : Int32) (x3 : Int32), fMd_sitting_L4 n M x1 x2 x3 = some o → WA X M [(0, .ref (X.N.2.1 66)), (1, .int x1), (2, .int x2), (3, .int x3)] 4 [] := by
  intro n
  induction n with
  | zero => intro _ _ h; cases h
  | succ n ih =>
    intro x2 x3 h
    replace h : fMd_sitting_L4_F (fMd_sitting_L4 n) M x1 x2 x3 = some o := h
    unfold fMd_sitting_L4_F at h
    refine a_iload_n (pc := 4) C dX11_sitting_4 rfl 3 rfl ?_
    refine a_aload_n (pc := 5) C dX11_sitting_5 rfl 0 rfl ?_
    refine gf_11_3 (pc := 6) C wd_1080 dX11_sitting_6 ?_
    refine a_icmp_ge (pc := 9) C 31 dX11_sitting_9 rfl (fun c1 => ?_) (fun c1 => ?_)
    · replace h := iteT c1 h
      refine a_sub (lv2 := [(2, .int x2)]) [2] rfl ?_
      cases somI h
      exact K
    · replace h := iteF c1 h
      refine a_aload_n (pc := 12) C dX11_sitting_12 rfl 0 rfl ?_
      refine gf_11_4 (pc := 13) C wd_1081 dX11_sitting_13 ?_
      refine a_iload_n (pc := 16) C dX11_sitting_16 rfl 3 rfl ?_
      obtain ⟨v2, ev2, h⟩ := bndS h
      refine a_iald (pc := 17) C rfl ev2 dX11_sitting_17 ?_
      refine a_iload_n (pc := 18) C dX11_sitting_18 rfl 1 rfl ?_
      refine a_icmp_ne (pc := 19) C 25 dX11_sitting_19 rfl (fun c3 => ?_) (fun c3 => ?_)
      · replace h := iteT c3 h
        refine a_iinc (pc := 25) C 3 (x3 + 1) [(3, .int (x3 + 1)), (0, .ref (X.N.2.1 66)), (1, .int x1), (2, .int x2)] dX11_sitting_25 rfl rfl (nlt eL rfl) rfl ?_
        refine a_goto (pc := 28) C 4 dX11_sitting_28 rfl ?_
        refine a_sub [1, 2, 3, 0] rfl ?_
        exact ih x2 (x3 + 1) h
      · replace h := iteF c3 h
        refine a_iinc (pc := 22) C 2 (x2 + 1) [(2, .int (x2 + 1)), (0, .ref (X.N.2.1 66)), (1, .int x1), (3, .int x3)] dX11_sitting_22 rfl rfl (nlt eL rfl) rfl ?_
        refine a_iinc (pc := 25) C 3 (x3 + 1) [(3, .int (x3 + 1)), (2, .int (x2 + 1)), (0, .ref (X.N.2.1 66)), (1, .int x1)] dX11_sitting_25 rfl rfl (nlt eL rfl) rfl ?_
        refine a_goto (pc := 28) C 4 dX11_sitting_28 rfl ?_
        refine a_sub [2, 3, 1, 0] rfl ?_
        exact ih (x2 + 1) (x3 + 1) h
set_option maxHeartbeats 200000 in
set_option maxRecDepth 100000 in
theorem ok_fMd_sitting (l : Launch) (N : Rig) (M : Mem) (x1 : Int32) {r : Int32} (h : fMd_sitting M x1 = some r) : Ct l N yX11_sitting cX11_sitting 4 (some .int) 0 [.ref (N.2.1 66), .int x1] M (QcI N (some .int) r M) := by
  refine ct_of (by decide) rfl ?_
  intro X el eN eL C E
  subst el
  subst eN
  unfold fMd_sitting at h
  show WA X M [(0, .ref (X.N.2.1 66)), (1, .int x1)] 0 []
  refine a_iconst (pc := 0) C 0 dX11_sitting_0 rfl ?_
  refine a_istore_n (pc := 1) C [(2, .int 0), (0, .ref (X.N.2.1 66)), (1, .int x1)] dX11_sitting_1 rfl (nlt eL rfl) rfl ?_
  refine a_iconst (pc := 2) C 0 dX11_sitting_2 rfl ?_
  refine a_istore_n (pc := 3) C [(3, .int 0), (2, .int 0), (0, .ref (X.N.2.1 66)), (1, .int x1)] dX11_sitting_3 rfl (nlt eL rfl) rfl ?_
  refine a_sub (lv2 := [(0, .ref (X.N.2.1 66)), (1, .int x1), (2, .int 0), (3, .int 0)]) [2, 3, 1, 0] rfl ?_
  obtain ⟨o4, eo4, h⟩ := bndS h
  refine ok_fMd_sitting_L4 eL C x1 M o4 ?_ FU 0 0 eo4
  refine a_iload_n (pc := 31) C dX11_sitting_31 rfl 0 rfl ?_
  exact a_iret (pc := 32) C E rfl (somI h) rfl dX11_sitting_32
set_option maxHeartbeats 200000 in
set_option maxRecDepth 100000 in
theorem ok_fMd_byLaw_J122_77 {X : Amb} (eL : X.nL = 3) (C : Cx X RX11 cX11_byLaw 2) (r : Int32) (M0 : Mem) (E : En X (some .int) (QcI X.N (some .int) r M0)) (ihf : Mem → Int32 → Option (Int32 × Mem)) (ih : ∀ (M : Mem) (x2 : Int32), ihf M x2 = some (r, M0) → WA X M [(0, .ref (X.N.2.1 66)), (2, .int x2)] 77 []) (M : Mem) (x2 : Int32) (h : fMd_byLaw_J122_77 ihf M x2 = some (r, M0)) : WA X M [(0, .ref (X.N.2.1 66)), (2, .int x2)] 122 [] := by
  unfold fMd_byLaw_J122_77 at h
  refine a_aload_n (pc := 122) C dX11_byLaw_122 rfl 0 rfl ?_
  refine a_aload_n (pc := 123) C dX11_byLaw_123 rfl 0 rfl ?_
  refine gf_11_11 (pc := 124) C wd_1088 dX11_byLaw_124 ?_
  refine a_iload_n (pc := 127) C dX11_byLaw_127 rfl 1 rfl ?_
  obtain ⟨v19, ev19, h⟩ := bndS h
  refine a_iald (pc := 128) C rfl ev19 dX11_byLaw_128 ?_
  refine a_aload_n (pc := 129) C dX11_byLaw_129 rfl 0 rfl ?_
  refine gf_11_12 (pc := 130) C wd_1089 dX11_byLaw_130 ?_
  refine a_iload_n (pc := 133) C dX11_byLaw_133 rfl 1 rfl ?_
  obtain ⟨v20, ev20, h⟩ := bndS h
  refine a_iald (pc := 134) C rfl ev20 dX11_byLaw_134 ?_
  obtain ⟨q21, eq21, h⟩ := bndS h
  refine a_callVI (pc := 135) C [.int v19, .int v20] (ok_fMd_worked X.l X.N M v19 v20 eq21) rfl mw_X11_worked wd_1352 rfl rfl rfl rfl rfl rfl rfl dX11_byLaw_135 (fun z22 => ?_)
  exact a_iret (pc := 138) C E rfl (som1 h) (som2 h) dX11_byLaw_138
set_option maxHeartbeats 200000 in
set_option maxRecDepth 100000 in
theorem ok_fMd_byLaw_L77 {X : Amb} (eL : X.nL = 3) (C : Cx X RX11 cX11_byLaw 2) (r : Int32) (M0 : Mem) (E : En X (some .int) (QcI X.N (some .int) r M0)) : ∀ (n : Nat) (M : Mem) (x2 : Int32), fMd_byLaw_L77 n M x2 = some (r, M0) → WA X M [(0, .ref (X.N.2.1 66)), (2, .int x2)] 77 [] := by
  intro n
  induction n with
  | zero => intro _ _ h; cases h
  | succ n ih =>
    intro M x2 h
    replace h : fMd_byLaw_L77_F (fMd_byLaw_L77 n) M x2 = some (r, M0) := h
    unfold fMd_byLaw_L77_F at h
    refine a_iload_n (pc := 77) C dX11_byLaw_77 rfl 1 rfl ?_
    refine a_aload_n (pc := 78) C dX11_byLaw_78 rfl 0 rfl ?_
    refine gf_11_9 (pc := 79) C wd_1086 dX11_byLaw_79 ?_
    refine a_icmp_ge (pc := 82) C 145 dX11_byLaw_82 rfl (fun c15 => ?_) (fun c15 => ?_)
    · replace h := iteT c15 h
      refine a_iconst (pc := 145) C 0 dX11_byLaw_145 rfl ?_
      exact a_iret (pc := 146) C E rfl (som1 h) (som2 h) dX11_byLaw_146
    · replace h := iteF c15 h
      refine a_aload_n (pc := 85) C dX11_byLaw_85 rfl 0 rfl ?_
      refine gf_11_11 (pc := 86) C wd_1088 dX11_byLaw_86 ?_
      refine a_iload_n (pc := 89) C dX11_byLaw_89 rfl 1 rfl ?_
      obtain ⟨v16, ev16, h⟩ := bndS h
      refine a_iald (pc := 90) C rfl ev16 dX11_byLaw_90 ?_
      refine a_aload_n (pc := 91) C dX11_byLaw_91 rfl 0 rfl ?_
      refine gf_11_10 (pc := 92) C wd_1087 dX11_byLaw_92 ?_
      refine a_iload_n (pc := 95) C dX11_byLaw_95 rfl 1 rfl ?_
      obtain ⟨v17, ev17, h⟩ := bndS h
      refine a_iald (pc := 96) C rfl ev17 dX11_byLaw_96 ?_
      refine a_icmp_le (pc := 97) C 122 dX11_byLaw_97 rfl (fun c18 => ?_) (fun c18 => ?_)
      · replace h := iteT c18 h
        refine a_sub (lv2 := [(0, .ref (X.N.2.1 66)), (2, .int x2)]) [0, 1] rfl ?_
        exact ok_fMd_byLaw_J122_77 eL C r M0 E _ ih M x2 h
      · replace h := iteF c18 h
        refine a_aload_n (pc := 100) C dX11_byLaw_100 rfl 0 rfl ?_
        refine a_aload_n (pc := 101) C dX11_byLaw_101 rfl 0 rfl ?_
        refine gf_11_10 (pc := 102) C wd_1087 dX11_byLaw_102 ?_
        refine a_iload_n (pc := 105) C dX11_byLaw_105 rfl 1 rfl ?_
        obtain ⟨v23, ev23, h⟩ := bndS h
        refine a_iald (pc := 106) C rfl ev23 dX11_byLaw_106 ?_
        refine a_aload_n (pc := 107) C dX11_byLaw_107 rfl 0 rfl ?_
        refine gf_11_11 (pc := 108) C wd_1088 dX11_byLaw_108 ?_
        refine a_iload_n (pc := 111) C dX11_byLaw_111 rfl 1 rfl ?_
        obtain ⟨v24, ev24, h⟩ := bndS h
        refine a_iald (pc := 112) C rfl ev24 dX11_byLaw_112 ?_
        obtain ⟨q25, eq25, h⟩ := bndS h
        refine a_callVI (pc := 113) C [.int v23, .int v24] (ok_fMd_worked X.l X.N M v23 v24 eq25) rfl mw_X11_worked wd_1352 rfl rfl rfl rfl rfl rfl rfl dX11_byLaw_113 (fun z26 => ?_)
        refine a_if_ne (pc := 116) C 122 dX11_byLaw_116 rfl (fun c27 => ?_) (fun c27 => ?_)
        · replace h := iteT c27 h
          refine a_sub (lv2 := [(0, .ref (X.N.2.1 66)), (2, .int x2)]) [0, 1] rfl ?_
          exact ok_fMd_byLaw_J122_77 eL C r M0 E _ ih q25.2 x2 h
        · replace h := iteF c27 h
          refine a_goto (pc := 119) C 139 dX11_byLaw_119 rfl ?_
          refine a_iinc (pc := 139) C 1 (x2 + 1) [(2, .int (x2 + 1)), (0, .ref (X.N.2.1 66))] dX11_byLaw_139 rfl rfl (nlt eL rfl) rfl ?_
          refine a_goto (pc := 142) C 77 dX11_byLaw_142 rfl ?_
          refine a_sub [1, 0] rfl ?_
          exact ih q25.2 (x2 + 1) h
set_option maxHeartbeats 200000 in
set_option maxRecDepth 100000 in
theorem ok_fMd_byLaw (l : Launch) (N : Rig) (M : Mem) (x1 : Int32) {r : Int32} {M0 : Mem} (h : fMd_byLaw M x1 = some (r, M0)) : Ct l N yX11_byLaw cX11_byLaw 3 (some .int) 2 [.ref (N.2.1 66), .int x1] M (QcI N (some .int) r M0) := by
  refine ct_of (by decide) rfl ?_
  intro X el eN eL C E
  subst el
  subst eN
  unfold fMd_byLaw at h
  show WA X M [(0, .ref (X.N.2.1 66)), (1, .int x1)] 0 []
  refine a_aload_n (pc := 0) C dX11_byLaw_0 rfl 0 rfl ?_
  refine gf_11_23 (pc := 1) C wd_1100 dX11_byLaw_1 ?_
  refine a_iconst (pc := 4) C 0 dX11_byLaw_4 rfl ?_
  refine a_aload_n (pc := 5) C dX11_byLaw_5 rfl 0 rfl ?_
  refine gf_11_1 (pc := 6) C wd_1078 dX11_byLaw_6 ?_
  refine a_iload_n (pc := 9) C dX11_byLaw_9 rfl 1 rfl ?_
  obtain ⟨v1, ev1, h⟩ := bndS h
  refine a_iald (pc := 10) C rfl ev1 dX11_byLaw_10 ?_
  obtain ⟨M2, eM2, h⟩ := bndS h
  refine a_iast (pc := 11) C rfl eM2 dX11_byLaw_11 ?_
  refine a_aload_n (pc := 12) C dX11_byLaw_12 rfl 0 rfl ?_
  refine gf_11_23 (pc := 13) C wd_1100 dX11_byLaw_13 ?_
  refine a_iconst (pc := 16) C 1 dX11_byLaw_16 rfl ?_
  refine a_aload_n (pc := 17) C dX11_byLaw_17 rfl 0 rfl ?_
  refine gf_11_2 (pc := 18) C wd_1079 dX11_byLaw_18 ?_
  refine a_iload_n (pc := 21) C dX11_byLaw_21 rfl 1 rfl ?_
  obtain ⟨v3, ev3, h⟩ := bndS h
  refine a_iald (pc := 22) C rfl ev3 dX11_byLaw_22 ?_
  obtain ⟨M4, eM4, h⟩ := bndS h
  refine a_iast (pc := 23) C rfl eM4 dX11_byLaw_23 ?_
  refine a_aload_n (pc := 24) C dX11_byLaw_24 rfl 0 rfl ?_
  refine gf_11_23 (pc := 25) C wd_1100 dX11_byLaw_25 ?_
  refine a_iconst (pc := 28) C 2 dX11_byLaw_28 rfl ?_
  refine a_aload_n (pc := 29) C dX11_byLaw_29 rfl 0 rfl ?_
  refine gf_11_0 (pc := 30) C wd_1077 dX11_byLaw_30 ?_
  refine a_iload_n (pc := 33) C dX11_byLaw_33 rfl 1 rfl ?_
  obtain ⟨v5, ev5, h⟩ := bndS h
  refine a_iald (pc := 34) C rfl ev5 dX11_byLaw_34 ?_
  refine a_aload_n (pc := 35) C dX11_byLaw_35 rfl 0 rfl ?_
  refine gf_11_0 (pc := 36) C wd_1077 dX11_byLaw_36 ?_
  refine a_aload_n (pc := 39) C dX11_byLaw_39 rfl 0 rfl ?_
  refine a_iload_n (pc := 40) C dX11_byLaw_40 rfl 1 rfl ?_
  obtain ⟨v6, ev6, h⟩ := bndS h
  refine a_callVI (pc := 41) C [.int x1] (ok_fMd_below X.l X.N M4 x1 ev6) rfl mw_X11_below wd_1333 rfl rfl rfl rfl rfl rfl rfl dX11_byLaw_41 (fun z7 => ?_)
  obtain ⟨v8, ev8, h⟩ := bndS h
  refine a_iald (pc := 44) C rfl ev8 dX11_byLaw_44 ?_
  refine a_isub (pc := 45) C dX11_byLaw_45 ?_
  obtain ⟨M9, eM9, h⟩ := bndS h
  refine a_iast (pc := 46) C rfl eM9 dX11_byLaw_46 ?_
  refine a_aload_n (pc := 47) C dX11_byLaw_47 rfl 0 rfl ?_
  refine gf_11_23 (pc := 48) C wd_1100 dX11_byLaw_48 ?_
  refine a_iconst (pc := 51) C 3 dX11_byLaw_51 rfl ?_
  refine a_aload_n (pc := 52) C dX11_byLaw_52 rfl 0 rfl ?_
  refine a_iload_n (pc := 53) C dX11_byLaw_53 rfl 1 rfl ?_
  obtain ⟨v10, ev10, h⟩ := bndS h
  refine a_callVI (pc := 54) C [.int x1] (ok_fMd_sitting X.l X.N M9 x1 ev10) rfl mw_X11_sitting wd_1348 rfl rfl rfl rfl rfl rfl rfl dX11_byLaw_54 (fun z11 => ?_)
  obtain ⟨M12, eM12, h⟩ := bndS h
  refine a_iast (pc := 57) C rfl eM12 dX11_byLaw_57 ?_
  refine a_aload_n (pc := 58) C dX11_byLaw_58 rfl 0 rfl ?_
  refine gf_11_23 (pc := 59) C wd_1100 dX11_byLaw_59 ?_
  refine a_iconst (pc := 62) C 4 dX11_byLaw_62 rfl ?_
  refine a_aload_n (pc := 63) C dX11_byLaw_63 rfl 0 rfl ?_
  refine gf_11_5 (pc := 64) C wd_1082 dX11_byLaw_64 ?_
  obtain ⟨M13, eM13, h⟩ := bndS h
  refine a_iast (pc := 67) C rfl eM13 dX11_byLaw_67 ?_
  refine a_aload_n (pc := 68) C dX11_byLaw_68 rfl 0 rfl ?_
  refine gf_11_23 (pc := 69) C wd_1100 dX11_byLaw_69 ?_
  refine a_iconst (pc := 72) C 5 dX11_byLaw_72 rfl ?_
  refine a_iload_n (pc := 73) C dX11_byLaw_73 rfl 1 rfl ?_
  obtain ⟨M14, eM14, h⟩ := bndS h
  refine a_iast (pc := 74) C rfl eM14 dX11_byLaw_74 ?_
  refine a_iconst (pc := 75) C 0 dX11_byLaw_75 rfl ?_
  refine a_istore_n (pc := 76) C [(2, .int 0), (0, .ref (X.N.2.1 66)), (1, .int x1)] dX11_byLaw_76 rfl (nlt eL rfl) rfl ?_
  refine a_sub (lv2 := [(0, .ref (X.N.2.1 66)), (2, .int 0)]) [1, 0] rfl ?_
  exact ok_fMd_byLaw_L77 eL C r M0 E FU M14 0 h
set_option maxHeartbeats 200000 in
set_option maxRecDepth 100000 in
theorem ok_fMd_runsOut_J64 {X : Amb} (eL : X.nL = 3) (C : Cx X RX11 cX11_runsOut 3) (r : Int32) (M0 : Mem) (E : En X (some .int) (QcI X.N (some .int) r M0)) (M : Mem) (x1 : Int32) (s0 : Int32) (h : fMd_runsOut_J64 M x1 s0 = some (r, M0)) : WA X M [(0, .ref (X.N.2.1 66)), (1, .int x1)] 64 [.int s0] := by
  unfold fMd_runsOut_J64 at h
  refine a_istore_n (pc := 64) C [(2, .int s0), (0, .ref (X.N.2.1 66)), (1, .int x1)] dX11_runsOut_64 rfl (nlt eL rfl) rfl ?_
  refine a_iconst (pc := 65) C 0 dX11_runsOut_65 rfl ?_
  refine a_aload_n (pc := 66) C dX11_runsOut_66 rfl 1 rfl ?_
  refine gf_11_1 (pc := 67) C wd_1078 dX11_runsOut_67 ?_
  refine a_iload_n (pc := 70) C dX11_runsOut_70 rfl 2 rfl ?_
  obtain ⟨v7, ev7, h⟩ := bndS h
  refine a_iald (pc := 71) C rfl ev7 dX11_runsOut_71 ?_
  refine a_iload_n (pc := 72) C dX11_runsOut_72 rfl 0 rfl ?_
  refine a_mmin (pc := 73) C rfl wd_1359 wd_652 wd_94 wd_653 rfl dX11_runsOut_73 ?_
  refine a_mmax (pc := 76) C rfl wd_1360 wd_631 wd_94 wd_632 rfl dX11_runsOut_76 ?_
  exact a_iret (pc := 79) C E rfl (som1 h) (som2 h) dX11_runsOut_79
set_option maxHeartbeats 200000 in
set_option maxRecDepth 100000 in
theorem ok_fMd_runsOut (l : Launch) (N : Rig) (M : Mem) (x1 : Int32) {r : Int32} {M0 : Mem} (h : fMd_runsOut M x1 = some (r, M0)) : Ct l N yX11_runsOut cX11_runsOut 3 (some .int) 3 [.ref (N.2.1 66), .int x1] M (QcI N (some .int) r M0) := by
  refine ct_of (by decide) rfl ?_
  intro X el eN eL C E
  subst el
  subst eN
  unfold fMd_runsOut at h
  show WA X M [(0, .ref (X.N.2.1 66)), (1, .int x1)] 0 []
  refine a_aload_n (pc := 0) C dX11_runsOut_0 rfl 0 rfl ?_
  refine gf_11_8 (pc := 1) C wd_1085 dX11_runsOut_1 ?_
  refine a_if_eq (pc := 4) C 15 dX11_runsOut_4 rfl (fun c1 => ?_) (fun c1 => ?_)
  · replace h := iteT c1 h
    refine a_aload_n (pc := 15) C dX11_runsOut_15 rfl 0 rfl ?_
    refine gf_11_2 (pc := 16) C wd_1079 dX11_runsOut_16 ?_
    refine a_iload_n (pc := 19) C dX11_runsOut_19 rfl 1 rfl ?_
    obtain ⟨v2, ev2, h⟩ := bndS h
    refine a_iald (pc := 20) C rfl ev2 dX11_runsOut_20 ?_
    refine a_iconst (pc := 21) C 1 dX11_runsOut_21 rfl ?_
    refine a_icmp_ne (pc := 22) C 37 dX11_runsOut_22 rfl (fun c3 => ?_) (fun c3 => ?_)
    · replace h := iteT c3 h
      refine a_aload_n (pc := 37) C dX11_runsOut_37 rfl 0 rfl ?_
      refine gf_11_2 (pc := 38) C wd_1079 dX11_runsOut_38 ?_
      refine a_iload_n (pc := 41) C dX11_runsOut_41 rfl 1 rfl ?_
      obtain ⟨v4, ev4, h⟩ := bndS h
      refine a_iald (pc := 42) C rfl ev4 dX11_runsOut_42 ?_
      refine a_iconst (pc := 43) C 2 dX11_runsOut_43 rfl ?_
      refine a_icmp_ne (pc := 44) C 56 dX11_runsOut_44 rfl (fun c5 => ?_) (fun c5 => ?_)
      · replace h := iteT c5 h
        refine a_aload_n (pc := 56) C dX11_runsOut_56 rfl 0 rfl ?_
        refine gf_11_1 (pc := 57) C wd_1078 dX11_runsOut_57 ?_
        refine a_iload_n (pc := 60) C dX11_runsOut_60 rfl 1 rfl ?_
        obtain ⟨v6, ev6, h⟩ := bndS h
        refine a_iald (pc := 61) C rfl ev6 dX11_runsOut_61 ?_
        refine a_iconst (pc := 62) C 2 dX11_runsOut_62 rfl ?_
        refine a_idiv (pc := 63) C dX11_runsOut_63 (by decide) ?_
        refine a_sub (lv2 := [(0, .ref (X.N.2.1 66)), (1, .int x1)]) [0, 1] rfl ?_
        exact ok_fMd_runsOut_J64 eL C r M0 E M x1 (v6 / 2) h
      · replace h := iteF c5 h
        refine a_aload_n (pc := 47) C dX11_runsOut_47 rfl 0 rfl ?_
        refine gf_11_1 (pc := 48) C wd_1078 dX11_runsOut_48 ?_
        refine a_iload_n (pc := 51) C dX11_runsOut_51 rfl 1 rfl ?_
        obtain ⟨v8, ev8, h⟩ := bndS h
        refine a_iald (pc := 52) C rfl ev8 dX11_runsOut_52 ?_
        refine a_goto (pc := 53) C 64 dX11_runsOut_53 rfl ?_
        refine a_sub (lv2 := [(0, .ref (X.N.2.1 66)), (1, .int x1)]) [0, 1] rfl ?_
        exact ok_fMd_runsOut_J64 eL C r M0 E M x1 v8 h
    · replace h := iteF c3 h
      refine a_aload_n (pc := 25) C dX11_runsOut_25 rfl 0 rfl ?_
      refine gf_11_1 (pc := 26) C wd_1078 dX11_runsOut_26 ?_
      refine a_iload_n (pc := 29) C dX11_runsOut_29 rfl 1 rfl ?_
      obtain ⟨v9, ev9, h⟩ := bndS h
      refine a_iald (pc := 30) C rfl ev9 dX11_runsOut_30 ?_
      refine a_bipush (pc := 31) C 20 dX11_runsOut_31 rfl ?_
      refine a_isub (pc := 33) C dX11_runsOut_33 ?_
      refine a_goto (pc := 34) C 64 dX11_runsOut_34 rfl ?_
      refine a_sub (lv2 := [(0, .ref (X.N.2.1 66)), (1, .int x1)]) [0, 1] rfl ?_
      exact ok_fMd_runsOut_J64 eL C r M0 E M x1 (v9 - 20) h
  · replace h := iteF c1 h
    refine a_aload_n (pc := 7) C dX11_runsOut_7 rfl 0 rfl ?_
    refine a_iload_n (pc := 8) C dX11_runsOut_8 rfl 1 rfl ?_
    obtain ⟨q10, eq10, h⟩ := bndS h
    refine a_callVI (pc := 9) C [.int x1] (ok_fMd_byLaw X.l X.N M x1 eq10) rfl mw_X11_byLaw wd_1344 rfl rfl rfl rfl rfl rfl rfl dX11_runsOut_9 (fun z11 => ?_)
    refine a_goto (pc := 12) C 64 dX11_runsOut_12 rfl ?_
    refine a_sub (lv2 := [(0, .ref (X.N.2.1 66)), (1, .int x1)]) [0, 1] rfl ?_
    exact ok_fMd_runsOut_J64 eL C r M0 E q10.2 x1 q10.1 h
set_option maxHeartbeats 200000 in
set_option maxRecDepth 100000 in
theorem ok_fMd_runs (l : Launch) (N : Rig) (M : Mem) (x1 : Int32) {r : Int32} {M0 : Mem} (h : fMd_runs M x1 = some (r, M0)) : Ct l N yX11_runs cX11_runs 2 (some .int) 4 [.ref (N.2.1 66), .int x1] M (QcI N (some .int) r M0) := by
  refine ct_of (by decide) rfl ?_
  intro X el eN eL C E
  subst el
  subst eN
  unfold fMd_runs at h
  show WA X M [(0, .ref (X.N.2.1 66)), (1, .int x1)] 0 []
  refine a_iload_n (pc := 0) C dX11_runs_0 rfl 1 rfl ?_
  refine a_callSI (pc := 1) C [.int x1] (ok_fMd_isCell X.l X.N M x1) rfl mw_X11_isCell wd_1217 rfl rfl rfl dX11_runs_1 (fun z1 => ?_)
  refine a_if_ne (pc := 4) C 9 dX11_runs_4 rfl (fun c2 => ?_) (fun c2 => ?_)
  · replace h := iteT c2 h
    refine a_aload_n (pc := 9) C dX11_runs_9 rfl 0 rfl ?_
    refine a_iload_n (pc := 10) C dX11_runs_10 rfl 1 rfl ?_
    obtain ⟨v3, ev3, h⟩ := bndS h
    refine a_callVI (pc := 11) C [.int x1] (ok_fMd_below X.l X.N M x1 ev3) rfl mw_X11_below wd_1333 rfl rfl rfl rfl rfl rfl rfl dX11_runs_11 (fun z4 => ?_)
    refine a_if_ge (pc := 14) C 22 dX11_runs_14 rfl (fun c5 => ?_) (fun c5 => ?_)
    · replace h := iteT c5 h
      refine a_aload_n (pc := 22) C dX11_runs_22 rfl 0 rfl ?_
      refine a_iload_n (pc := 23) C dX11_runs_23 rfl 1 rfl ?_
      obtain ⟨q6, eq6, h⟩ := bndS h
      refine a_callVI (pc := 24) C [.int x1] (ok_fMd_runsOut X.l X.N M x1 eq6) rfl mw_X11_runsOut wd_1340 rfl rfl rfl rfl rfl rfl rfl dX11_runs_24 (fun z7 => ?_)
      exact a_iret (pc := 27) C E rfl (som1 h) (som2 h) dX11_runs_27
    · replace h := iteF c5 h
      refine a_bipush (pc := 17) C (-2) dX11_runs_17 rfl ?_
      refine a_goto (pc := 19) C 27 dX11_runs_19 rfl ?_
      exact a_iret (pc := 27) C E rfl (som1 h) (som2 h) dX11_runs_27
  · replace h := iteF c2 h
    refine a_iconst (pc := 7) C (-1) dX11_runs_7 rfl ?_
    exact a_iret (pc := 8) C E rfl (som1 h) (som2 h) dX11_runs_8
set_option maxHeartbeats 200000 in
set_option maxRecDepth 100000 in
theorem ok_fMd_passes_L12 {X : Amb} (eL : X.nL = 4) (C : Cx X RX11 cX11_passes 4) (o : Mem) (K : WA X o [(0, .ref (X.N.2.1 66))] 117 []) : ∀ (n : Nat) (M : Mem) (x1 : Int32), fMd_passes_L12 n M x1 = some o → WA X M [(0, .ref (X.N.2.1 66)), (1, .int x1)] 12 [] := by
  intro n
  induction n with
  | zero => intro _ _ h; cases h
  | succ n ih =>
    intro M x1 h
    replace h : fMd_passes_L12_F (fMd_passes_L12 n) M x1 = some o := h
    unfold fMd_passes_L12_F at h
    refine a_iload_n (pc := 12) C dX11_passes_12 rfl 1 rfl ?_
    refine a_aload_n (pc := 13) C dX11_passes_13 rfl 0 rfl ?_
    refine gf_11_3 (pc := 14) C wd_1080 dX11_passes_14 ?_
    refine a_icmp_ge (pc := 17) C 117 dX11_passes_17 rfl (fun c1 => ?_) (fun c1 => ?_)
    · replace h := iteT c1 h
      refine a_sub (lv2 := [(0, .ref (X.N.2.1 66))]) [0] rfl ?_
      cases somI h
      exact K
    · replace h := iteF c1 h
      refine a_aload_n (pc := 20) C dX11_passes_20 rfl 0 rfl ?_
      refine gf_11_4 (pc := 21) C wd_1081 dX11_passes_21 ?_
      refine a_bipush (pc := 24) C 16 dX11_passes_24 rfl ?_
      refine a_iload_n (pc := 26) C dX11_passes_26 rfl 1 rfl ?_
      refine a_iadd (pc := 27) C dX11_passes_27 ?_
      obtain ⟨v2, ev2, h⟩ := bndS h
      refine a_iald (pc := 28) C rfl ev2 dX11_passes_28 ?_
      refine a_iconst (pc := 29) C 1 dX11_passes_29 rfl ?_
      refine a_icmp_ne (pc := 30) C 36 dX11_passes_30 rfl (fun c3 => ?_) (fun c3 => ?_)
      · replace h := iteT c3 h
        refine a_aload_n (pc := 36) C dX11_passes_36 rfl 0 rfl ?_
        refine gf_11_4 (pc := 37) C wd_1081 dX11_passes_37 ?_
        refine a_iload_n (pc := 40) C dX11_passes_40 rfl 1 rfl ?_
        obtain ⟨v4, ev4, h⟩ := bndS h
        refine a_iald (pc := 41) C rfl ev4 dX11_passes_41 ?_
        refine a_istore_n (pc := 42) C [(2, .int v4), (0, .ref (X.N.2.1 66)), (1, .int x1)] dX11_passes_42 rfl (nlt eL rfl) rfl ?_
        refine a_aload_n (pc := 43) C dX11_passes_43 rfl 1 rfl ?_
        refine gf_11_4 (pc := 44) C wd_1081 dX11_passes_44 ?_
        refine a_bipush (pc := 47) C 8 dX11_passes_47 rfl ?_
        refine a_iload_n (pc := 49) C dX11_passes_49 rfl 2 rfl ?_
        refine a_iadd (pc := 50) C dX11_passes_50 ?_
        obtain ⟨v5, ev5, h⟩ := bndS h
        refine a_iald (pc := 51) C rfl ev5 dX11_passes_51 ?_
        refine a_aload_n (pc := 52) C dX11_passes_52 rfl 1 rfl ?_
        refine gf_11_1 (pc := 53) C wd_1078 dX11_passes_53 ?_
        refine a_iload_n (pc := 56) C dX11_passes_56 rfl 0 rfl ?_
        obtain ⟨v6, ev6, h⟩ := bndS h
        refine a_iald (pc := 57) C rfl ev6 dX11_passes_57 ?_
        refine a_sipush (pc := 58) C 9999 dX11_passes_58 rfl ?_
        refine a_aload_n (pc := 61) C dX11_passes_61 rfl 1 rfl ?_
        refine gf_11_4 (pc := 62) C wd_1081 dX11_passes_62 ?_
        refine a_bipush (pc := 65) C 24 dX11_passes_65 rfl ?_
        refine a_iload_n (pc := 67) C dX11_passes_67 rfl 2 rfl ?_
        refine a_iadd (pc := 68) C dX11_passes_68 ?_
        obtain ⟨v7, ev7, h⟩ := bndS h
        refine a_iald (pc := 69) C rfl ev7 dX11_passes_69 ?_
        refine a_isub (pc := 70) C dX11_passes_70 ?_
        refine a_mmin (pc := 71) C rfl wd_1359 wd_652 wd_94 wd_653 rfl dX11_passes_71 ?_
        refine a_mmin (pc := 74) C rfl wd_1359 wd_652 wd_94 wd_653 rfl dX11_passes_74 ?_
        refine a_istore_n (pc := 77) C [(3, .int (mnI v5 (mnI v6 (9999 - v7)))), (2, .int v4), (0, .ref (X.N.2.1 66)), (1, .int x1)] dX11_passes_77 rfl (nlt eL rfl) rfl ?_
        refine a_aload_n (pc := 78) C dX11_passes_78 rfl 2 rfl ?_
        refine gf_11_1 (pc := 79) C wd_1078 dX11_passes_79 ?_
        refine a_iload_n (pc := 82) C dX11_passes_82 rfl 1 rfl ?_
        refine a_dup2 (pc := 83) C dX11_passes_83 rfl rfl ?_
        obtain ⟨v8, ev8, h⟩ := bndS h
        refine a_iald (pc := 84) C rfl ev8 dX11_passes_84 ?_
        refine a_iload_n (pc := 85) C dX11_passes_85 rfl 0 rfl ?_
        refine a_isub (pc := 86) C dX11_passes_86 ?_
        obtain ⟨M9, eM9, h⟩ := bndS h
        refine a_iast (pc := 87) C rfl eM9 dX11_passes_87 ?_
        refine a_aload_n (pc := 88) C dX11_passes_88 rfl 2 rfl ?_
        refine gf_11_4 (pc := 89) C wd_1081 dX11_passes_89 ?_
        refine a_bipush (pc := 92) C 24 dX11_passes_92 rfl ?_
        refine a_iload_n (pc := 94) C dX11_passes_94 rfl 3 rfl ?_
        refine a_iadd (pc := 95) C dX11_passes_95 ?_
        refine a_dup2 (pc := 96) C dX11_passes_96 rfl rfl ?_
        obtain ⟨v10, ev10, h⟩ := bndS h
        refine a_iald (pc := 97) C rfl ev10 dX11_passes_97 ?_
        refine a_iload_n (pc := 98) C dX11_passes_98 rfl 0 rfl ?_
        refine a_iadd (pc := 99) C dX11_passes_99 ?_
        obtain ⟨M11, eM11, h⟩ := bndS h
        refine a_iast (pc := 100) C rfl eM11 dX11_passes_100 ?_
        refine a_aload_n (pc := 101) C dX11_passes_101 rfl 2 rfl ?_
        refine a_dup (pc := 102) C dX11_passes_102 rfl ?_
        refine gf_11_40 (pc := 103) C wd_1117 dX11_passes_103 ?_
        refine a_iload_n (pc := 106) C dX11_passes_106 rfl 0 rfl ?_
        refine a_iadd (pc := 107) C dX11_passes_107 ?_
        refine pf_11_40 (pc := 108) C wd_1117 dX11_passes_108 ?_
        refine a_iinc (pc := 111) C 3 (x1 + 1) [(1, .int (x1 + 1)), (3, .int (mnI v5 (mnI v6 (9999 - v7)))), (2, .int v4), (0, .ref (X.N.2.1 66))] dX11_passes_111 rfl rfl (nlt eL rfl) rfl ?_
        refine a_goto (pc := 114) C 12 dX11_passes_114 rfl ?_
        refine a_sub [3, 0] rfl ?_
        exact ih (wI M11 66 40 ((M11.1 66 40) + (mnI v5 (mnI v6 (9999 - v7))))) (x1 + 1) h
      · replace h := iteF c3 h
        refine a_goto (pc := 33) C 111 dX11_passes_33 rfl ?_
        refine a_iinc (pc := 111) C 1 (x1 + 1) [(1, .int (x1 + 1)), (0, .ref (X.N.2.1 66))] dX11_passes_111 rfl rfl (nlt eL rfl) rfl ?_
        refine a_goto (pc := 114) C 12 dX11_passes_114 rfl ?_
        refine a_sub [1, 0] rfl ?_
        exact ih M (x1 + 1) h
set_option maxHeartbeats 200000 in
set_option maxRecDepth 100000 in
theorem ok_fMd_passes_L119 {X : Amb} (eL : X.nL = 4) (C : Cx X RX11 cX11_passes 4) (o : Mem) (K : WA X o [(0, .ref (X.N.2.1 66))] 154 []) : ∀ (n : Nat) (M : Mem) (x1 : Int32), fMd_passes_L119 n M x1 = some o → WA X M [(0, .ref (X.N.2.1 66)), (1, .int x1)] 119 [] := by
  intro n
  induction n with
  | zero => intro _ _ h; cases h
  | succ n ih =>
    intro M x1 h
    replace h : fMd_passes_L119_F (fMd_passes_L119 n) M x1 = some o := h
    unfold fMd_passes_L119_F at h
    refine a_iload_n (pc := 119) C dX11_passes_119 rfl 1 rfl ?_
    refine a_bipush (pc := 120) C 36 dX11_passes_120 rfl ?_
    refine a_icmp_ge (pc := 122) C 154 dX11_passes_122 rfl (fun c13 => ?_) (fun c13 => ?_)
    · replace h := iteT c13 h
      refine a_sub (lv2 := [(0, .ref (X.N.2.1 66))]) [0] rfl ?_
      cases somI h
      exact K
    · replace h := iteF c13 h
      refine a_aload_n (pc := 125) C dX11_passes_125 rfl 0 rfl ?_
      refine gf_11_39 (pc := 126) C wd_1116 dX11_passes_126 ?_
      refine a_iload_n (pc := 129) C dX11_passes_129 rfl 1 rfl ?_
      refine a_aload_n (pc := 130) C dX11_passes_130 rfl 0 rfl ?_
      refine a_iload_n (pc := 131) C dX11_passes_131 rfl 1 rfl ?_
      obtain ⟨v14, ev14, h⟩ := bndS h
      refine a_callVI (pc := 132) C [.int x1] (ok_fMd_below X.l X.N M x1 ev14) rfl mw_X11_below wd_1333 rfl rfl rfl rfl rfl rfl rfl dX11_passes_132 (fun z15 => ?_)
      refine a_if_ge (pc := 135) C 142 dX11_passes_135 rfl (fun c16 => ?_) (fun c16 => ?_)
      · replace h := iteT c16 h
        refine a_aload_n (pc := 142) C dX11_passes_142 rfl 0 rfl ?_
        refine a_iload_n (pc := 143) C dX11_passes_143 rfl 1 rfl ?_
        obtain ⟨q17, eq17, h⟩ := bndS h
        refine a_callVI (pc := 144) C [.int x1] (ok_fMd_runsOut X.l X.N M x1 eq17) rfl mw_X11_runsOut wd_1340 rfl rfl rfl rfl rfl rfl rfl dX11_passes_144 (fun z18 => ?_)
        obtain ⟨M19, eM19, h⟩ := bndS h
        refine a_iast (pc := 147) C rfl eM19 dX11_passes_147 ?_
        refine a_iinc (pc := 148) C 1 (x1 + 1) [(1, .int (x1 + 1)), (0, .ref (X.N.2.1 66))] dX11_passes_148 rfl rfl (nlt eL rfl) rfl ?_
        refine a_goto (pc := 151) C 119 dX11_passes_151 rfl ?_
        refine a_sub [1, 0] rfl ?_
        exact ih M19 (x1 + 1) h
      · replace h := iteF c16 h
        refine a_iconst (pc := 138) C 0 dX11_passes_138 rfl ?_
        refine a_goto (pc := 139) C 147 dX11_passes_139 rfl ?_
        obtain ⟨M20, eM20, h⟩ := bndS h
        refine a_iast (pc := 147) C rfl eM20 dX11_passes_147 ?_
        refine a_iinc (pc := 148) C 1 (x1 + 1) [(1, .int (x1 + 1)), (0, .ref (X.N.2.1 66))] dX11_passes_148 rfl rfl (nlt eL rfl) rfl ?_
        refine a_goto (pc := 151) C 119 dX11_passes_151 rfl ?_
        refine a_sub [1, 0] rfl ?_
        exact ih M20 (x1 + 1) h
set_option maxHeartbeats 200000 in
set_option maxRecDepth 100000 in
theorem ok_fMd_passes_L156 {X : Amb} (eL : X.nL = 4) (C : Cx X RX11 cX11_passes 4) (o : Mem) (K : WA X o [(0, .ref (X.N.2.1 66))] 229 []) : ∀ (n : Nat) (M : Mem) (x1 : Int32), fMd_passes_L156 n M x1 = some o → WA X M [(0, .ref (X.N.2.1 66)), (1, .int x1)] 156 [] := by
  intro n
  induction n with
  | zero => intro _ _ h; cases h
  | succ n ih =>
    intro M x1 h
    replace h : fMd_passes_L156_F (fMd_passes_L156 n) M x1 = some o := h
    unfold fMd_passes_L156_F at h
    refine a_iload_n (pc := 156) C dX11_passes_156 rfl 1 rfl ?_
    refine a_bipush (pc := 157) C 36 dX11_passes_157 rfl ?_
    refine a_icmp_ge (pc := 159) C 229 dX11_passes_159 rfl (fun c22 => ?_) (fun c22 => ?_)
    · replace h := iteT c22 h
      refine a_sub (lv2 := [(0, .ref (X.N.2.1 66))]) [0] rfl ?_
      cases somI h
      exact K
    · replace h := iteF c22 h
      refine a_aload_n (pc := 162) C dX11_passes_162 rfl 0 rfl ?_
      refine gf_11_39 (pc := 163) C wd_1116 dX11_passes_163 ?_
      refine a_iload_n (pc := 166) C dX11_passes_166 rfl 1 rfl ?_
      obtain ⟨v23, ev23, h⟩ := bndS h
      refine a_iald (pc := 167) C rfl ev23 dX11_passes_167 ?_
      refine a_if_ne (pc := 168) C 174 dX11_passes_168 rfl (fun c24 => ?_) (fun c24 => ?_)
      · replace h := iteT c24 h
        refine a_aload_n (pc := 174) C dX11_passes_174 rfl 0 rfl ?_
        refine gf_11_1 (pc := 175) C wd_1078 dX11_passes_175 ?_
        refine a_iload_n (pc := 178) C dX11_passes_178 rfl 1 rfl ?_
        refine a_dup2 (pc := 179) C dX11_passes_179 rfl rfl ?_
        obtain ⟨v25, ev25, h⟩ := bndS h
        refine a_iald (pc := 180) C rfl ev25 dX11_passes_180 ?_
        refine a_aload_n (pc := 181) C dX11_passes_181 rfl 0 rfl ?_
        refine gf_11_39 (pc := 182) C wd_1116 dX11_passes_182 ?_
        refine a_iload_n (pc := 185) C dX11_passes_185 rfl 1 rfl ?_
        obtain ⟨v26, ev26, h⟩ := bndS h
        refine a_iald (pc := 186) C rfl ev26 dX11_passes_186 ?_
        refine a_isub (pc := 187) C dX11_passes_187 ?_
        obtain ⟨M27, eM27, h⟩ := bndS h
        refine a_iast (pc := 188) C rfl eM27 dX11_passes_188 ?_
        refine a_aload_n (pc := 189) C dX11_passes_189 rfl 0 rfl ?_
        refine gf_11_1 (pc := 190) C wd_1078 dX11_passes_190 ?_
        refine a_aload_n (pc := 193) C dX11_passes_193 rfl 0 rfl ?_
        refine a_iload_n (pc := 194) C dX11_passes_194 rfl 1 rfl ?_
        obtain ⟨v28, ev28, h⟩ := bndS h
        refine a_callVI (pc := 195) C [.int x1] (ok_fMd_below X.l X.N M27 x1 ev28) rfl mw_X11_below wd_1333 rfl rfl rfl rfl rfl rfl rfl dX11_passes_195 (fun z29 => ?_)
        refine a_dup2 (pc := 198) C dX11_passes_198 rfl rfl ?_
        obtain ⟨v30, ev30, h⟩ := bndS h
        refine a_iald (pc := 199) C rfl ev30 dX11_passes_199 ?_
        refine a_aload_n (pc := 200) C dX11_passes_200 rfl 0 rfl ?_
        refine gf_11_39 (pc := 201) C wd_1116 dX11_passes_201 ?_
        refine a_iload_n (pc := 204) C dX11_passes_204 rfl 1 rfl ?_
        obtain ⟨v31, ev31, h⟩ := bndS h
        refine a_iald (pc := 205) C rfl ev31 dX11_passes_205 ?_
        refine a_iadd (pc := 206) C dX11_passes_206 ?_
        obtain ⟨M32, eM32, h⟩ := bndS h
        refine a_iast (pc := 207) C rfl eM32 dX11_passes_207 ?_
        refine a_aload_n (pc := 208) C dX11_passes_208 rfl 0 rfl ?_
        refine a_dup (pc := 209) C dX11_passes_209 rfl ?_
        refine gf_11_41 (pc := 210) C wd_1118 dX11_passes_210 ?_
        refine a_aload_n (pc := 213) C dX11_passes_213 rfl 0 rfl ?_
        refine gf_11_39 (pc := 214) C wd_1116 dX11_passes_214 ?_
        refine a_iload_n (pc := 217) C dX11_passes_217 rfl 1 rfl ?_
        obtain ⟨v33, ev33, h⟩ := bndS h
        refine a_iald (pc := 218) C rfl ev33 dX11_passes_218 ?_
        refine a_iadd (pc := 219) C dX11_passes_219 ?_
        refine pf_11_41 (pc := 220) C wd_1118 dX11_passes_220 ?_
        refine a_iinc (pc := 223) C 1 (x1 + 1) [(1, .int (x1 + 1)), (0, .ref (X.N.2.1 66))] dX11_passes_223 rfl rfl (nlt eL rfl) rfl ?_
        refine a_goto (pc := 226) C 156 dX11_passes_226 rfl ?_
        refine a_sub [1, 0] rfl ?_
        exact ih (wI M32 66 41 ((M32.1 66 41) + v33)) (x1 + 1) h
      · replace h := iteF c24 h
        refine a_goto (pc := 171) C 223 dX11_passes_171 rfl ?_
        refine a_iinc (pc := 223) C 1 (x1 + 1) [(1, .int (x1 + 1)), (0, .ref (X.N.2.1 66))] dX11_passes_223 rfl rfl (nlt eL rfl) rfl ?_
        refine a_goto (pc := 226) C 156 dX11_passes_226 rfl ?_
        refine a_sub [1, 0] rfl ?_
        exact ih M (x1 + 1) h
set_option maxHeartbeats 200000 in
set_option maxRecDepth 100000 in
theorem ok_fMd_passes_L231 {X : Amb} (eL : X.nL = 4) (C : Cx X RX11 cX11_passes 4) (o : Mem) (K : WA X o [(0, .ref (X.N.2.1 66))] 261 []) : ∀ (n : Nat) (M : Mem) (x1 : Int32), fMd_passes_L231 n M x1 = some o → WA X M [(0, .ref (X.N.2.1 66)), (1, .int x1)] 231 [] := by
  intro n
  induction n with
  | zero => intro _ _ h; cases h
  | succ n ih =>
    intro M x1 h
    replace h : fMd_passes_L231_F (fMd_passes_L231 n) M x1 = some o := h
    unfold fMd_passes_L231_F at h
    refine a_iload_n (pc := 231) C dX11_passes_231 rfl 1 rfl ?_
    refine a_bipush (pc := 232) C 36 dX11_passes_232 rfl ?_
    refine a_icmp_ge (pc := 234) C 261 dX11_passes_234 rfl (fun c35 => ?_) (fun c35 => ?_)
    · replace h := iteT c35 h
      refine a_sub (lv2 := [(0, .ref (X.N.2.1 66))]) [0] rfl ?_
      cases somI h
      exact K
    · replace h := iteF c35 h
      refine a_aload_n (pc := 237) C dX11_passes_237 rfl 0 rfl ?_
      refine gf_11_1 (pc := 238) C wd_1078 dX11_passes_238 ?_
      refine a_iload_n (pc := 241) C dX11_passes_241 rfl 1 rfl ?_
      refine a_sipush (pc := 242) C 9999 dX11_passes_242 rfl ?_
      refine a_aload_n (pc := 245) C dX11_passes_245 rfl 0 rfl ?_
      refine gf_11_1 (pc := 246) C wd_1078 dX11_passes_246 ?_
      refine a_iload_n (pc := 249) C dX11_passes_249 rfl 1 rfl ?_
      obtain ⟨v36, ev36, h⟩ := bndS h
      refine a_iald (pc := 250) C rfl ev36 dX11_passes_250 ?_
      refine a_mmin (pc := 251) C rfl wd_1359 wd_652 wd_94 wd_653 rfl dX11_passes_251 ?_
      obtain ⟨M37, eM37, h⟩ := bndS h
      refine a_iast (pc := 254) C rfl eM37 dX11_passes_254 ?_
      refine a_iinc (pc := 255) C 1 (x1 + 1) [(1, .int (x1 + 1)), (0, .ref (X.N.2.1 66))] dX11_passes_255 rfl rfl (nlt eL rfl) rfl ?_
      refine a_goto (pc := 258) C 231 dX11_passes_258 rfl ?_
      refine a_sub [1, 0] rfl ?_
      exact ih M37 (x1 + 1) h
set_option maxHeartbeats 200000 in
set_option maxRecDepth 100000 in
theorem ok_fMd_passes (l : Launch) (N : Rig) (M : Mem) {M0 : Mem} (h : fMd_passes M = some M0) : Ct l N yX11_passes cX11_passes 4 none 4 [.ref (N.2.1 66)] M (QcV N M0) := by
  refine ct_of (by decide) rfl ?_
  intro X el eN eL C E
  subst el
  subst eN
  unfold fMd_passes at h
  show WA X M [(0, .ref (X.N.2.1 66))] 0 []
  refine a_aload_n (pc := 0) C dX11_passes_0 rfl 0 rfl ?_
  refine a_iconst (pc := 1) C 0 dX11_passes_1 rfl ?_
  refine pf_11_40 (pc := 2) C wd_1117 dX11_passes_2 ?_
  refine a_aload_n (pc := 5) C dX11_passes_5 rfl 0 rfl ?_
  refine a_iconst (pc := 6) C 0 dX11_passes_6 rfl ?_
  refine pf_11_41 (pc := 7) C wd_1118 dX11_passes_7 ?_
  refine a_iconst (pc := 10) C 0 dX11_passes_10 rfl ?_
  refine a_istore_n (pc := 11) C [(1, .int 0), (0, .ref (X.N.2.1 66))] dX11_passes_11 rfl (nlt eL rfl) rfl ?_
  refine a_sub (lv2 := [(0, .ref (X.N.2.1 66)), (1, .int 0)]) [1, 0] rfl ?_
  obtain ⟨o12, eo12, h⟩ := bndS h
  refine ok_fMd_passes_L12 eL C o12 ?_ FU (wI (wI M 66 40 0) 66 41 0) 0 eo12
  refine a_iconst (pc := 117) C 0 dX11_passes_117 rfl ?_
  refine a_istore_n (pc := 118) C [(1, .int 0), (0, .ref (X.N.2.1 66))] dX11_passes_118 rfl (nlt eL rfl) rfl ?_
  refine a_sub (lv2 := [(0, .ref (X.N.2.1 66)), (1, .int 0)]) [1, 0] rfl ?_
  obtain ⟨o21, eo21, h⟩ := bndS h
  refine ok_fMd_passes_L119 eL C o21 ?_ FU o12 0 eo21
  refine a_iconst (pc := 154) C 0 dX11_passes_154 rfl ?_
  refine a_istore_n (pc := 155) C [(1, .int 0), (0, .ref (X.N.2.1 66))] dX11_passes_155 rfl (nlt eL rfl) rfl ?_
  refine a_sub (lv2 := [(0, .ref (X.N.2.1 66)), (1, .int 0)]) [1, 0] rfl ?_
  obtain ⟨o34, eo34, h⟩ := bndS h
  refine ok_fMd_passes_L156 eL C o34 ?_ FU o21 0 eo34
  refine a_iconst (pc := 229) C 0 dX11_passes_229 rfl ?_
  refine a_istore_n (pc := 230) C [(1, .int 0), (0, .ref (X.N.2.1 66))] dX11_passes_230 rfl (nlt eL rfl) rfl ?_
  refine a_sub (lv2 := [(0, .ref (X.N.2.1 66)), (1, .int 0)]) [1, 0] rfl ?_
  obtain ⟨o38, eo38, h⟩ := bndS h
  refine ok_fMd_passes_L231 eL C o38 ?_ FU o34 0 eo38
  refine a_aload_n (pc := 261) C dX11_passes_261 rfl 0 rfl ?_
  refine a_aload_n (pc := 262) C dX11_passes_262 rfl 0 rfl ?_
  refine gf_11_5 (pc := 263) C wd_1082 dX11_passes_263 ?_
  refine a_iconst (pc := 266) C 1 dX11_passes_266 rfl ?_
  refine a_iadd (pc := 267) C dX11_passes_267 ?_
  refine a_bipush (pc := 268) C 24 dX11_passes_268 rfl ?_
  refine a_irem (pc := 270) C dX11_passes_270 (by decide) ?_
  refine pf_11_5 (pc := 271) C wd_1082 dX11_passes_271 ?_
  exact a_vret (pc := 274) C E (somI h) dX11_passes_274
set_option maxHeartbeats 200000 in
set_option maxRecDepth 100000 in
theorem ok_fMd_keeps_L2 {X : Amb} (eL : X.nL = 3) (C : Cx X RX11 cX11_keeps 0) (a1 : Nat) (ha1 : isKp a1) (o : Mem) (K : WA X o [(0, .ref (X.N.2.1 66)), (1, .ref (X.N.2.1 a1))] 35 []) : ∀ (n : Nat) (M : Mem) (x2 : Int32), fMd_keeps_L2 n M a1 x2 = some o → WA X M [(0, .ref (X.N.2.1 66)), (1, .ref (X.N.2.1 a1)), (2, .int x2)] 2 [] := by
  intro n
  induction n with
  | zero => intro _ _ h; cases h
  | succ n ih =>
    intro M x2 h
    replace h : fMd_keeps_L2_F (fMd_keeps_L2 n) M a1 x2 = some o := h
    unfold fMd_keeps_L2_F at h
    refine a_iload_n (pc := 2) C dX11_keeps_2 rfl 2 rfl ?_
    refine a_bipush (pc := 3) C 36 dX11_keeps_3 rfl ?_
    refine a_icmp_ge (pc := 5) C 35 dX11_keeps_5 rfl (fun c1 => ?_) (fun c1 => ?_)
    · replace h := iteT c1 h
      refine a_sub (lv2 := [(0, .ref (X.N.2.1 66)), (1, .ref (X.N.2.1 a1))]) [0, 1] rfl ?_
      cases somI h
      exact K
    · replace h := iteF c1 h
      refine a_aload_n (pc := 8) C dX11_keeps_8 rfl 1 rfl ?_
      refine a_iload_n (pc := 9) C dX11_keeps_9 rfl 2 rfl ?_
      refine a_aload_n (pc := 10) C dX11_keeps_10 rfl 0 rfl ?_
      refine gf_11_1 (pc := 11) C wd_1078 dX11_keeps_11 ?_
      refine a_iload_n (pc := 14) C dX11_keeps_14 rfl 2 rfl ?_
      obtain ⟨v2, ev2, h⟩ := bndS h
      refine a_iald (pc := 15) C rfl ev2 dX11_keeps_15 ?_
      obtain ⟨M3, eM3, h⟩ := bndS h
      refine a_iast (pc := 16) C (kp_shp ha1) eM3 dX11_keeps_16 ?_
      refine a_aload_n (pc := 17) C dX11_keeps_17 rfl 1 rfl ?_
      refine a_bipush (pc := 18) C 36 dX11_keeps_18 rfl ?_
      refine a_iload_n (pc := 20) C dX11_keeps_20 rfl 2 rfl ?_
      refine a_iadd (pc := 21) C dX11_keeps_21 ?_
      refine a_aload_n (pc := 22) C dX11_keeps_22 rfl 0 rfl ?_
      refine gf_11_2 (pc := 23) C wd_1079 dX11_keeps_23 ?_
      refine a_iload_n (pc := 26) C dX11_keeps_26 rfl 2 rfl ?_
      obtain ⟨v4, ev4, h⟩ := bndS h
      refine a_iald (pc := 27) C rfl ev4 dX11_keeps_27 ?_
      obtain ⟨M5, eM5, h⟩ := bndS h
      refine a_iast (pc := 28) C (kp_shp ha1) eM5 dX11_keeps_28 ?_
      refine a_iinc (pc := 29) C 2 (x2 + 1) [(2, .int (x2 + 1)), (0, .ref (X.N.2.1 66)), (1, .ref (X.N.2.1 a1))] dX11_keeps_29 rfl rfl (nlt eL rfl) rfl ?_
      refine a_goto (pc := 32) C 2 dX11_keeps_32 rfl ?_
      refine a_sub [1, 2, 0] rfl ?_
      exact ih M5 (x2 + 1) h
set_option maxHeartbeats 200000 in
set_option maxRecDepth 100000 in
theorem ok_fMd_keeps_L37 {X : Amb} (eL : X.nL = 3) (C : Cx X RX11 cX11_keeps 0) (a1 : Nat) (ha1 : isKp a1) (o : Mem) (K : WA X o [(0, .ref (X.N.2.1 66)), (1, .ref (X.N.2.1 a1))] 61 []) : ∀ (n : Nat) (M : Mem) (x2 : Int32), fMd_keeps_L37 n M a1 x2 = some o → WA X M [(0, .ref (X.N.2.1 66)), (1, .ref (X.N.2.1 a1)), (2, .int x2)] 37 [] := by
  intro n
  induction n with
  | zero => intro _ _ h; cases h
  | succ n ih =>
    intro M x2 h
    replace h : fMd_keeps_L37_F (fMd_keeps_L37 n) M a1 x2 = some o := h
    unfold fMd_keeps_L37_F at h
    refine a_iload_n (pc := 37) C dX11_keeps_37 rfl 2 rfl ?_
    refine a_bipush (pc := 38) C 32 dX11_keeps_38 rfl ?_
    refine a_icmp_ge (pc := 40) C 61 dX11_keeps_40 rfl (fun c7 => ?_) (fun c7 => ?_)
    · replace h := iteT c7 h
      refine a_sub (lv2 := [(0, .ref (X.N.2.1 66)), (1, .ref (X.N.2.1 a1))]) [0, 1] rfl ?_
      cases somI h
      exact K
    · replace h := iteF c7 h
      refine a_aload_n (pc := 43) C dX11_keeps_43 rfl 1 rfl ?_
      refine a_bipush (pc := 44) C 72 dX11_keeps_44 rfl ?_
      refine a_iload_n (pc := 46) C dX11_keeps_46 rfl 2 rfl ?_
      refine a_iadd (pc := 47) C dX11_keeps_47 ?_
      refine a_aload_n (pc := 48) C dX11_keeps_48 rfl 0 rfl ?_
      refine gf_11_4 (pc := 49) C wd_1081 dX11_keeps_49 ?_
      refine a_iload_n (pc := 52) C dX11_keeps_52 rfl 2 rfl ?_
      obtain ⟨v8, ev8, h⟩ := bndS h
      refine a_iald (pc := 53) C rfl ev8 dX11_keeps_53 ?_
      obtain ⟨M9, eM9, h⟩ := bndS h
      refine a_iast (pc := 54) C (kp_shp ha1) eM9 dX11_keeps_54 ?_
      refine a_iinc (pc := 55) C 2 (x2 + 1) [(2, .int (x2 + 1)), (0, .ref (X.N.2.1 66)), (1, .ref (X.N.2.1 a1))] dX11_keeps_55 rfl rfl (nlt eL rfl) rfl ?_
      refine a_goto (pc := 58) C 37 dX11_keeps_58 rfl ?_
      refine a_sub [1, 2, 0] rfl ?_
      exact ih M9 (x2 + 1) h
set_option maxHeartbeats 200000 in
set_option maxRecDepth 100000 in
theorem ok_fMd_keeps (l : Launch) (N : Rig) (M : Mem) (a1 : Nat) (ha1 : isKp a1) {M0 : Mem} (h : fMd_keeps M a1 = some M0) : Ct l N yX11_keeps cX11_keeps 3 none 0 [.ref (N.2.1 66), .ref (N.2.1 a1)] M (QcV N M0) := by
  refine ct_of (by decide) rfl ?_
  intro X el eN eL C E
  subst el
  subst eN
  unfold fMd_keeps at h
  show WA X M [(0, .ref (X.N.2.1 66)), (1, .ref (X.N.2.1 a1))] 0 []
  refine a_iconst (pc := 0) C 0 dX11_keeps_0 rfl ?_
  refine a_istore_n (pc := 1) C [(2, .int 0), (0, .ref (X.N.2.1 66)), (1, .ref (X.N.2.1 a1))] dX11_keeps_1 rfl (nlt eL rfl) rfl ?_
  refine a_sub (lv2 := [(0, .ref (X.N.2.1 66)), (1, .ref (X.N.2.1 a1)), (2, .int 0)]) [1, 2, 0] rfl ?_
  obtain ⟨o6, eo6, h⟩ := bndS h
  refine ok_fMd_keeps_L2 eL C a1 ha1 o6 ?_ FU M 0 eo6
  refine a_iconst (pc := 35) C 0 dX11_keeps_35 rfl ?_
  refine a_istore_n (pc := 36) C [(2, .int 0), (0, .ref (X.N.2.1 66)), (1, .ref (X.N.2.1 a1))] dX11_keeps_36 rfl (nlt eL rfl) rfl ?_
  refine a_sub (lv2 := [(0, .ref (X.N.2.1 66)), (1, .ref (X.N.2.1 a1)), (2, .int 0)]) [1, 2, 0] rfl ?_
  obtain ⟨o10, eo10, h⟩ := bndS h
  refine ok_fMd_keeps_L37 eL C a1 ha1 o10 ?_ FU o6 0 eo10
  refine a_aload_n (pc := 61) C dX11_keeps_61 rfl 1 rfl ?_
  refine a_bipush (pc := 62) C 104 dX11_keeps_62 rfl ?_
  refine a_aload_n (pc := 64) C dX11_keeps_64 rfl 0 rfl ?_
  refine gf_11_5 (pc := 65) C wd_1082 dX11_keeps_65 ?_
  obtain ⟨M11, eM11, h⟩ := bndS h
  refine a_iast (pc := 68) C (kp_shp ha1) eM11 dX11_keeps_68 ?_
  exact a_vret (pc := 69) C E (somI h) dX11_keeps_69
set_option maxHeartbeats 200000 in
set_option maxRecDepth 100000 in
theorem ok_fMd_laysBack_L2 {X : Amb} (eL : X.nL = 3) (C : Cx X RX11 cX11_laysBack 0) (a1 : Nat) (ha1 : isKp a1) (o : Mem) (K : WA X o [(0, .ref (X.N.2.1 66)), (1, .ref (X.N.2.1 a1))] 35 []) : ∀ (n : Nat) (M : Mem) (x2 : Int32), fMd_laysBack_L2 n M a1 x2 = some o → WA X M [(0, .ref (X.N.2.1 66)), (1, .ref (X.N.2.1 a1)), (2, .int x2)] 2 [] := by
  intro n
  induction n with
  | zero => intro _ _ h; cases h
  | succ n ih =>
    intro M x2 h
    replace h : fMd_laysBack_L2_F (fMd_laysBack_L2 n) M a1 x2 = some o := h
    unfold fMd_laysBack_L2_F at h
    refine a_iload_n (pc := 2) C dX11_laysBack_2 rfl 2 rfl ?_
    refine a_bipush (pc := 3) C 36 dX11_laysBack_3 rfl ?_
    refine a_icmp_ge (pc := 5) C 35 dX11_laysBack_5 rfl (fun c1 => ?_) (fun c1 => ?_)
    · replace h := iteT c1 h
      refine a_sub (lv2 := [(0, .ref (X.N.2.1 66)), (1, .ref (X.N.2.1 a1))]) [0, 1] rfl ?_
      cases somI h
      exact K
    · replace h := iteF c1 h
      refine a_aload_n (pc := 8) C dX11_laysBack_8 rfl 0 rfl ?_
      refine gf_11_1 (pc := 9) C wd_1078 dX11_laysBack_9 ?_
      refine a_iload_n (pc := 12) C dX11_laysBack_12 rfl 2 rfl ?_
      refine a_aload_n (pc := 13) C dX11_laysBack_13 rfl 1 rfl ?_
      refine a_iload_n (pc := 14) C dX11_laysBack_14 rfl 2 rfl ?_
      obtain ⟨v2, ev2, h⟩ := bndS h
      refine a_iald (pc := 15) C (kp_shp ha1) ev2 dX11_laysBack_15 ?_
      obtain ⟨M3, eM3, h⟩ := bndS h
      refine a_iast (pc := 16) C rfl eM3 dX11_laysBack_16 ?_
      refine a_aload_n (pc := 17) C dX11_laysBack_17 rfl 0 rfl ?_
      refine gf_11_2 (pc := 18) C wd_1079 dX11_laysBack_18 ?_
      refine a_iload_n (pc := 21) C dX11_laysBack_21 rfl 2 rfl ?_
      refine a_aload_n (pc := 22) C dX11_laysBack_22 rfl 1 rfl ?_
      refine a_bipush (pc := 23) C 36 dX11_laysBack_23 rfl ?_
      refine a_iload_n (pc := 25) C dX11_laysBack_25 rfl 2 rfl ?_
      refine a_iadd (pc := 26) C dX11_laysBack_26 ?_
      obtain ⟨v4, ev4, h⟩ := bndS h
      refine a_iald (pc := 27) C (kp_shp ha1) ev4 dX11_laysBack_27 ?_
      obtain ⟨M5, eM5, h⟩ := bndS h
      refine a_iast (pc := 28) C rfl eM5 dX11_laysBack_28 ?_
      refine a_iinc (pc := 29) C 2 (x2 + 1) [(2, .int (x2 + 1)), (0, .ref (X.N.2.1 66)), (1, .ref (X.N.2.1 a1))] dX11_laysBack_29 rfl rfl (nlt eL rfl) rfl ?_
      refine a_goto (pc := 32) C 2 dX11_laysBack_32 rfl ?_
      refine a_sub [1, 2, 0] rfl ?_
      exact ih M5 (x2 + 1) h
set_option maxHeartbeats 200000 in
set_option maxRecDepth 100000 in
theorem ok_fMd_laysBack_L37 {X : Amb} (eL : X.nL = 3) (C : Cx X RX11 cX11_laysBack 0) (a1 : Nat) (ha1 : isKp a1) (o : Mem) (K : WA X o [(0, .ref (X.N.2.1 66)), (1, .ref (X.N.2.1 a1))] 61 []) : ∀ (n : Nat) (M : Mem) (x2 : Int32), fMd_laysBack_L37 n M a1 x2 = some o → WA X M [(0, .ref (X.N.2.1 66)), (1, .ref (X.N.2.1 a1)), (2, .int x2)] 37 [] := by
  intro n
  induction n with
  | zero => intro _ _ h; cases h
  | succ n ih =>
    intro M x2 h
    replace h : fMd_laysBack_L37_F (fMd_laysBack_L37 n) M a1 x2 = some o := h
    unfold fMd_laysBack_L37_F at h
    refine a_iload_n (pc := 37) C dX11_laysBack_37 rfl 2 rfl ?_
    refine a_bipush (pc := 38) C 32 dX11_laysBack_38 rfl ?_
    refine a_icmp_ge (pc := 40) C 61 dX11_laysBack_40 rfl (fun c7 => ?_) (fun c7 => ?_)
    · replace h := iteT c7 h
      refine a_sub (lv2 := [(0, .ref (X.N.2.1 66)), (1, .ref (X.N.2.1 a1))]) [0, 1] rfl ?_
      cases somI h
      exact K
    · replace h := iteF c7 h
      refine a_aload_n (pc := 43) C dX11_laysBack_43 rfl 0 rfl ?_
      refine gf_11_4 (pc := 44) C wd_1081 dX11_laysBack_44 ?_
      refine a_iload_n (pc := 47) C dX11_laysBack_47 rfl 2 rfl ?_
      refine a_aload_n (pc := 48) C dX11_laysBack_48 rfl 1 rfl ?_
      refine a_bipush (pc := 49) C 72 dX11_laysBack_49 rfl ?_
      refine a_iload_n (pc := 51) C dX11_laysBack_51 rfl 2 rfl ?_
      refine a_iadd (pc := 52) C dX11_laysBack_52 ?_
      obtain ⟨v8, ev8, h⟩ := bndS h
      refine a_iald (pc := 53) C (kp_shp ha1) ev8 dX11_laysBack_53 ?_
      obtain ⟨M9, eM9, h⟩ := bndS h
      refine a_iast (pc := 54) C rfl eM9 dX11_laysBack_54 ?_
      refine a_iinc (pc := 55) C 2 (x2 + 1) [(2, .int (x2 + 1)), (0, .ref (X.N.2.1 66)), (1, .ref (X.N.2.1 a1))] dX11_laysBack_55 rfl rfl (nlt eL rfl) rfl ?_
      refine a_goto (pc := 58) C 37 dX11_laysBack_58 rfl ?_
      refine a_sub [1, 2, 0] rfl ?_
      exact ih M9 (x2 + 1) h
set_option maxHeartbeats 200000 in
set_option maxRecDepth 100000 in
theorem ok_fMd_laysBack (l : Launch) (N : Rig) (M : Mem) (a1 : Nat) (ha1 : isKp a1) {M0 : Mem} (h : fMd_laysBack M a1 = some M0) : Ct l N yX11_laysBack cX11_laysBack 3 none 0 [.ref (N.2.1 66), .ref (N.2.1 a1)] M (QcV N M0) := by
  refine ct_of (by decide) rfl ?_
  intro X el eN eL C E
  subst el
  subst eN
  unfold fMd_laysBack at h
  show WA X M [(0, .ref (X.N.2.1 66)), (1, .ref (X.N.2.1 a1))] 0 []
  refine a_iconst (pc := 0) C 0 dX11_laysBack_0 rfl ?_
  refine a_istore_n (pc := 1) C [(2, .int 0), (0, .ref (X.N.2.1 66)), (1, .ref (X.N.2.1 a1))] dX11_laysBack_1 rfl (nlt eL rfl) rfl ?_
  refine a_sub (lv2 := [(0, .ref (X.N.2.1 66)), (1, .ref (X.N.2.1 a1)), (2, .int 0)]) [1, 2, 0] rfl ?_
  obtain ⟨o6, eo6, h⟩ := bndS h
  refine ok_fMd_laysBack_L2 eL C a1 ha1 o6 ?_ FU M 0 eo6
  refine a_iconst (pc := 35) C 0 dX11_laysBack_35 rfl ?_
  refine a_istore_n (pc := 36) C [(2, .int 0), (0, .ref (X.N.2.1 66)), (1, .ref (X.N.2.1 a1))] dX11_laysBack_36 rfl (nlt eL rfl) rfl ?_
  refine a_sub (lv2 := [(0, .ref (X.N.2.1 66)), (1, .ref (X.N.2.1 a1)), (2, .int 0)]) [1, 2, 0] rfl ?_
  obtain ⟨o10, eo10, h⟩ := bndS h
  refine ok_fMd_laysBack_L37 eL C a1 ha1 o10 ?_ FU o6 0 eo10
  refine a_aload_n (pc := 61) C dX11_laysBack_61 rfl 0 rfl ?_
  refine a_aload_n (pc := 62) C dX11_laysBack_62 rfl 1 rfl ?_
  refine a_bipush (pc := 63) C 104 dX11_laysBack_63 rfl ?_
  obtain ⟨v11, ev11, h⟩ := bndS h
  refine a_iald (pc := 65) C (kp_shp ha1) ev11 dX11_laysBack_65 ?_
  refine pf_11_5 (pc := 66) C wd_1082 dX11_laysBack_66 ?_
  exact a_vret (pc := 69) C E (somI h) dX11_laysBack_69
set_option maxHeartbeats 200000 in
set_option maxRecDepth 100000 in
theorem ok_fMd_goesOn_L2 {X : Amb} (eL : X.nL = 3) (C : Cx X RX11 cX11_goesOn 5) (x1 : Int32) (o : Mem) (K : WA X o [] 17 []) : ∀ (n : Nat) (M : Mem) (x2 : Int32), fMd_goesOn_L2 n M x1 x2 = some o → WA X M [(0, .ref (X.N.2.1 66)), (1, .int x1), (2, .int x2)] 2 [] := by
  intro n
  induction n with
  | zero => intro _ _ h; cases h
  | succ n ih =>
    intro M x2 h
    replace h : fMd_goesOn_L2_F (fMd_goesOn_L2 n) M x1 x2 = some o := h
    unfold fMd_goesOn_L2_F at h
    refine a_iload_n (pc := 2) C dX11_goesOn_2 rfl 2 rfl ?_
    refine a_iload_n (pc := 3) C dX11_goesOn_3 rfl 1 rfl ?_
    refine a_icmp_ge (pc := 4) C 17 dX11_goesOn_4 rfl (fun c1 => ?_) (fun c1 => ?_)
    · replace h := iteT c1 h
      refine a_sub (lv2 := []) [] rfl ?_
      cases somI h
      exact K
    · replace h := iteF c1 h
      refine a_aload_n (pc := 7) C dX11_goesOn_7 rfl 0 rfl ?_
      obtain ⟨q2, eq2, h⟩ := bndS h
      refine a_callVV (pc := 8) C [] (ok_fMd_passes X.l X.N M eq2) rfl mw_X11_passes wd_1376 rfl rfl rfl rfl rfl rfl rfl dX11_goesOn_8 ?_
      refine a_iinc (pc := 11) C 2 (x2 + 1) [(2, .int (x2 + 1)), (0, .ref (X.N.2.1 66)), (1, .int x1)] dX11_goesOn_11 rfl rfl (nlt eL rfl) rfl ?_
      refine a_goto (pc := 14) C 2 dX11_goesOn_14 rfl ?_
      refine a_sub [1, 2, 0] rfl ?_
      exact ih q2 (x2 + 1) h
set_option maxHeartbeats 200000 in
set_option maxRecDepth 100000 in
theorem ok_fMd_goesOn (l : Launch) (N : Rig) (M : Mem) (x1 : Int32) {M0 : Mem} (h : fMd_goesOn M x1 = some M0) : Ct l N yX11_goesOn cX11_goesOn 3 none 5 [.ref (N.2.1 66), .int x1] M (QcV N M0) := by
  refine ct_of (by decide) rfl ?_
  intro X el eN eL C E
  subst el
  subst eN
  unfold fMd_goesOn at h
  show WA X M [(0, .ref (X.N.2.1 66)), (1, .int x1)] 0 []
  refine a_iconst (pc := 0) C 0 dX11_goesOn_0 rfl ?_
  refine a_istore_n (pc := 1) C [(2, .int 0), (0, .ref (X.N.2.1 66)), (1, .int x1)] dX11_goesOn_1 rfl (nlt eL rfl) rfl ?_
  refine a_sub (lv2 := [(0, .ref (X.N.2.1 66)), (1, .int x1), (2, .int 0)]) [1, 2, 0] rfl ?_
  obtain ⟨o3, eo3, h⟩ := bndS h
  refine ok_fMd_goesOn_L2 eL C x1 o3 ?_ FU M 0 eo3
  exact a_vret (pc := 17) C E (somI h) dX11_goesOn_17
set_option maxHeartbeats 200000 in
set_option maxRecDepth 100000 in
theorem ok_fMd_has (l : Launch) (N : Rig) (M : Mem) (x1 : Int32) {r : Int32} (h : fMd_has M x1 = some r) : Ct l N yX11_has cX11_has 2 (some .int) 0 [.ref (N.2.1 66), .int x1] M (QcI N (some .int) r M) := by
  refine ct_of (by decide) rfl ?_
  intro X el eN eL C E
  subst el
  subst eN
  unfold fMd_has at h
  show WA X M [(0, .ref (X.N.2.1 66)), (1, .int x1)] 0 []
  refine a_aload_n (pc := 0) C dX11_has_0 rfl 0 rfl ?_
  refine gf_11_4 (pc := 1) C wd_1081 dX11_has_1 ?_
  refine a_bipush (pc := 4) C 24 dX11_has_4 rfl ?_
  refine a_iload_n (pc := 6) C dX11_has_6 rfl 1 rfl ?_
  refine a_iadd (pc := 7) C dX11_has_7 ?_
  obtain ⟨v1, ev1, h⟩ := bndS h
  refine a_iald (pc := 8) C rfl ev1 dX11_has_8 ?_
  exact a_iret (pc := 9) C E rfl (somI h) rfl dX11_has_9
set_option maxHeartbeats 200000 in
set_option maxRecDepth 100000 in
theorem ok_fMd_allLuck_L4 {X : Amb} (eL : X.nL = 3) (C : Cx X RX11 cX11_allLuck 0) (M : Mem) (o : Int32) (K : WA X M [(1, .int o)] 25 []) : ∀ (n : Nat) (x1 : Int32) (x2 : Int32), fMd_allLuck_L4 n M x1 x2 = some o → WA X M [(0, .ref (X.N.2.1 66)), (1, .int x1), (2, .int x2)] 4 [] := by
  intro n
  induction n with
  | zero => intro _ _ h; cases h
  | succ n ih =>
    intro x1 x2 h
    replace h : fMd_allLuck_L4_F (fMd_allLuck_L4 n) M x1 x2 = some o := h
    unfold fMd_allLuck_L4_F at h
    refine a_iload_n (pc := 4) C dX11_allLuck_4 rfl 2 rfl ?_
    refine a_bipush (pc := 5) C 36 dX11_allLuck_5 rfl ?_
    refine a_icmp_ge (pc := 7) C 25 dX11_allLuck_7 rfl (fun c1 => ?_) (fun c1 => ?_)
    · replace h := iteT c1 h
      refine a_sub (lv2 := [(1, .int x1)]) [1] rfl ?_
      cases somI h
      exact K
    · replace h := iteF c1 h
      refine a_iload_n (pc := 10) C dX11_allLuck_10 rfl 1 rfl ?_
      refine a_aload_n (pc := 11) C dX11_allLuck_11 rfl 0 rfl ?_
      refine gf_11_1 (pc := 12) C wd_1078 dX11_allLuck_12 ?_
      refine a_iload_n (pc := 15) C dX11_allLuck_15 rfl 2 rfl ?_
      obtain ⟨v2, ev2, h⟩ := bndS h
      refine a_iald (pc := 16) C rfl ev2 dX11_allLuck_16 ?_
      refine a_iadd (pc := 17) C dX11_allLuck_17 ?_
      refine a_istore_n (pc := 18) C [(1, .int (x1 + v2)), (0, .ref (X.N.2.1 66)), (2, .int x2)] dX11_allLuck_18 rfl (nlt eL rfl) rfl ?_
      refine a_iinc (pc := 19) C 2 (x2 + 1) [(2, .int (x2 + 1)), (1, .int (x1 + v2)), (0, .ref (X.N.2.1 66))] dX11_allLuck_19 rfl rfl (nlt eL rfl) rfl ?_
      refine a_goto (pc := 22) C 4 dX11_allLuck_22 rfl ?_
      refine a_sub [2, 1, 0] rfl ?_
      exact ih (x1 + v2) (x2 + 1) h
set_option maxHeartbeats 200000 in
set_option maxRecDepth 100000 in
theorem ok_fMd_allLuck (l : Launch) (N : Rig) (M : Mem) {r : Int32} (h : fMd_allLuck M = some r) : Ct l N yX11_allLuck cX11_allLuck 3 (some .int) 0 [.ref (N.2.1 66)] M (QcI N (some .int) r M) := by
  refine ct_of (by decide) rfl ?_
  intro X el eN eL C E
  subst el
  subst eN
  unfold fMd_allLuck at h
  show WA X M [(0, .ref (X.N.2.1 66))] 0 []
  refine a_iconst (pc := 0) C 0 dX11_allLuck_0 rfl ?_
  refine a_istore_n (pc := 1) C [(1, .int 0), (0, .ref (X.N.2.1 66))] dX11_allLuck_1 rfl (nlt eL rfl) rfl ?_
  refine a_iconst (pc := 2) C 0 dX11_allLuck_2 rfl ?_
  refine a_istore_n (pc := 3) C [(2, .int 0), (1, .int 0), (0, .ref (X.N.2.1 66))] dX11_allLuck_3 rfl (nlt eL rfl) rfl ?_
  refine a_sub (lv2 := [(0, .ref (X.N.2.1 66)), (1, .int 0), (2, .int 0)]) [2, 1, 0] rfl ?_
  obtain ⟨o3, eo3, h⟩ := bndS h
  refine ok_fMd_allLuck_L4 eL C M o3 ?_ FU 0 0 eo3
  refine a_iload_n (pc := 25) C dX11_allLuck_25 rfl 0 rfl ?_
  exact a_iret (pc := 26) C E rfl (somI h) rfl dX11_allLuck_26
set_option maxHeartbeats 200000 in
set_option maxRecDepth 100000 in
theorem ok_fMd_luckiest_L4 {X : Amb} (eL : X.nL = 3) (C : Cx X RX11 cX11_luckiest 0) (M : Mem) (o : Int32) (K : WA X M [(1, .int o)] 33 []) : ∀ (n : Nat) (x1 : Int32) (x2 : Int32), fMd_luckiest_L4 n M x1 x2 = some o → WA X M [(0, .ref (X.N.2.1 66)), (1, .int x1), (2, .int x2)] 4 [] := by
  intro n
  induction n with
  | zero => intro _ _ h; cases h
  | succ n ih =>
    intro x1 x2 h
    replace h : fMd_luckiest_L4_F (fMd_luckiest_L4 n) M x1 x2 = some o := h
    unfold fMd_luckiest_L4_F at h
    refine a_iload_n (pc := 4) C dX11_luckiest_4 rfl 2 rfl ?_
    refine a_bipush (pc := 5) C 36 dX11_luckiest_5 rfl ?_
    refine a_icmp_ge (pc := 7) C 33 dX11_luckiest_7 rfl (fun c1 => ?_) (fun c1 => ?_)
    · replace h := iteT c1 h
      refine a_sub (lv2 := [(1, .int x1)]) [1] rfl ?_
      cases somI h
      exact K
    · replace h := iteF c1 h
      refine a_aload_n (pc := 10) C dX11_luckiest_10 rfl 0 rfl ?_
      refine gf_11_1 (pc := 11) C wd_1078 dX11_luckiest_11 ?_
      refine a_iload_n (pc := 14) C dX11_luckiest_14 rfl 2 rfl ?_
      obtain ⟨v2, ev2, h⟩ := bndS h
      refine a_iald (pc := 15) C rfl ev2 dX11_luckiest_15 ?_
      refine a_aload_n (pc := 16) C dX11_luckiest_16 rfl 0 rfl ?_
      refine gf_11_1 (pc := 17) C wd_1078 dX11_luckiest_17 ?_
      refine a_iload_n (pc := 20) C dX11_luckiest_20 rfl 1 rfl ?_
      obtain ⟨v3, ev3, h⟩ := bndS h
      refine a_iald (pc := 21) C rfl ev3 dX11_luckiest_21 ?_
      refine a_icmp_le (pc := 22) C 27 dX11_luckiest_22 rfl (fun c4 => ?_) (fun c4 => ?_)
      · replace h := iteT c4 h
        refine a_iinc (pc := 27) C 2 (x2 + 1) [(2, .int (x2 + 1)), (0, .ref (X.N.2.1 66)), (1, .int x1)] dX11_luckiest_27 rfl rfl (nlt eL rfl) rfl ?_
        refine a_goto (pc := 30) C 4 dX11_luckiest_30 rfl ?_
        refine a_sub [1, 2, 0] rfl ?_
        exact ih x1 (x2 + 1) h
      · replace h := iteF c4 h
        refine a_iload_n (pc := 25) C dX11_luckiest_25 rfl 2 rfl ?_
        refine a_istore_n (pc := 26) C [(1, .int x2), (0, .ref (X.N.2.1 66)), (2, .int x2)] dX11_luckiest_26 rfl (nlt eL rfl) rfl ?_
        refine a_iinc (pc := 27) C 2 (x2 + 1) [(2, .int (x2 + 1)), (1, .int x2), (0, .ref (X.N.2.1 66))] dX11_luckiest_27 rfl rfl (nlt eL rfl) rfl ?_
        refine a_goto (pc := 30) C 4 dX11_luckiest_30 rfl ?_
        refine a_sub [2, 1, 0] rfl ?_
        exact ih x2 (x2 + 1) h
set_option maxHeartbeats 200000 in
set_option maxRecDepth 100000 in
theorem ok_fMd_luckiest (l : Launch) (N : Rig) (M : Mem) {r : Int32} (h : fMd_luckiest M = some r) : Ct l N yX11_luckiest cX11_luckiest 3 (some .int) 0 [.ref (N.2.1 66)] M (QcI N (some .int) r M) := by
  refine ct_of (by decide) rfl ?_
  intro X el eN eL C E
  subst el
  subst eN
  unfold fMd_luckiest at h
  show WA X M [(0, .ref (X.N.2.1 66))] 0 []
  refine a_iconst (pc := 0) C 0 dX11_luckiest_0 rfl ?_
  refine a_istore_n (pc := 1) C [(1, .int 0), (0, .ref (X.N.2.1 66))] dX11_luckiest_1 rfl (nlt eL rfl) rfl ?_
  refine a_iconst (pc := 2) C 1 dX11_luckiest_2 rfl ?_
  refine a_istore_n (pc := 3) C [(2, .int 1), (1, .int 0), (0, .ref (X.N.2.1 66))] dX11_luckiest_3 rfl (nlt eL rfl) rfl ?_
  refine a_sub (lv2 := [(0, .ref (X.N.2.1 66)), (1, .int 0), (2, .int 1)]) [2, 1, 0] rfl ?_
  obtain ⟨o5, eo5, h⟩ := bndS h
  refine ok_fMd_luckiest_L4 eL C M o5 ?_ FU 0 1 eo5
  refine a_iload_n (pc := 33) C dX11_luckiest_33 rfl 0 rfl ?_
  exact a_iret (pc := 34) C E rfl (somI h) rfl dX11_luckiest_34
set_option maxHeartbeats 200000 in
set_option maxRecDepth 100000 in
theorem ok_fMd_later_J40 {X : Amb} (eL : X.nL = 5) (C : Cx X RX11 cX11_later 6) (r : Int32) (M0 : Mem) (E : En X (some .int) (QcI X.N (some .int) r M0)) (M : Mem) (x1 : Int32) (x2 : Int32) (x3 : Int32) (h : fMd_later_J40 M x1 x2 x3 = some (r, M0)) : WA X M [(0, .ref (X.N.2.1 66)), (1, .int x1), (2, .int x2), (3, .int x3)] 40 [] := by
  unfold fMd_later_J40 at h
  refine a_aload_n (pc := 40) C dX11_later_40 rfl 0 rfl ?_
  refine a_aload_n (pc := 41) C dX11_later_41 rfl 0 rfl ?_
  refine gf_11_42 (pc := 42) C wd_1119 dX11_later_42 ?_
  obtain ⟨q8, eq8, h⟩ := bndS h
  refine a_callVV (pc := 45) C [.ref (X.N.2.1 92)] (ok_fMd_keeps X.l X.N M 92 kp92 eq8) rfl mw_X11_keeps wd_1368 rfl rfl rfl rfl rfl rfl rfl dX11_later_45 ?_
  refine a_aload_n (pc := 48) C dX11_later_48 rfl 0 rfl ?_
  refine a_iload_n (pc := 49) C dX11_later_49 rfl 1 rfl ?_
  obtain ⟨q9, eq9, h⟩ := bndS h
  refine a_callVV (pc := 50) C [.int x1] (ok_fMd_goesOn X.l X.N q8 x1 eq9) rfl mw_X11_goesOn wd_1372 rfl rfl rfl rfl rfl rfl rfl dX11_later_50 ?_
  refine a_iload_n (pc := 53) C dX11_later_53 rfl 3 rfl ?_
  refine a_if_ne (pc := 54) C 66 dX11_later_54 rfl (fun c10 => ?_) (fun c10 => ?_)
  · replace h := iteT c10 h
    refine a_aload_n (pc := 66) C dX11_later_66 rfl 0 rfl ?_
    refine a_iload_n (pc := 67) C dX11_later_67 rfl 2 rfl ?_
    obtain ⟨v11, ev11, h⟩ := bndS h
    refine a_callVI (pc := 68) C [.int x2] (ok_fMd_has X.l X.N q9 x2 ev11) rfl mw_X11_has wd_1380 rfl rfl rfl rfl rfl rfl rfl dX11_later_68 (fun z12 => ?_)
    refine a_istore (pc := 71) C [(4, .int v11), (0, .ref (X.N.2.1 66)), (1, .int x1), (2, .int x2), (3, .int x3)] dX11_later_71 (nlt eL rfl) rfl ?_
    refine a_aload_n (pc := 73) C dX11_later_73 rfl 1 rfl ?_
    refine a_aload_n (pc := 74) C dX11_later_74 rfl 1 rfl ?_
    refine gf_11_42 (pc := 75) C wd_1119 dX11_later_75 ?_
    obtain ⟨q13, eq13, h⟩ := bndS h
    refine a_callVV (pc := 78) C [.ref (X.N.2.1 92)] (ok_fMd_laysBack X.l X.N q9 92 kp92 eq13) rfl mw_X11_laysBack wd_1384 rfl rfl rfl rfl rfl rfl rfl dX11_later_78 ?_
    refine a_iload (pc := 81) C dX11_later_81 0 rfl ?_
    exact a_iret (pc := 83) C E rfl (som1 h) (som2 h) dX11_later_83
  · replace h := iteF c10 h
    refine a_aload_n (pc := 57) C dX11_later_57 rfl 0 rfl ?_
    refine gf_11_1 (pc := 58) C wd_1078 dX11_later_58 ?_
    refine a_iload_n (pc := 61) C dX11_later_61 rfl 2 rfl ?_
    obtain ⟨v14, ev14, h⟩ := bndS h
    refine a_iald (pc := 62) C rfl ev14 dX11_later_62 ?_
    refine a_goto (pc := 63) C 71 dX11_later_63 rfl ?_
    refine a_istore (pc := 71) C [(4, .int v14), (0, .ref (X.N.2.1 66)), (1, .int x1), (2, .int x2), (3, .int x3)] dX11_later_71 (nlt eL rfl) rfl ?_
    refine a_aload_n (pc := 73) C dX11_later_73 rfl 1 rfl ?_
    refine a_aload_n (pc := 74) C dX11_later_74 rfl 1 rfl ?_
    refine gf_11_42 (pc := 75) C wd_1119 dX11_later_75 ?_
    obtain ⟨q15, eq15, h⟩ := bndS h
    refine a_callVV (pc := 78) C [.ref (X.N.2.1 92)] (ok_fMd_laysBack X.l X.N q9 92 kp92 eq15) rfl mw_X11_laysBack wd_1384 rfl rfl rfl rfl rfl rfl rfl dX11_later_78 ?_
    refine a_iload (pc := 81) C dX11_later_81 0 rfl ?_
    exact a_iret (pc := 83) C E rfl (som1 h) (som2 h) dX11_later_83
set_option maxHeartbeats 200000 in
set_option maxRecDepth 100000 in
theorem ok_fMd_later (l : Launch) (N : Rig) (M : Mem) (x1 : Int32) (x2 : Int32) (x3 : Int32) {r : Int32} {M0 : Mem} (h : fMd_later M x1 x2 x3 = some (r, M0)) : Ct l N yX11_later cX11_later 5 (some .int) 6 [.ref (N.2.1 66), .int x1, .int x2, .int x3] M (QcI N (some .int) r M0) := by
  refine ct_of (by decide) rfl ?_
  intro X el eN eL C E
  subst el
  subst eN
  unfold fMd_later at h
  show WA X M [(0, .ref (X.N.2.1 66)), (1, .int x1), (2, .int x2), (3, .int x3)] 0 []
  refine a_iload_n (pc := 0) C dX11_later_0 rfl 1 rfl ?_
  refine a_callSI (pc := 1) C [.int x1] (ok_fMd_isTime X.l X.N M x1) rfl mw_X11_isTime wd_1365 rfl rfl rfl dX11_later_1 (fun z1 => ?_)
  refine a_if_eq (pc := 4) C 38 dX11_later_4 rfl (fun c2 => ?_) (fun c2 => ?_)
  · replace h := iteT c2 h
    refine a_iconst (pc := 38) C (-1) dX11_later_38 rfl ?_
    exact a_iret (pc := 39) C E rfl (som1 h) (som2 h) dX11_later_39
  · replace h := iteF c2 h
    refine a_iload_n (pc := 7) C dX11_later_7 rfl 3 rfl ?_
    refine a_iconst (pc := 8) C 0 dX11_later_8 rfl ?_
    refine a_iconst (pc := 9) C 1 dX11_later_9 rfl ?_
    refine a_callSI (pc := 10) C [.int x3, .int 0, .int 1] (ok_fMd_within X.l X.N M x3 0 1) rfl mw_X11_within wd_1220 rfl rfl rfl dX11_later_10 (fun z3 => ?_)
    refine a_if_eq (pc := 13) C 38 dX11_later_13 rfl (fun c4 => ?_) (fun c4 => ?_)
    · replace h := iteT c4 h
      refine a_iconst (pc := 38) C (-1) dX11_later_38 rfl ?_
      exact a_iret (pc := 39) C E rfl (som1 h) (som2 h) dX11_later_39
    · replace h := iteF c4 h
      refine a_iload_n (pc := 16) C dX11_later_16 rfl 3 rfl ?_
      refine a_if_ne (pc := 17) C 30 dX11_later_17 rfl (fun c5 => ?_) (fun c5 => ?_)
      · replace h := iteT c5 h
        refine a_aload_n (pc := 30) C dX11_later_30 rfl 0 rfl ?_
        refine a_iload_n (pc := 31) C dX11_later_31 rfl 2 rfl ?_
        refine a_callVI (pc := 32) C [.int x2] (ok_fMd_isOne X.l X.N M x2) rfl mw_X11_isOne wd_1247 rfl rfl rfl rfl rfl rfl rfl dX11_later_32 (fun z6 => ?_)
        refine a_if_ne (pc := 35) C 40 dX11_later_35 rfl (fun c7 => ?_) (fun c7 => ?_)
        · replace h := iteT c7 h
          refine a_sub (lv2 := [(0, .ref (X.N.2.1 66)), (1, .int x1), (2, .int x2), (3, .int x3)]) [0, 1, 2, 3] rfl ?_
          exact ok_fMd_later_J40 eL C r M0 E M x1 x2 x3 h
        · replace h := iteF c7 h
          refine a_iconst (pc := 38) C (-1) dX11_later_38 rfl ?_
          exact a_iret (pc := 39) C E rfl (som1 h) (som2 h) dX11_later_39
      · replace h := iteF c5 h
        refine a_iload_n (pc := 20) C dX11_later_20 rfl 2 rfl ?_
        refine a_callSI (pc := 21) C [.int x2] (ok_fMd_isCell X.l X.N M x2) rfl mw_X11_isCell wd_1217 rfl rfl rfl dX11_later_21 (fun z16 => ?_)
        refine a_if_eq (pc := 24) C 38 dX11_later_24 rfl (fun c17 => ?_) (fun c17 => ?_)
        · replace h := iteT c17 h
          refine a_iconst (pc := 38) C (-1) dX11_later_38 rfl ?_
          exact a_iret (pc := 39) C E rfl (som1 h) (som2 h) dX11_later_39
        · replace h := iteF c17 h
          refine a_goto (pc := 27) C 40 dX11_later_27 rfl ?_
          refine a_sub (lv2 := [(0, .ref (X.N.2.1 66)), (1, .int x1), (2, .int x2), (3, .int x3)]) [0, 1, 2, 3] rfl ?_
          exact ok_fMd_later_J40 eL C r M0 E M x1 x2 x3 h
set_option maxHeartbeats 200000 in
set_option maxRecDepth 100000 in
theorem ok_fMd_all (l : Launch) (N : Rig) (M : Mem) (x1 : Int32) (x2 : Int32) {r : Int32} {M0 : Mem} (h : fMd_all M x1 x2 = some (r, M0)) : Ct l N yX11_all cX11_all 4 (some .int) 6 [.ref (N.2.1 66), .int x1, .int x2] M (QcI N (some .int) r M0) := by
  refine ct_of (by decide) rfl ?_
  intro X el eN eL C E
  subst el
  subst eN
  unfold fMd_all at h
  show WA X M [(0, .ref (X.N.2.1 66)), (1, .int x1), (2, .int x2)] 0 []
  refine a_iload_n (pc := 0) C dX11_all_0 rfl 1 rfl ?_
  refine a_callSI (pc := 1) C [.int x1] (ok_fMd_isTime X.l X.N M x1) rfl mw_X11_isTime wd_1365 rfl rfl rfl dX11_all_1 (fun z1 => ?_)
  refine a_if_eq (pc := 4) C 16 dX11_all_4 rfl (fun c2 => ?_) (fun c2 => ?_)
  · replace h := iteT c2 h
    refine a_iconst (pc := 16) C (-1) dX11_all_16 rfl ?_
    exact a_iret (pc := 17) C E rfl (som1 h) (som2 h) dX11_all_17
  · replace h := iteF c2 h
    refine a_iload_n (pc := 7) C dX11_all_7 rfl 2 rfl ?_
    refine a_iconst (pc := 8) C 0 dX11_all_8 rfl ?_
    refine a_iconst (pc := 9) C 1 dX11_all_9 rfl ?_
    refine a_callSI (pc := 10) C [.int x2, .int 0, .int 1] (ok_fMd_within X.l X.N M x2 0 1) rfl mw_X11_within wd_1220 rfl rfl rfl dX11_all_10 (fun z3 => ?_)
    refine a_if_ne (pc := 13) C 18 dX11_all_13 rfl (fun c4 => ?_) (fun c4 => ?_)
    · replace h := iteT c4 h
      refine a_aload_n (pc := 18) C dX11_all_18 rfl 0 rfl ?_
      refine a_aload_n (pc := 19) C dX11_all_19 rfl 0 rfl ?_
      refine gf_11_42 (pc := 20) C wd_1119 dX11_all_20 ?_
      obtain ⟨q5, eq5, h⟩ := bndS h
      refine a_callVV (pc := 23) C [.ref (X.N.2.1 92)] (ok_fMd_keeps X.l X.N M 92 kp92 eq5) rfl mw_X11_keeps wd_1368 rfl rfl rfl rfl rfl rfl rfl dX11_all_23 ?_
      refine a_aload_n (pc := 26) C dX11_all_26 rfl 0 rfl ?_
      refine a_iload_n (pc := 27) C dX11_all_27 rfl 1 rfl ?_
      obtain ⟨q6, eq6, h⟩ := bndS h
      refine a_callVV (pc := 28) C [.int x1] (ok_fMd_goesOn X.l X.N q5 x1 eq6) rfl mw_X11_goesOn wd_1372 rfl rfl rfl rfl rfl rfl rfl dX11_all_28 ?_
      refine a_iload_n (pc := 31) C dX11_all_31 rfl 2 rfl ?_
      refine a_if_ne (pc := 32) C 42 dX11_all_32 rfl (fun c7 => ?_) (fun c7 => ?_)
      · replace h := iteT c7 h
        refine a_aload_n (pc := 42) C dX11_all_42 rfl 0 rfl ?_
        obtain ⟨v8, ev8, h⟩ := bndS h
        refine a_callVI (pc := 43) C [] (ok_fMd_luckiest X.l X.N q6 ev8) rfl mw_X11_luckiest wd_1396 rfl rfl rfl rfl rfl rfl rfl dX11_all_43 (fun z9 => ?_)
        refine a_istore_n (pc := 46) C [(3, .int v8), (0, .ref (X.N.2.1 66)), (1, .int x1), (2, .int x2)] dX11_all_46 rfl (nlt eL rfl) rfl ?_
        refine a_aload_n (pc := 47) C dX11_all_47 rfl 1 rfl ?_
        refine a_aload_n (pc := 48) C dX11_all_48 rfl 1 rfl ?_
        refine gf_11_42 (pc := 49) C wd_1119 dX11_all_49 ?_
        obtain ⟨q10, eq10, h⟩ := bndS h
        refine a_callVV (pc := 52) C [.ref (X.N.2.1 92)] (ok_fMd_laysBack X.l X.N q6 92 kp92 eq10) rfl mw_X11_laysBack wd_1384 rfl rfl rfl rfl rfl rfl rfl dX11_all_52 ?_
        refine a_iload_n (pc := 55) C dX11_all_55 rfl 0 rfl ?_
        exact a_iret (pc := 56) C E rfl (som1 h) (som2 h) dX11_all_56
      · replace h := iteF c7 h
        refine a_aload_n (pc := 35) C dX11_all_35 rfl 0 rfl ?_
        obtain ⟨v11, ev11, h⟩ := bndS h
        refine a_callVI (pc := 36) C [] (ok_fMd_allLuck X.l X.N q6 ev11) rfl mw_X11_allLuck wd_1392 rfl rfl rfl rfl rfl rfl rfl dX11_all_36 (fun z12 => ?_)
        refine a_goto (pc := 39) C 46 dX11_all_39 rfl ?_
        refine a_istore_n (pc := 46) C [(3, .int v11), (0, .ref (X.N.2.1 66)), (1, .int x1), (2, .int x2)] dX11_all_46 rfl (nlt eL rfl) rfl ?_
        refine a_aload_n (pc := 47) C dX11_all_47 rfl 1 rfl ?_
        refine a_aload_n (pc := 48) C dX11_all_48 rfl 1 rfl ?_
        refine gf_11_42 (pc := 49) C wd_1119 dX11_all_49 ?_
        obtain ⟨q13, eq13, h⟩ := bndS h
        refine a_callVV (pc := 52) C [.ref (X.N.2.1 92)] (ok_fMd_laysBack X.l X.N q6 92 kp92 eq13) rfl mw_X11_laysBack wd_1384 rfl rfl rfl rfl rfl rfl rfl dX11_all_52 ?_
        refine a_iload_n (pc := 55) C dX11_all_55 rfl 0 rfl ?_
        exact a_iret (pc := 56) C E rfl (som1 h) (som2 h) dX11_all_56
    · replace h := iteF c4 h
      refine a_iconst (pc := 16) C (-1) dX11_all_16 rfl ?_
      exact a_iret (pc := 17) C E rfl (som1 h) (som2 h) dX11_all_17
set_option maxHeartbeats 200000 in
set_option maxRecDepth 100000 in
theorem ok_fMd_isAsThen_L2 {X : Amb} (eL : X.nL = 2) (C : Cx X RX11 cX11_isAsThen 1) (M : Mem) (r : Int32) (E : En X (some .boolean) (QcI X.N (some .boolean) r M)) (t : (Int32) ⊕ (Unit)) (KR : ∀ r0, t = Sum.inl r0 → r0 = r) (KX : ∀ o, t = Sum.inr o → WA X M [(0, .ref (X.N.2.1 66))] 31 []) : ∀ (n : Nat) (x1 : Int32), fMd_isAsThen_L2 n M x1 = some t → WA X M [(0, .ref (X.N.2.1 66)), (1, .int x1)] 2 [] := by
  intro n
  induction n with
  | zero => intro _ h; cases h
  | succ n ih =>
    intro x1 h
    replace h : fMd_isAsThen_L2_F (fMd_isAsThen_L2 n) M x1 = some t := h
    unfold fMd_isAsThen_L2_F at h
    refine a_iload_n (pc := 2) C dX11_isAsThen_2 rfl 1 rfl ?_
    refine a_bipush (pc := 3) C 36 dX11_isAsThen_3 rfl ?_
    refine a_icmp_ge (pc := 5) C 31 dX11_isAsThen_5 rfl (fun c1 => ?_) (fun c1 => ?_)
    · replace h := iteT c1 h
      refine a_sub (lv2 := [(0, .ref (X.N.2.1 66))]) [0] rfl ?_
      exact KX () (somI h).symm
    · replace h := iteF c1 h
      refine a_aload_n (pc := 8) C dX11_isAsThen_8 rfl 0 rfl ?_
      refine gf_11_1 (pc := 9) C wd_1078 dX11_isAsThen_9 ?_
      refine a_iload_n (pc := 12) C dX11_isAsThen_12 rfl 1 rfl ?_
      obtain ⟨v2, ev2, h⟩ := bndS h
      refine a_iald (pc := 13) C rfl ev2 dX11_isAsThen_13 ?_
      refine a_aload_n (pc := 14) C dX11_isAsThen_14 rfl 0 rfl ?_
      refine gf_11_44 (pc := 15) C wd_1121 dX11_isAsThen_15 ?_
      refine a_iload_n (pc := 18) C dX11_isAsThen_18 rfl 1 rfl ?_
      obtain ⟨v3, ev3, h⟩ := bndS h
      refine a_iald (pc := 19) C rfl ev3 dX11_isAsThen_19 ?_
      refine a_icmp_eq (pc := 20) C 25 dX11_isAsThen_20 rfl (fun c4 => ?_) (fun c4 => ?_)
      · replace h := iteT c4 h
        refine a_iinc (pc := 25) C 1 (x1 + 1) [(1, .int (x1 + 1)), (0, .ref (X.N.2.1 66))] dX11_isAsThen_25 rfl rfl (nlt eL rfl) rfl ?_
        refine a_goto (pc := 28) C 2 dX11_isAsThen_28 rfl ?_
        refine a_sub [1, 0] rfl ?_
        exact ih (x1 + 1) h
      · replace h := iteF c4 h
        refine a_iconst (pc := 23) C 0 dX11_isAsThen_23 rfl ?_
        exact a_iret (pc := 24) C E rfl (KR _ (somI h).symm) rfl dX11_isAsThen_24
set_option maxHeartbeats 200000 in
set_option maxRecDepth 100000 in
theorem ok_fMd_isAsThen_L33 {X : Amb} (eL : X.nL = 2) (C : Cx X RX11 cX11_isAsThen 1) (M : Mem) (r : Int32) (E : En X (some .boolean) (QcI X.N (some .boolean) r M)) : ∀ (n : Nat) (x1 : Int32), fMd_isAsThen_L33 n M x1 = some r → WA X M [(0, .ref (X.N.2.1 66)), (1, .int x1)] 33 [] := by
  intro n
  induction n with
  | zero => intro _ h; cases h
  | succ n ih =>
    intro x1 h
    replace h : fMd_isAsThen_L33_F (fMd_isAsThen_L33 n) M x1 = some r := h
    unfold fMd_isAsThen_L33_F at h
    refine a_iload_n (pc := 33) C dX11_isAsThen_33 rfl 1 rfl ?_
    refine a_aload_n (pc := 34) C dX11_isAsThen_34 rfl 0 rfl ?_
    refine gf_11_3 (pc := 35) C wd_1080 dX11_isAsThen_35 ?_
    refine a_icmp_ge (pc := 38) C 66 dX11_isAsThen_38 rfl (fun c7 => ?_) (fun c7 => ?_)
    · replace h := iteT c7 h
      refine a_iconst (pc := 66) C 1 dX11_isAsThen_66 rfl ?_
      exact a_iret (pc := 67) C E rfl (somI h) rfl dX11_isAsThen_67
    · replace h := iteF c7 h
      refine a_aload_n (pc := 41) C dX11_isAsThen_41 rfl 0 rfl ?_
      refine a_iload_n (pc := 42) C dX11_isAsThen_42 rfl 1 rfl ?_
      obtain ⟨v8, ev8, h⟩ := bndS h
      refine a_callVI (pc := 43) C [.int x1] (ok_fMd_has X.l X.N M x1 ev8) rfl mw_X11_has wd_1380 rfl rfl rfl rfl rfl rfl rfl dX11_isAsThen_43 (fun z9 => ?_)
      refine a_aload_n (pc := 46) C dX11_isAsThen_46 rfl 0 rfl ?_
      refine gf_11_44 (pc := 47) C wd_1121 dX11_isAsThen_47 ?_
      refine a_bipush (pc := 50) C 96 dX11_isAsThen_50 rfl ?_
      refine a_iload_n (pc := 52) C dX11_isAsThen_52 rfl 1 rfl ?_
      refine a_iadd (pc := 53) C dX11_isAsThen_53 ?_
      obtain ⟨v10, ev10, h⟩ := bndS h
      refine a_iald (pc := 54) C rfl ev10 dX11_isAsThen_54 ?_
      refine a_icmp_eq (pc := 55) C 60 dX11_isAsThen_55 rfl (fun c11 => ?_) (fun c11 => ?_)
      · replace h := iteT c11 h
        refine a_iinc (pc := 60) C 1 (x1 + 1) [(1, .int (x1 + 1)), (0, .ref (X.N.2.1 66))] dX11_isAsThen_60 rfl rfl (nlt eL rfl) rfl ?_
        refine a_goto (pc := 63) C 33 dX11_isAsThen_63 rfl ?_
        refine a_sub [1, 0] rfl ?_
        exact ih (x1 + 1) h
      · replace h := iteF c11 h
        refine a_iconst (pc := 58) C 0 dX11_isAsThen_58 rfl ?_
        exact a_iret (pc := 59) C E rfl (somI h) rfl dX11_isAsThen_59
set_option maxHeartbeats 200000 in
set_option maxRecDepth 100000 in
theorem ok_fMd_isAsThen (l : Launch) (N : Rig) (M : Mem) {r : Int32} (h : fMd_isAsThen M = some r) : Ct l N yX11_isAsThen cX11_isAsThen 2 (some .boolean) 1 [.ref (N.2.1 66)] M (QcI N (some .boolean) r M) := by
  refine ct_of (by decide) rfl ?_
  intro X el eN eL C E
  subst el
  subst eN
  unfold fMd_isAsThen at h
  show WA X M [(0, .ref (X.N.2.1 66))] 0 []
  refine a_iconst (pc := 0) C 0 dX11_isAsThen_0 rfl ?_
  refine a_istore_n (pc := 1) C [(1, .int 0), (0, .ref (X.N.2.1 66))] dX11_isAsThen_1 rfl (nlt eL rfl) rfl ?_
  refine a_sub (lv2 := [(0, .ref (X.N.2.1 66)), (1, .int 0)]) [1, 0] rfl ?_
  obtain ⟨t6, et6, h⟩ := bndS h
  refine ok_fMd_isAsThen_L2 eL C M r E t6 (fun r0 er => ?_) (fun o5 eo => ?_) FU 0 et6
  · subst er; exact somI h
  · subst eo
    refine a_iconst (pc := 31) C 0 dX11_isAsThen_31 rfl ?_
    refine a_istore_n (pc := 32) C [(1, .int 0), (0, .ref (X.N.2.1 66))] dX11_isAsThen_32 rfl (nlt eL rfl) rfl ?_
    refine a_sub (lv2 := [(0, .ref (X.N.2.1 66)), (1, .int 0)]) [1, 0] rfl ?_
    exact ok_fMd_isAsThen_L33 eL C M r E FU 0 h
set_option maxHeartbeats 200000 in
set_option maxRecDepth 100000 in
theorem ok_fMd_still_L13 {X : Amb} (eL : X.nL = 3) (C : Cx X RX11 cX11_still 5) (o : Mem × Int32) (K : WA X o.1 [(0, .ref (X.N.2.1 66)), (1, .int o.2)] 52 []) : ∀ (n : Nat) (M : Mem) (x1 : Int32) (x2 : Int32), fMd_still_L13 n M x1 x2 = some o → WA X M [(0, .ref (X.N.2.1 66)), (1, .int x1), (2, .int x2)] 13 [] := by
  intro n
  induction n with
  | zero => intro _ _ _ h; cases h
  | succ n ih =>
    intro M x1 x2 h
    replace h : fMd_still_L13_F (fMd_still_L13 n) M x1 x2 = some o := h
    unfold fMd_still_L13_F at h
    refine a_iload_n (pc := 13) C dX11_still_13 rfl 2 rfl ?_
    refine a_bipush (pc := 14) C 49 dX11_still_14 rfl ?_
    refine a_icmp_ge (pc := 16) C 52 dX11_still_16 rfl (fun c2 => ?_) (fun c2 => ?_)
    · replace h := iteT c2 h
      refine a_sub (lv2 := [(0, .ref (X.N.2.1 66)), (1, .int x1)]) [0, 1] rfl ?_
      cases somI h
      exact K
    · replace h := iteF c2 h
      refine a_iload_n (pc := 19) C dX11_still_19 rfl 1 rfl ?_
      refine a_bipush (pc := 20) C (-2) dX11_still_20 rfl ?_
      refine a_icmp_ne (pc := 22) C 52 dX11_still_22 rfl (fun c3 => ?_) (fun c3 => ?_)
      · replace h := iteT c3 h
        refine a_sub (lv2 := [(0, .ref (X.N.2.1 66)), (1, .int x1)]) [0, 1] rfl ?_
        cases somI h
        exact K
      · replace h := iteF c3 h
        refine a_aload_n (pc := 25) C dX11_still_25 rfl 0 rfl ?_
        refine a_aload_n (pc := 26) C dX11_still_26 rfl 0 rfl ?_
        refine gf_11_44 (pc := 27) C wd_1121 dX11_still_27 ?_
        obtain ⟨q4, eq4, h⟩ := bndS h
        refine a_callVV (pc := 30) C [.ref (X.N.2.1 94)] (ok_fMd_keeps X.l X.N M 94 kp94 eq4) rfl mw_X11_keeps wd_1368 rfl rfl rfl rfl rfl rfl rfl dX11_still_30 ?_
        refine a_aload_n (pc := 33) C dX11_still_33 rfl 0 rfl ?_
        obtain ⟨q5, eq5, h⟩ := bndS h
        refine a_callVV (pc := 34) C [] (ok_fMd_passes X.l X.N q4 eq5) rfl mw_X11_passes wd_1376 rfl rfl rfl rfl rfl rfl rfl dX11_still_34 ?_
        refine a_aload_n (pc := 37) C dX11_still_37 rfl 0 rfl ?_
        obtain ⟨v6, ev6, h⟩ := bndS h
        refine a_callVI (pc := 38) C [] (ok_fMd_isAsThen X.l X.N q5 ev6) rfl mw_X11_isAsThen wd_1404 rfl rfl rfl rfl rfl rfl rfl dX11_still_38 (fun z7 => ?_)
        refine a_if_eq (pc := 41) C 46 dX11_still_41 rfl (fun c8 => ?_) (fun c8 => ?_)
        · replace h := iteT c8 h
          refine a_iinc (pc := 46) C 2 (x2 + 1) [(2, .int (x2 + 1)), (0, .ref (X.N.2.1 66)), (1, .int x1)] dX11_still_46 rfl rfl (nlt eL rfl) rfl ?_
          refine a_goto (pc := 49) C 13 dX11_still_49 rfl ?_
          refine a_sub [1, 2, 0] rfl ?_
          exact ih q5 x1 (x2 + 1) h
        · replace h := iteF c8 h
          refine a_iload_n (pc := 44) C dX11_still_44 rfl 2 rfl ?_
          refine a_istore_n (pc := 45) C [(1, .int x2), (0, .ref (X.N.2.1 66)), (2, .int x2)] dX11_still_45 rfl (nlt eL rfl) rfl ?_
          refine a_iinc (pc := 46) C 2 (x2 + 1) [(2, .int (x2 + 1)), (1, .int x2), (0, .ref (X.N.2.1 66))] dX11_still_46 rfl rfl (nlt eL rfl) rfl ?_
          refine a_goto (pc := 49) C 13 dX11_still_49 rfl ?_
          refine a_sub [2, 1, 0] rfl ?_
          exact ih q5 x2 (x2 + 1) h
set_option maxHeartbeats 200000 in
set_option maxRecDepth 100000 in
theorem ok_fMd_still (l : Launch) (N : Rig) (M : Mem) {r : Int32} {M0 : Mem} (h : fMd_still M = some (r, M0)) : Ct l N yX11_still cX11_still 3 (some .int) 5 [.ref (N.2.1 66)] M (QcI N (some .int) r M0) := by
  refine ct_of (by decide) rfl ?_
  intro X el eN eL C E
  subst el
  subst eN
  unfold fMd_still at h
  show WA X M [(0, .ref (X.N.2.1 66))] 0 []
  refine a_aload_n (pc := 0) C dX11_still_0 rfl 0 rfl ?_
  refine a_aload_n (pc := 1) C dX11_still_1 rfl 0 rfl ?_
  refine gf_11_42 (pc := 2) C wd_1119 dX11_still_2 ?_
  obtain ⟨q1, eq1, h⟩ := bndS h
  refine a_callVV (pc := 5) C [.ref (X.N.2.1 92)] (ok_fMd_keeps X.l X.N M 92 kp92 eq1) rfl mw_X11_keeps wd_1368 rfl rfl rfl rfl rfl rfl rfl dX11_still_5 ?_
  refine a_bipush (pc := 8) C (-2) dX11_still_8 rfl ?_
  refine a_istore_n (pc := 10) C [(1, .int (-2)), (0, .ref (X.N.2.1 66))] dX11_still_10 rfl (nlt eL rfl) rfl ?_
  refine a_iconst (pc := 11) C 0 dX11_still_11 rfl ?_
  refine a_istore_n (pc := 12) C [(2, .int 0), (1, .int (-2)), (0, .ref (X.N.2.1 66))] dX11_still_12 rfl (nlt eL rfl) rfl ?_
  refine a_sub (lv2 := [(0, .ref (X.N.2.1 66)), (1, .int (-2)), (2, .int 0)]) [2, 1, 0] rfl ?_
  obtain ⟨o9, eo9, h⟩ := bndS h
  refine ok_fMd_still_L13 eL C o9 ?_ FU q1 (-2) 0 eo9
  refine a_aload_n (pc := 52) C dX11_still_52 rfl 0 rfl ?_
  refine a_aload_n (pc := 53) C dX11_still_53 rfl 0 rfl ?_
  refine gf_11_42 (pc := 54) C wd_1119 dX11_still_54 ?_
  obtain ⟨q10, eq10, h⟩ := bndS h
  refine a_callVV (pc := 57) C [.ref (X.N.2.1 92)] (ok_fMd_laysBack X.l X.N o9.1 92 kp92 eq10) rfl mw_X11_laysBack wd_1384 rfl rfl rfl rfl rfl rfl rfl dX11_still_57 ?_
  refine a_iload_n (pc := 60) C dX11_still_60 rfl 1 rfl ?_
  exact a_iret (pc := 61) C E rfl (som1 h) (som2 h) dX11_still_61
set_option maxHeartbeats 200000 in
set_option maxRecDepth 100000 in
theorem ok_fMd_rich_J57_35 {X : Amb} (eL : X.nL = 5) (C : Cx X RX11 cX11_rich 5) (x1 : Int32) (x2 : Int32) (o : Mem × Int32) (K : WA X o.1 [(0, .ref (X.N.2.1 66)), (3, .int o.2)] 75 []) (ihf : Mem → Int32 → Int32 → Int32 → Int32 → Option (Mem × Int32)) (ih : ∀ (M : Mem) (x3 : Int32) (x4 : Int32), ihf M x1 x2 x3 x4 = some o → WA X M [(0, .ref (X.N.2.1 66)), (1, .int x1), (2, .int x2), (3, .int x3), (4, .int x4)] 35 []) (M : Mem) (x3 : Int32) (x4 : Int32) (h : fMd_rich_J57_35 ihf M x1 x2 x3 x4 = some o) : WA X M [(0, .ref (X.N.2.1 66)), (1, .int x1), (2, .int x2), (3, .int x3), (4, .int x4)] 57 [] := by
  unfold fMd_rich_J57_35 at h
  refine a_aload_n (pc := 57) C dX11_rich_57 rfl 0 rfl ?_
  refine a_iload_n (pc := 58) C dX11_rich_58 rfl 1 rfl ?_
  obtain ⟨v9, ev9, h⟩ := bndS h
  refine a_callVI (pc := 59) C [.int x1] (ok_fMd_has X.l X.N M x1 ev9) rfl mw_X11_has wd_1380 rfl rfl rfl rfl rfl rfl rfl dX11_rich_59 (fun z10 => ?_)
  refine a_iload_n (pc := 62) C dX11_rich_62 rfl 2 rfl ?_
  refine a_icmp_lt (pc := 63) C 69 dX11_rich_63 rfl (fun c11 => ?_) (fun c11 => ?_)
  · replace h := iteT c11 h
    refine a_iinc (pc := 69) C 4 (x4 + 1) [(4, .int (x4 + 1)), (0, .ref (X.N.2.1 66)), (1, .int x1), (2, .int x2), (3, .int x3)] dX11_rich_69 rfl rfl (nlt eL rfl) rfl ?_
    refine a_goto (pc := 72) C 35 dX11_rich_72 rfl ?_
    refine a_sub [1, 2, 3, 4, 0] rfl ?_
    exact ih M x3 (x4 + 1) h
  · replace h := iteF c11 h
    refine a_iload (pc := 66) C dX11_rich_66 4 rfl ?_
    refine a_istore_n (pc := 68) C [(3, .int x4), (0, .ref (X.N.2.1 66)), (1, .int x1), (2, .int x2), (4, .int x4)] dX11_rich_68 rfl (nlt eL rfl) rfl ?_
    refine a_iinc (pc := 69) C 4 (x4 + 1) [(4, .int (x4 + 1)), (3, .int x4), (0, .ref (X.N.2.1 66)), (1, .int x1), (2, .int x2)] dX11_rich_69 rfl rfl (nlt eL rfl) rfl ?_
    refine a_goto (pc := 72) C 35 dX11_rich_72 rfl ?_
    refine a_sub [2, 3, 4, 1, 0] rfl ?_
    exact ih M x4 (x4 + 1) h
set_option maxHeartbeats 200000 in
set_option maxRecDepth 100000 in
theorem ok_fMd_rich_L35 {X : Amb} (eL : X.nL = 5) (C : Cx X RX11 cX11_rich 5) (x1 : Int32) (x2 : Int32) (o : Mem × Int32) (K : WA X o.1 [(0, .ref (X.N.2.1 66)), (3, .int o.2)] 75 []) : ∀ (n : Nat) (M : Mem) (x3 : Int32) (x4 : Int32), fMd_rich_L35 n M x1 x2 x3 x4 = some o → WA X M [(0, .ref (X.N.2.1 66)), (1, .int x1), (2, .int x2), (3, .int x3), (4, .int x4)] 35 [] := by
  intro n
  induction n with
  | zero => intro _ _ _ h; cases h
  | succ n ih =>
    intro M x3 x4 h
    replace h : fMd_rich_L35_F (fMd_rich_L35 n) M x1 x2 x3 x4 = some o := h
    unfold fMd_rich_L35_F at h
    refine a_iload (pc := 35) C dX11_rich_35 4 rfl ?_
    refine a_bipush (pc := 37) C 49 dX11_rich_37 rfl ?_
    refine a_icmp_ge (pc := 39) C 75 dX11_rich_39 rfl (fun c6 => ?_) (fun c6 => ?_)
    · replace h := iteT c6 h
      refine a_sub (lv2 := [(0, .ref (X.N.2.1 66)), (3, .int x3)]) [0, 3] rfl ?_
      cases somI h
      exact K
    · replace h := iteF c6 h
      refine a_iload_n (pc := 42) C dX11_rich_42 rfl 3 rfl ?_
      refine a_bipush (pc := 43) C (-2) dX11_rich_43 rfl ?_
      refine a_icmp_ne (pc := 45) C 75 dX11_rich_45 rfl (fun c7 => ?_) (fun c7 => ?_)
      · replace h := iteT c7 h
        refine a_sub (lv2 := [(0, .ref (X.N.2.1 66)), (3, .int x3)]) [0, 3] rfl ?_
        cases somI h
        exact K
      · replace h := iteF c7 h
        refine a_iload (pc := 48) C dX11_rich_48 4 rfl ?_
        refine a_if_le (pc := 50) C 57 dX11_rich_50 rfl (fun c8 => ?_) (fun c8 => ?_)
        · replace h := iteT c8 h
          refine a_sub (lv2 := [(0, .ref (X.N.2.1 66)), (1, .int x1), (2, .int x2), (3, .int x3), (4, .int x4)]) [0, 1, 2, 3, 4] rfl ?_
          exact ok_fMd_rich_J57_35 eL C x1 x2 o K _ ih M x3 x4 h
        · replace h := iteF c8 h
          refine a_aload_n (pc := 53) C dX11_rich_53 rfl 0 rfl ?_
          obtain ⟨q12, eq12, h⟩ := bndS h
          refine a_callVV (pc := 54) C [] (ok_fMd_passes X.l X.N M eq12) rfl mw_X11_passes wd_1376 rfl rfl rfl rfl rfl rfl rfl dX11_rich_54 ?_
          refine a_sub (lv2 := [(0, .ref (X.N.2.1 66)), (1, .int x1), (2, .int x2), (3, .int x3), (4, .int x4)]) [0, 1, 2, 3, 4] rfl ?_
          exact ok_fMd_rich_J57_35 eL C x1 x2 o K _ ih q12 x3 x4 h
set_option maxHeartbeats 200000 in
set_option maxRecDepth 100000 in
theorem ok_fMd_rich (l : Launch) (N : Rig) (M : Mem) (x1 : Int32) (x2 : Int32) {r : Int32} {M0 : Mem} (h : fMd_rich M x1 x2 = some (r, M0)) : Ct l N yX11_rich cX11_rich 5 (some .int) 5 [.ref (N.2.1 66), .int x1, .int x2] M (QcI N (some .int) r M0) := by
  refine ct_of (by decide) rfl ?_
  intro X el eN eL C E
  subst el
  subst eN
  unfold fMd_rich at h
  show WA X M [(0, .ref (X.N.2.1 66)), (1, .int x1), (2, .int x2)] 0 []
  refine a_aload_n (pc := 0) C dX11_rich_0 rfl 0 rfl ?_
  refine a_iload_n (pc := 1) C dX11_rich_1 rfl 1 rfl ?_
  refine a_callVI (pc := 2) C [.int x1] (ok_fMd_isOne X.l X.N M x1) rfl mw_X11_isOne wd_1247 rfl rfl rfl rfl rfl rfl rfl dX11_rich_2 (fun z1 => ?_)
  refine a_if_eq (pc := 5) C 19 dX11_rich_5 rfl (fun c2 => ?_) (fun c2 => ?_)
  · replace h := iteT c2 h
    refine a_iconst (pc := 19) C (-1) dX11_rich_19 rfl ?_
    exact a_iret (pc := 20) C E rfl (som1 h) (som2 h) dX11_rich_20
  · replace h := iteF c2 h
    refine a_iload_n (pc := 8) C dX11_rich_8 rfl 2 rfl ?_
    refine a_iconst (pc := 9) C 0 dX11_rich_9 rfl ?_
    refine a_sipush (pc := 10) C 9999 dX11_rich_10 rfl ?_
    refine a_callSI (pc := 13) C [.int x2, .int 0, .int 9999] (ok_fMd_within X.l X.N M x2 0 9999) rfl mw_X11_within wd_1220 rfl rfl rfl dX11_rich_13 (fun z3 => ?_)
    refine a_if_ne (pc := 16) C 21 dX11_rich_16 rfl (fun c4 => ?_) (fun c4 => ?_)
    · replace h := iteT c4 h
      refine a_aload_n (pc := 21) C dX11_rich_21 rfl 0 rfl ?_
      refine a_aload_n (pc := 22) C dX11_rich_22 rfl 0 rfl ?_
      refine gf_11_42 (pc := 23) C wd_1119 dX11_rich_23 ?_
      obtain ⟨q5, eq5, h⟩ := bndS h
      refine a_callVV (pc := 26) C [.ref (X.N.2.1 92)] (ok_fMd_keeps X.l X.N M 92 kp92 eq5) rfl mw_X11_keeps wd_1368 rfl rfl rfl rfl rfl rfl rfl dX11_rich_26 ?_
      refine a_bipush (pc := 29) C (-2) dX11_rich_29 rfl ?_
      refine a_istore_n (pc := 31) C [(3, .int (-2)), (0, .ref (X.N.2.1 66)), (1, .int x1), (2, .int x2)] dX11_rich_31 rfl (nlt eL rfl) rfl ?_
      refine a_iconst (pc := 32) C 0 dX11_rich_32 rfl ?_
      refine a_istore (pc := 33) C [(4, .int 0), (3, .int (-2)), (0, .ref (X.N.2.1 66)), (1, .int x1), (2, .int x2)] dX11_rich_33 (nlt eL rfl) rfl ?_
      refine a_sub (lv2 := [(0, .ref (X.N.2.1 66)), (1, .int x1), (2, .int x2), (3, .int (-2)), (4, .int 0)]) [2, 3, 4, 1, 0] rfl ?_
      obtain ⟨o13, eo13, h⟩ := bndS h
      refine ok_fMd_rich_L35 eL C x1 x2 o13 ?_ FU q5 (-2) 0 eo13
      refine a_aload_n (pc := 75) C dX11_rich_75 rfl 0 rfl ?_
      refine a_aload_n (pc := 76) C dX11_rich_76 rfl 0 rfl ?_
      refine gf_11_42 (pc := 77) C wd_1119 dX11_rich_77 ?_
      obtain ⟨q14, eq14, h⟩ := bndS h
      refine a_callVV (pc := 80) C [.ref (X.N.2.1 92)] (ok_fMd_laysBack X.l X.N o13.1 92 kp92 eq14) rfl mw_X11_laysBack wd_1384 rfl rfl rfl rfl rfl rfl rfl dX11_rich_80 ?_
      refine a_iload_n (pc := 83) C dX11_rich_83 rfl 1 rfl ?_
      exact a_iret (pc := 84) C E rfl (som1 h) (som2 h) dX11_rich_84
    · replace h := iteF c4 h
      refine a_iconst (pc := 19) C (-1) dX11_rich_19 rfl ?_
      exact a_iret (pc := 20) C E rfl (som1 h) (som2 h) dX11_rich_20
set_option maxHeartbeats 200000 in
set_option maxRecDepth 100000 in
theorem ok_fMd_sink_L23 {X : Amb} (eL : X.nL = 5) (C : Cx X RX11 cX11_sink 2) (x2 : Int32) (M : Mem) (o : Int32 × Int32) (K : WA X M [(2, .int x2), (3, .int o.1), (4, .int o.2)] 43 []) : ∀ (n : Nat) (x3 : Int32) (x4 : Int32), fMd_sink_L23 n M x3 x4 = some o → WA X M [(0, .ref (X.N.2.1 66)), (2, .int x2), (3, .int x3), (4, .int x4)] 23 [] := by
  intro n
  induction n with
  | zero => intro _ _ h; cases h
  | succ n ih =>
    intro x3 x4 h
    replace h : fMd_sink_L23_F (fMd_sink_L23 n) M x3 x4 = some o := h
    unfold fMd_sink_L23_F at h
    refine a_aload_n (pc := 23) C dX11_sink_23 rfl 0 rfl ?_
    refine a_iload_n (pc := 24) C dX11_sink_24 rfl 2 rfl ?_
    obtain ⟨v5, ev5, h⟩ := bndS h
    refine a_callVI (pc := 25) C [.int x3] (ok_fMd_below X.l X.N M x3 ev5) rfl mw_X11_below wd_1333 rfl rfl rfl rfl rfl rfl rfl dX11_sink_25 (fun z6 => ?_)
    refine a_if_lt (pc := 28) C 43 dX11_sink_28 rfl (fun c7 => ?_) (fun c7 => ?_)
    · replace h := iteT c7 h
      refine a_sub (lv2 := [(2, .int x2), (3, .int x3), (4, .int x4)]) [1, 2, 3] rfl ?_
      cases somI h
      exact K
    · replace h := iteF c7 h
      refine a_aload_n (pc := 31) C dX11_sink_31 rfl 0 rfl ?_
      refine a_iload_n (pc := 32) C dX11_sink_32 rfl 2 rfl ?_
      obtain ⟨v8, ev8, h⟩ := bndS h
      refine a_callVI (pc := 33) C [.int x3] (ok_fMd_below X.l X.N M x3 ev8) rfl mw_X11_below wd_1333 rfl rfl rfl rfl rfl rfl rfl dX11_sink_33 (fun z9 => ?_)
      refine a_istore_n (pc := 36) C [(3, .int v8), (0, .ref (X.N.2.1 66)), (2, .int x2), (4, .int x4)] dX11_sink_36 rfl (nlt eL rfl) rfl ?_
      refine a_iinc (pc := 37) C 3 (x4 + 1) [(4, .int (x4 + 1)), (3, .int v8), (0, .ref (X.N.2.1 66)), (2, .int x2)] dX11_sink_37 rfl rfl (nlt eL rfl) rfl ?_
      refine a_goto (pc := 40) C 23 dX11_sink_40 rfl ?_
      refine a_sub [2, 3, 1, 0] rfl ?_
      exact ih v8 (x4 + 1) h
set_option maxHeartbeats 200000 in
set_option maxRecDepth 100000 in
theorem ok_fMd_sink (l : Launch) (N : Rig) (M : Mem) (x1 : Int32) (x2 : Int32) {r : Int32} (h : fMd_sink M x1 x2 = some r) : Ct l N yX11_sink cX11_sink 5 (some .int) 2 [.ref (N.2.1 66), .int x1, .int x2] M (QcI N (some .int) r M) := by
  refine ct_of (by decide) rfl ?_
  intro X el eN eL C E
  subst el
  subst eN
  unfold fMd_sink at h
  show WA X M [(0, .ref (X.N.2.1 66)), (1, .int x1), (2, .int x2)] 0 []
  refine a_iload_n (pc := 0) C dX11_sink_0 rfl 1 rfl ?_
  refine a_callSI (pc := 1) C [.int x1] (ok_fMd_isCell X.l X.N M x1) rfl mw_X11_isCell wd_1217 rfl rfl rfl dX11_sink_1 (fun z1 => ?_)
  refine a_if_eq (pc := 4) C 16 dX11_sink_4 rfl (fun c2 => ?_) (fun c2 => ?_)
  · replace h := iteT c2 h
    refine a_iconst (pc := 16) C (-1) dX11_sink_16 rfl ?_
    exact a_iret (pc := 17) C E rfl (somI h) rfl dX11_sink_17
  · replace h := iteF c2 h
    refine a_iload_n (pc := 7) C dX11_sink_7 rfl 2 rfl ?_
    refine a_iconst (pc := 8) C 0 dX11_sink_8 rfl ?_
    refine a_iconst (pc := 9) C 1 dX11_sink_9 rfl ?_
    refine a_callSI (pc := 10) C [.int x2, .int 0, .int 1] (ok_fMd_within X.l X.N M x2 0 1) rfl mw_X11_within wd_1220 rfl rfl rfl dX11_sink_10 (fun z3 => ?_)
    refine a_if_ne (pc := 13) C 18 dX11_sink_13 rfl (fun c4 => ?_) (fun c4 => ?_)
    · replace h := iteT c4 h
      refine a_iload_n (pc := 18) C dX11_sink_18 rfl 1 rfl ?_
      refine a_istore_n (pc := 19) C [(3, .int x1), (0, .ref (X.N.2.1 66)), (1, .int x1), (2, .int x2)] dX11_sink_19 rfl (nlt eL rfl) rfl ?_
      refine a_iconst (pc := 20) C 0 dX11_sink_20 rfl ?_
      refine a_istore (pc := 21) C [(4, .int 0), (3, .int x1), (0, .ref (X.N.2.1 66)), (1, .int x1), (2, .int x2)] dX11_sink_21 (nlt eL rfl) rfl ?_
      refine a_sub (lv2 := [(0, .ref (X.N.2.1 66)), (2, .int x2), (3, .int x1), (4, .int 0)]) [2, 4, 1, 0] rfl ?_
      obtain ⟨o10, eo10, h⟩ := bndS h
      refine ok_fMd_sink_L23 eL C x2 M o10 ?_ FU x1 0 eo10
      refine a_iload_n (pc := 43) C dX11_sink_43 rfl 0 rfl ?_
      refine a_if_ne (pc := 44) C 51 dX11_sink_44 rfl (fun c11 => ?_) (fun c11 => ?_)
      · replace h := iteT c11 h
        refine a_iload (pc := 51) C dX11_sink_51 2 rfl ?_
        exact a_iret (pc := 53) C E rfl (somI h) rfl dX11_sink_53
      · replace h := iteF c11 h
        refine a_iload_n (pc := 47) C dX11_sink_47 rfl 1 rfl ?_
        refine a_goto (pc := 48) C 53 dX11_sink_48 rfl ?_
        exact a_iret (pc := 53) C E rfl (somI h) rfl dX11_sink_53
    · replace h := iteF c4 h
      refine a_iconst (pc := 16) C (-1) dX11_sink_16 rfl ?_
      exact a_iret (pc := 17) C E rfl (somI h) rfl dX11_sink_17
set_option maxHeartbeats 200000 in
set_option maxRecDepth 100000 in
theorem ok_fMd_comesTo_L2 {X : Amb} (eL : X.nL = 4) (C : Cx X RX11 cX11_comesTo 2) (x2 : Int32) (M : Mem) (o : Int32) (K : WA X M [(2, .int x2), (3, .int o)] 20 []) : ∀ (n : Nat) (x3 : Int32), fMd_comesTo_L2 n M x2 x3 = some o → WA X M [(0, .ref (X.N.2.1 66)), (2, .int x2), (3, .int x3)] 2 [] := by
  intro n
  induction n with
  | zero => intro _ h; cases h
  | succ n ih =>
    intro x3 h
    replace h : fMd_comesTo_L2_F (fMd_comesTo_L2 n) M x2 x3 = some o := h
    unfold fMd_comesTo_L2_F at h
    refine a_iload_n (pc := 2) C dX11_comesTo_2 rfl 2 rfl ?_
    refine a_if_lt (pc := 3) C 20 dX11_comesTo_3 rfl (fun c1 => ?_) (fun c1 => ?_)
    · replace h := iteT c1 h
      refine a_sub (lv2 := [(2, .int x2), (3, .int x3)]) [1, 2] rfl ?_
      cases somI h
      exact K
    · replace h := iteF c1 h
      refine a_iload_n (pc := 6) C dX11_comesTo_6 rfl 2 rfl ?_
      refine a_iload_n (pc := 7) C dX11_comesTo_7 rfl 1 rfl ?_
      refine a_icmp_eq (pc := 8) C 20 dX11_comesTo_8 rfl (fun c2 => ?_) (fun c2 => ?_)
      · replace h := iteT c2 h
        refine a_sub (lv2 := [(2, .int x2), (3, .int x3)]) [1, 2] rfl ?_
        cases somI h
        exact K
      · replace h := iteF c2 h
        refine a_aload_n (pc := 11) C dX11_comesTo_11 rfl 0 rfl ?_
        refine a_iload_n (pc := 12) C dX11_comesTo_12 rfl 2 rfl ?_
        obtain ⟨v3, ev3, h⟩ := bndS h
        refine a_callVI (pc := 13) C [.int x3] (ok_fMd_below X.l X.N M x3 ev3) rfl mw_X11_below wd_1333 rfl rfl rfl rfl rfl rfl rfl dX11_comesTo_13 (fun z4 => ?_)
        refine a_istore_n (pc := 16) C [(3, .int v3), (0, .ref (X.N.2.1 66)), (2, .int x2)] dX11_comesTo_16 rfl (nlt eL rfl) rfl ?_
        refine a_goto (pc := 17) C 2 dX11_comesTo_17 rfl ?_
        refine a_sub [1, 2, 0] rfl ?_
        exact ih v3 h
set_option maxHeartbeats 200000 in
set_option maxRecDepth 100000 in
theorem ok_fMd_comesTo_J20 {X : Amb} (eL : X.nL = 4) (C : Cx X RX11 cX11_comesTo 2) (M : Mem) (r : Int32) (E : En X (some .boolean) (QcI X.N (some .boolean) r M)) (x2 : Int32) (x3 : Int32) (h : fMd_comesTo_J20 M x2 x3 = some r) : WA X M [(2, .int x2), (3, .int x3)] 20 [] := by
  unfold fMd_comesTo_J20 at h
  refine a_iload_n (pc := 20) C dX11_comesTo_20 rfl 1 rfl ?_
  refine a_iload_n (pc := 21) C dX11_comesTo_21 rfl 0 rfl ?_
  refine a_icmp_ne (pc := 22) C 29 dX11_comesTo_22 rfl (fun c6 => ?_) (fun c6 => ?_)
  · replace h := iteT c6 h
    refine a_iconst (pc := 29) C 0 dX11_comesTo_29 rfl ?_
    exact a_iret (pc := 30) C E rfl (somI h) rfl dX11_comesTo_30
  · replace h := iteF c6 h
    refine a_iconst (pc := 25) C 1 dX11_comesTo_25 rfl ?_
    refine a_goto (pc := 26) C 30 dX11_comesTo_26 rfl ?_
    exact a_iret (pc := 30) C E rfl (somI h) rfl dX11_comesTo_30
set_option maxHeartbeats 200000 in
set_option maxRecDepth 100000 in
theorem ok_fMd_comesTo (l : Launch) (N : Rig) (M : Mem) (x1 : Int32) (x2 : Int32) {r : Int32} (h : fMd_comesTo M x1 x2 = some r) : Ct l N yX11_comesTo cX11_comesTo 4 (some .boolean) 2 [.ref (N.2.1 66), .int x1, .int x2] M (QcI N (some .boolean) r M) := by
  refine ct_of (by decide) rfl ?_
  intro X el eN eL C E
  subst el
  subst eN
  unfold fMd_comesTo at h
  show WA X M [(0, .ref (X.N.2.1 66)), (1, .int x1), (2, .int x2)] 0 []
  refine a_iload_n (pc := 0) C dX11_comesTo_0 rfl 1 rfl ?_
  refine a_istore_n (pc := 1) C [(3, .int x1), (0, .ref (X.N.2.1 66)), (1, .int x1), (2, .int x2)] dX11_comesTo_1 rfl (nlt eL rfl) rfl ?_
  refine a_sub (lv2 := [(0, .ref (X.N.2.1 66)), (2, .int x2), (3, .int x1)]) [1, 3, 0] rfl ?_
  obtain ⟨o5, eo5, h⟩ := bndS h
  refine ok_fMd_comesTo_L2 eL C x2 M o5 ?_ FU x1 eo5
  refine a_sub (lv2 := [(2, .int x2), (3, .int o5)]) [0, 1] rfl ?_
  exact ok_fMd_comesTo_J20 eL C M r E x2 o5 h
set_option maxHeartbeats 200000 in
set_option maxRecDepth 100000 in
theorem ok_fMd_basin_J55_21 {X : Amb} (eL : X.nL = 5) (C : Cx X RX11 cX11_basin 3) (x1 : Int32) (M : Mem) (o : Int64) (K : WA X M [(2, .long o)] 68 []) (ihf : Mem → Int32 → Int64 → Int32 → Option (Int64)) (ih : ∀ (y2 : Int64) (x4 : Int32), ihf M x1 y2 x4 = some o → WA X M [(0, .ref (X.N.2.1 66)), (1, .int x1), (2, .long y2), (4, .int x4)] 21 []) (y2 : Int64) (x4 : Int32) (h : fMd_basin_J55_21 ihf M x1 y2 x4 = some o) : WA X M [(0, .ref (X.N.2.1 66)), (1, .int x1), (2, .long y2), (4, .int x4)] 55 [] := by
  unfold fMd_basin_J55_21 at h
  refine a_lload_n (pc := 55) C dX11_basin_55 rfl 2 rfl ?_
  refine a_lconst (pc := 56) C 1 dX11_basin_56 rfl ?_
  refine a_iload (pc := 57) C dX11_basin_57 3 rfl ?_
  refine a_lshl (pc := 59) C dX11_basin_59 ?_
  refine a_lor (pc := 60) C dX11_basin_60 ?_
  refine a_lstore_n (pc := 61) C [(2, .long (y2 ||| (slL 1 x4))), (0, .ref (X.N.2.1 66)), (1, .int x1), (4, .int x4)] dX11_basin_61 rfl (nltL eL rfl) rfl ?_
  refine a_iinc (pc := 62) C 3 (x4 + 1) [(4, .int (x4 + 1)), (2, .long (y2 ||| (slL 1 x4))), (0, .ref (X.N.2.1 66)), (1, .int x1)] dX11_basin_62 rfl rfl (nlt eL rfl) rfl ?_
  refine a_goto (pc := 65) C 21 dX11_basin_65 rfl ?_
  refine a_sub [2, 3, 1, 0] rfl ?_
  exact ih (y2 ||| (slL 1 x4)) (x4 + 1) h
set_option maxHeartbeats 200000 in
set_option maxRecDepth 100000 in
theorem ok_fMd_basin_L21 {X : Amb} (eL : X.nL = 5) (C : Cx X RX11 cX11_basin 3) (x1 : Int32) (M : Mem) (o : Int64) (K : WA X M [(2, .long o)] 68 []) : ∀ (n : Nat) (y2 : Int64) (x4 : Int32), fMd_basin_L21 n M x1 y2 x4 = some o → WA X M [(0, .ref (X.N.2.1 66)), (1, .int x1), (2, .long y2), (4, .int x4)] 21 [] := by
  intro n
  induction n with
  | zero => intro _ _ h; cases h
  | succ n ih =>
    intro y2 x4 h
    replace h : fMd_basin_L21_F (fMd_basin_L21 n) M x1 y2 x4 = some o := h
    unfold fMd_basin_L21_F at h
    refine a_iload (pc := 21) C dX11_basin_21 3 rfl ?_
    refine a_bipush (pc := 23) C 36 dX11_basin_23 rfl ?_
    refine a_icmp_ge (pc := 25) C 68 dX11_basin_25 rfl (fun c2 => ?_) (fun c2 => ?_)
    · replace h := iteT c2 h
      refine a_sub (lv2 := [(2, .long y2)]) [2] rfl ?_
      cases somI h
      exact K
    · replace h := iteF c2 h
      refine a_iload_n (pc := 28) C dX11_basin_28 rfl 1 rfl ?_
      refine a_iconst (pc := 29) C (-1) dX11_basin_29 rfl ?_
      refine a_icmp_ne (pc := 30) C 45 dX11_basin_30 rfl (fun c3 => ?_) (fun c3 => ?_)
      · replace h := iteT c3 h
        refine a_aload_n (pc := 45) C dX11_basin_45 rfl 0 rfl ?_
        refine a_iload (pc := 46) C dX11_basin_46 3 rfl ?_
        refine a_iload_n (pc := 48) C dX11_basin_48 rfl 1 rfl ?_
        obtain ⟨v4, ev4, h⟩ := bndS h
        refine a_callVI (pc := 49) C [.int x4, .int x1] (ok_fMd_comesTo X.l X.N M x4 x1 ev4) rfl mw_X11_comesTo wd_1421 rfl rfl rfl rfl rfl rfl rfl dX11_basin_49 (fun z5 => ?_)
        refine a_if_eq (pc := 52) C 62 dX11_basin_52 rfl (fun c6 => ?_) (fun c6 => ?_)
        · replace h := iteT c6 h
          refine a_iinc (pc := 62) C 3 (x4 + 1) [(4, .int (x4 + 1)), (0, .ref (X.N.2.1 66)), (1, .int x1), (2, .long y2)] dX11_basin_62 rfl rfl (nlt eL rfl) rfl ?_
          refine a_goto (pc := 65) C 21 dX11_basin_65 rfl ?_
          refine a_sub [1, 2, 3, 0] rfl ?_
          exact ih y2 (x4 + 1) h
        · replace h := iteF c6 h
          refine a_sub (lv2 := [(0, .ref (X.N.2.1 66)), (1, .int x1), (2, .long y2), (4, .int x4)]) [0, 1, 2, 3] rfl ?_
          exact ok_fMd_basin_J55_21 eL C x1 M o K _ ih y2 x4 h
      · replace h := iteF c3 h
        refine a_aload_n (pc := 33) C dX11_basin_33 rfl 0 rfl ?_
        refine a_iload (pc := 34) C dX11_basin_34 3 rfl ?_
        obtain ⟨v7, ev7, h⟩ := bndS h
        refine a_callVI (pc := 36) C [.int x4] (ok_fMd_below X.l X.N M x4 ev7) rfl mw_X11_below wd_1333 rfl rfl rfl rfl rfl rfl rfl dX11_basin_36 (fun z8 => ?_)
        refine a_if_ge (pc := 39) C 62 dX11_basin_39 rfl (fun c9 => ?_) (fun c9 => ?_)
        · replace h := iteT c9 h
          refine a_iinc (pc := 62) C 3 (x4 + 1) [(4, .int (x4 + 1)), (0, .ref (X.N.2.1 66)), (1, .int x1), (2, .long y2)] dX11_basin_62 rfl rfl (nlt eL rfl) rfl ?_
          refine a_goto (pc := 65) C 21 dX11_basin_65 rfl ?_
          refine a_sub [1, 2, 3, 0] rfl ?_
          exact ih y2 (x4 + 1) h
        · replace h := iteF c9 h
          refine a_goto (pc := 42) C 55 dX11_basin_42 rfl ?_
          refine a_sub (lv2 := [(0, .ref (X.N.2.1 66)), (1, .int x1), (2, .long y2), (4, .int x4)]) [0, 1, 2, 3] rfl ?_
          exact ok_fMd_basin_J55_21 eL C x1 M o K _ ih y2 x4 h
set_option maxHeartbeats 200000 in
set_option maxRecDepth 100000 in
theorem ok_fMd_basin_J16 {X : Amb} (eL : X.nL = 5) (C : Cx X RX11 cX11_basin 3) (M : Mem) (r : Int64) (E : En X (some .long) (QcL X.N r M)) (x1 : Int32) (h : fMd_basin_J16 M x1 = some r) : WA X M [(0, .ref (X.N.2.1 66)), (1, .int x1)] 16 [] := by
  unfold fMd_basin_J16 at h
  refine a_lconst (pc := 16) C 0 dX11_basin_16 rfl ?_
  refine a_lstore_n (pc := 17) C [(2, .long 0), (0, .ref (X.N.2.1 66)), (1, .int x1)] dX11_basin_17 rfl (nltL eL rfl) rfl ?_
  refine a_iconst (pc := 18) C 0 dX11_basin_18 rfl ?_
  refine a_istore (pc := 19) C [(4, .int 0), (2, .long 0), (0, .ref (X.N.2.1 66)), (1, .int x1)] dX11_basin_19 (nlt eL rfl) rfl ?_
  refine a_sub (lv2 := [(0, .ref (X.N.2.1 66)), (1, .int x1), (2, .long 0), (4, .int 0)]) [2, 3, 1, 0] rfl ?_
  obtain ⟨o10, eo10, h⟩ := bndS h
  refine ok_fMd_basin_L21 eL C x1 M o10 ?_ FU 0 0 eo10
  refine a_lload_n (pc := 68) C dX11_basin_68 rfl 0 rfl ?_
  exact a_lret (pc := 69) C E (somI h) rfl dX11_basin_69
set_option maxHeartbeats 200000 in
set_option maxRecDepth 100000 in
theorem ok_fMd_basin (l : Launch) (N : Rig) (M : Mem) (x1 : Int32) {r : Int64} (h : fMd_basin M x1 = some r) : Ct l N yX11_basin cX11_basin 5 (some .long) 3 [.ref (N.2.1 66), .int x1] M (QcL N r M) := by
  refine ct_of (by decide) rfl ?_
  intro X el eN eL C E
  subst el
  subst eN
  unfold fMd_basin at h
  show WA X M [(0, .ref (X.N.2.1 66)), (1, .int x1)] 0 []
  refine a_iload_n (pc := 0) C dX11_basin_0 rfl 1 rfl ?_
  refine a_iconst (pc := 1) C (-1) dX11_basin_1 rfl ?_
  refine a_icmp_eq (pc := 2) C 16 dX11_basin_2 rfl (fun c1 => ?_) (fun c1 => ?_)
  · replace h := iteT c1 h
    refine a_sub (lv2 := [(0, .ref (X.N.2.1 66)), (1, .int x1)]) [0, 1] rfl ?_
    exact ok_fMd_basin_J16 eL C M r E x1 h
  · replace h := iteF c1 h
    refine a_iload_n (pc := 5) C dX11_basin_5 rfl 1 rfl ?_
    refine a_callSI (pc := 6) C [.int x1] (ok_fMd_isCell X.l X.N M x1) rfl mw_X11_isCell wd_1217 rfl rfl rfl dX11_basin_6 (fun z11 => ?_)
    refine a_if_ne (pc := 9) C 16 dX11_basin_9 rfl (fun c12 => ?_) (fun c12 => ?_)
    · replace h := iteT c12 h
      refine a_sub (lv2 := [(0, .ref (X.N.2.1 66)), (1, .int x1)]) [0, 1] rfl ?_
      exact ok_fMd_basin_J16 eL C M r E x1 h
    · replace h := iteF c12 h
      refine a_ldc2_w (pc := 12) C (v := (-9223372036854775808)) dX11_basin_12 wd_1420 ?_
      exact a_lret (pc := 15) C E (somI h) rfl dX11_basin_15
set_option maxHeartbeats 200000 in
set_option maxRecDepth 100000 in
theorem ok_fMd_measured (l : Launch) (N : Rig) (M : Mem) (x1 : Int32) {r : Int32} (h : fMd_measured M x1 = some r) : Ct l N yX11_measured cX11_measured 2 (some .int) 1 [.ref (N.2.1 66), .int x1] M (QcI N (some .int) r M) := by
  refine ct_of (by decide) rfl ?_
  intro X el eN eL C E
  subst el
  subst eN
  unfold fMd_measured at h
  show WA X M [(0, .ref (X.N.2.1 66)), (1, .int x1)] 0 []
  refine a_iload_n (pc := 0) C dX11_measured_0 rfl 1 rfl ?_
  refine a_iconst (pc := 1) C (-1) dX11_measured_1 rfl ?_
  refine a_icmp_ne (pc := 2) C 12 dX11_measured_2 rfl (fun c1 => ?_) (fun c1 => ?_)
  · replace h := iteT c1 h
    refine a_aload_n (pc := 12) C dX11_measured_12 rfl 0 rfl ?_
    refine a_iload_n (pc := 13) C dX11_measured_13 rfl 1 rfl ?_
    obtain ⟨v2, ev2, h⟩ := bndS h
    refine a_callVI (pc := 14) C [.int x1] (ok_fMd_has X.l X.N M x1 ev2) rfl mw_X11_has wd_1380 rfl rfl rfl rfl rfl rfl rfl dX11_measured_14 (fun z3 => ?_)
    exact a_iret (pc := 17) C E rfl (somI h) rfl dX11_measured_17
  · replace h := iteF c1 h
    refine a_aload_n (pc := 5) C dX11_measured_5 rfl 0 rfl ?_
    obtain ⟨v4, ev4, h⟩ := bndS h
    refine a_callVI (pc := 6) C [] (ok_fMd_allLuck X.l X.N M ev4) rfl mw_X11_allLuck wd_1392 rfl rfl rfl rfl rfl rfl rfl dX11_measured_6 (fun z5 => ?_)
    refine a_goto (pc := 9) C 17 dX11_measured_9 rfl ?_
    exact a_iret (pc := 17) C E rfl (somI h) rfl dX11_measured_17
set_option maxHeartbeats 200000 in
set_option maxRecDepth 100000 in
theorem ok_fMd_fall_J52 {X : Amb} (eL : X.nL = 6) (C : Cx X RX11 cX11_fall 6) (r : Int32) (M0 : Mem) (E : En X (some .int) (QcI X.N (some .int) r M0)) (M : Mem) (x1 : Int32) (x2 : Int32) (x3 : Int32) (h : fMd_fall_J52 M x1 x2 x3 = some (r, M0)) : WA X M [(0, .ref (X.N.2.1 66)), (1, .int x1), (2, .int x2), (3, .int x3)] 52 [] := by
  unfold fMd_fall_J52 at h
  refine a_aload_n (pc := 52) C dX11_fall_52 rfl 0 rfl ?_
  refine a_aload_n (pc := 53) C dX11_fall_53 rfl 0 rfl ?_
  refine gf_11_42 (pc := 54) C wd_1119 dX11_fall_54 ?_
  obtain ⟨q9, eq9, h⟩ := bndS h
  refine a_callVV (pc := 57) C [.ref (X.N.2.1 92)] (ok_fMd_keeps X.l X.N M 92 kp92 eq9) rfl mw_X11_keeps wd_1368 rfl rfl rfl rfl rfl rfl rfl dX11_fall_57 ?_
  refine a_aload_n (pc := 60) C dX11_fall_60 rfl 0 rfl ?_
  refine a_iload_n (pc := 61) C dX11_fall_61 rfl 1 rfl ?_
  refine a_bipush (pc := 62) C 100 dX11_fall_62 rfl ?_
  refine a_irem (pc := 64) C dX11_fall_64 (by decide) ?_
  obtain ⟨q10, eq10, h⟩ := bndS h
  refine a_callVV (pc := 65) C [.int (rmI x1 100)] (ok_fMd_goesOn X.l X.N q9 (rmI x1 100) eq10) rfl mw_X11_goesOn wd_1372 rfl rfl rfl rfl rfl rfl rfl dX11_fall_65 ?_
  refine a_aload_n (pc := 68) C dX11_fall_68 rfl 0 rfl ?_
  refine a_iload_n (pc := 69) C dX11_fall_69 rfl 3 rfl ?_
  obtain ⟨v11, ev11, h⟩ := bndS h
  refine a_callVI (pc := 70) C [.int x3] (ok_fMd_measured X.l X.N q10 x3 ev11) rfl mw_X11_measured wd_1430 rfl rfl rfl rfl rfl rfl rfl dX11_fall_70 (fun z12 => ?_)
  refine a_istore (pc := 73) C [(4, .int v11), (0, .ref (X.N.2.1 66)), (1, .int x1), (2, .int x2), (3, .int x3)] dX11_fall_73 (nlt eL rfl) rfl ?_
  refine a_aload_n (pc := 75) C dX11_fall_75 rfl 1 rfl ?_
  refine a_aload_n (pc := 76) C dX11_fall_76 rfl 1 rfl ?_
  refine gf_11_42 (pc := 77) C wd_1119 dX11_fall_77 ?_
  obtain ⟨q13, eq13, h⟩ := bndS h
  refine a_callVV (pc := 80) C [.ref (X.N.2.1 92)] (ok_fMd_laysBack X.l X.N q10 92 kp92 eq13) rfl mw_X11_laysBack wd_1384 rfl rfl rfl rfl rfl rfl rfl dX11_fall_80 ?_
  refine a_aload_n (pc := 83) C dX11_fall_83 rfl 1 rfl ?_
  refine gf_11_1 (pc := 84) C wd_1078 dX11_fall_84 ?_
  refine a_iload_n (pc := 87) C dX11_fall_87 rfl 2 rfl ?_
  refine a_bipush (pc := 88) C 100 dX11_fall_88 rfl ?_
  refine a_idiv (pc := 90) C dX11_fall_90 (by decide) ?_
  refine a_sipush (pc := 91) C 9999 dX11_fall_91 rfl ?_
  refine a_aload_n (pc := 94) C dX11_fall_94 rfl 1 rfl ?_
  refine gf_11_1 (pc := 95) C wd_1078 dX11_fall_95 ?_
  refine a_iload_n (pc := 98) C dX11_fall_98 rfl 2 rfl ?_
  refine a_bipush (pc := 99) C 100 dX11_fall_99 rfl ?_
  refine a_idiv (pc := 101) C dX11_fall_101 (by decide) ?_
  obtain ⟨v14, ev14, h⟩ := bndS h
  refine a_iald (pc := 102) C rfl ev14 dX11_fall_102 ?_
  refine a_iload_n (pc := 103) C dX11_fall_103 rfl 3 rfl ?_
  refine a_iadd (pc := 104) C dX11_fall_104 ?_
  refine a_mmin (pc := 105) C rfl wd_1359 wd_652 wd_94 wd_653 rfl dX11_fall_105 ?_
  obtain ⟨M15, eM15, h⟩ := bndS h
  refine a_iast (pc := 108) C rfl eM15 dX11_fall_108 ?_
  refine a_aload_n (pc := 109) C dX11_fall_109 rfl 1 rfl ?_
  refine a_iload_n (pc := 110) C dX11_fall_110 rfl 2 rfl ?_
  refine a_bipush (pc := 111) C 100 dX11_fall_111 rfl ?_
  refine a_irem (pc := 113) C dX11_fall_113 (by decide) ?_
  obtain ⟨q16, eq16, h⟩ := bndS h
  refine a_callVV (pc := 114) C [.int (rmI x1 100)] (ok_fMd_goesOn X.l X.N M15 (rmI x1 100) eq16) rfl mw_X11_goesOn wd_1372 rfl rfl rfl rfl rfl rfl rfl dX11_fall_114 ?_
  refine a_aload_n (pc := 117) C dX11_fall_117 rfl 1 rfl ?_
  refine a_iload_n (pc := 118) C dX11_fall_118 rfl 4 rfl ?_
  obtain ⟨v17, ev17, h⟩ := bndS h
  refine a_callVI (pc := 119) C [.int x3] (ok_fMd_measured X.l X.N q16 x3 ev17) rfl mw_X11_measured wd_1430 rfl rfl rfl rfl rfl rfl rfl dX11_fall_119 (fun z18 => ?_)
  refine a_iload (pc := 122) C dX11_fall_122 0 rfl ?_
  refine a_isub (pc := 124) C dX11_fall_124 ?_
  refine a_istore (pc := 125) C [(5, .int (v17 - v11)), (4, .int v11), (0, .ref (X.N.2.1 66)), (1, .int x1), (2, .int x2), (3, .int x3)] dX11_fall_125 (nlt eL rfl) rfl ?_
  refine a_aload_n (pc := 127) C dX11_fall_127 rfl 2 rfl ?_
  refine a_aload_n (pc := 128) C dX11_fall_128 rfl 2 rfl ?_
  refine gf_11_42 (pc := 129) C wd_1119 dX11_fall_129 ?_
  obtain ⟨q19, eq19, h⟩ := bndS h
  refine a_callVV (pc := 132) C [.ref (X.N.2.1 92)] (ok_fMd_laysBack X.l X.N q16 92 kp92 eq19) rfl mw_X11_laysBack wd_1384 rfl rfl rfl rfl rfl rfl rfl dX11_fall_132 ?_
  refine a_iload (pc := 135) C dX11_fall_135 0 rfl ?_
  exact a_iret (pc := 137) C E rfl (som1 h) (som2 h) dX11_fall_137
set_option maxHeartbeats 200000 in
set_option maxRecDepth 100000 in
theorem ok_fMd_fall (l : Launch) (N : Rig) (M : Mem) (x1 : Int32) (x2 : Int32) (x3 : Int32) {r : Int32} {M0 : Mem} (h : fMd_fall M x1 x2 x3 = some (r, M0)) : Ct l N yX11_fall cX11_fall 6 (some .int) 6 [.ref (N.2.1 66), .int x1, .int x2, .int x3] M (QcI N (some .int) r M0) := by
  refine ct_of (by decide) rfl ?_
  intro X el eN eL C E
  subst el
  subst eN
  unfold fMd_fall at h
  show WA X M [(0, .ref (X.N.2.1 66)), (1, .int x1), (2, .int x2), (3, .int x3)] 0 []
  refine a_iload_n (pc := 0) C dX11_fall_0 rfl 1 rfl ?_
  refine a_if_lt (pc := 1) C 48 dX11_fall_1 rfl (fun c1 => ?_) (fun c1 => ?_)
  · replace h := iteT c1 h
    refine a_ldc_w (pc := 48) C (v := (-2000000000)) dX11_fall_48 wd_1429 ?_
    exact a_iret (pc := 51) C E rfl (som1 h) (som2 h) dX11_fall_51
  · replace h := iteF c1 h
    refine a_iload_n (pc := 4) C dX11_fall_4 rfl 1 rfl ?_
    refine a_bipush (pc := 5) C 100 dX11_fall_5 rfl ?_
    refine a_idiv (pc := 7) C dX11_fall_7 (by decide) ?_
    refine a_callSI (pc := 8) C [.int (x1 / 100)] (ok_fMd_isCell X.l X.N M (x1 / 100)) rfl mw_X11_isCell wd_1217 rfl rfl rfl dX11_fall_8 (fun z2 => ?_)
    refine a_if_eq (pc := 11) C 48 dX11_fall_11 rfl (fun c3 => ?_) (fun c3 => ?_)
    · replace h := iteT c3 h
      refine a_ldc_w (pc := 48) C (v := (-2000000000)) dX11_fall_48 wd_1429 ?_
      exact a_iret (pc := 51) C E rfl (som1 h) (som2 h) dX11_fall_51
    · replace h := iteF c3 h
      refine a_iload_n (pc := 14) C dX11_fall_14 rfl 1 rfl ?_
      refine a_bipush (pc := 15) C 100 dX11_fall_15 rfl ?_
      refine a_irem (pc := 17) C dX11_fall_17 (by decide) ?_
      refine a_callSI (pc := 18) C [.int (rmI x1 100)] (ok_fMd_isTime X.l X.N M (rmI x1 100)) rfl mw_X11_isTime wd_1365 rfl rfl rfl dX11_fall_18 (fun z4 => ?_)
      refine a_if_eq (pc := 21) C 48 dX11_fall_21 rfl (fun c5 => ?_) (fun c5 => ?_)
      · replace h := iteT c5 h
        refine a_ldc_w (pc := 48) C (v := (-2000000000)) dX11_fall_48 wd_1429 ?_
        exact a_iret (pc := 51) C E rfl (som1 h) (som2 h) dX11_fall_51
      · replace h := iteF c5 h
        refine a_iload_n (pc := 24) C dX11_fall_24 rfl 2 rfl ?_
        refine a_iconst (pc := 25) C 1 dX11_fall_25 rfl ?_
        refine a_sipush (pc := 26) C 9999 dX11_fall_26 rfl ?_
        refine a_callSI (pc := 29) C [.int x2, .int 1, .int 9999] (ok_fMd_within X.l X.N M x2 1 9999) rfl mw_X11_within wd_1220 rfl rfl rfl dX11_fall_29 (fun z6 => ?_)
        refine a_if_eq (pc := 32) C 48 dX11_fall_32 rfl (fun c7 => ?_) (fun c7 => ?_)
        · replace h := iteT c7 h
          refine a_ldc_w (pc := 48) C (v := (-2000000000)) dX11_fall_48 wd_1429 ?_
          exact a_iret (pc := 51) C E rfl (som1 h) (som2 h) dX11_fall_51
        · replace h := iteF c7 h
          refine a_iload_n (pc := 35) C dX11_fall_35 rfl 3 rfl ?_
          refine a_iconst (pc := 36) C (-1) dX11_fall_36 rfl ?_
          refine a_icmp_eq (pc := 37) C 52 dX11_fall_37 rfl (fun c8 => ?_) (fun c8 => ?_)
          · replace h := iteT c8 h
            refine a_sub (lv2 := [(0, .ref (X.N.2.1 66)), (1, .int x1), (2, .int x2), (3, .int x3)]) [0, 1, 2, 3] rfl ?_
            exact ok_fMd_fall_J52 eL C r M0 E M x1 x2 x3 h
          · replace h := iteF c8 h
            refine a_aload_n (pc := 40) C dX11_fall_40 rfl 0 rfl ?_
            refine a_iload_n (pc := 41) C dX11_fall_41 rfl 3 rfl ?_
            refine a_callVI (pc := 42) C [.int x3] (ok_fMd_isOne X.l X.N M x3) rfl mw_X11_isOne wd_1247 rfl rfl rfl rfl rfl rfl rfl dX11_fall_42 (fun z20 => ?_)
            refine a_if_ne (pc := 45) C 52 dX11_fall_45 rfl (fun c21 => ?_) (fun c21 => ?_)
            · replace h := iteT c21 h
              refine a_sub (lv2 := [(0, .ref (X.N.2.1 66)), (1, .int x1), (2, .int x2), (3, .int x3)]) [0, 1, 2, 3] rfl ?_
              exact ok_fMd_fall_J52 eL C r M0 E M x1 x2 x3 h
            · replace h := iteF c21 h
              refine a_ldc_w (pc := 48) C (v := (-2000000000)) dX11_fall_48 wd_1429 ?_
              exact a_iret (pc := 51) C E rfl (som1 h) (som2 h) dX11_fall_51
set_option maxHeartbeats 200000 in
set_option maxRecDepth 100000 in
theorem ok_fMd_isHung_J32 {X : Amb} (eL : X.nL = 6) (C : Cx X RX11 cX11_isHung 6) (r : Int32) (M0 : Mem) (E : En X (some .boolean) (QcI X.N (some .boolean) r M0)) (M : Mem) (x1 : Int32) (x2 : Int32) (h : fMd_isHung_J32 M x1 x2 = some (r, M0)) : WA X M [(0, .ref (X.N.2.1 66)), (1, .int x1), (2, .int x2)] 32 [] := by
  unfold fMd_isHung_J32 at h
  refine a_aload_n (pc := 32) C dX11_isHung_32 rfl 0 rfl ?_
  refine a_iload_n (pc := 33) C dX11_isHung_33 rfl 2 rfl ?_
  refine a_sipush (pc := 34) C 10000 dX11_isHung_34 rfl ?_
  refine a_idiv (pc := 37) C dX11_isHung_37 (by decide) ?_
  obtain ⟨q4, eq4, h⟩ := bndS h
  refine a_callVV (pc := 38) C [.int (x2 / 10000)] (ok_fMd_goesOn X.l X.N M (x2 / 10000) eq4) rfl mw_X11_goesOn wd_1372 rfl rfl rfl rfl rfl rfl rfl dX11_isHung_38 ?_
  refine a_aload_n (pc := 41) C dX11_isHung_41 rfl 0 rfl ?_
  refine a_iload_n (pc := 42) C dX11_isHung_42 rfl 1 rfl ?_
  obtain ⟨v5, ev5, h⟩ := bndS h
  refine a_callVI (pc := 43) C [.int x1] (ok_fMd_has X.l X.N q4 x1 ev5) rfl mw_X11_has wd_1380 rfl rfl rfl rfl rfl rfl rfl dX11_isHung_43 (fun z6 => ?_)
  refine a_iload_n (pc := 46) C dX11_isHung_46 rfl 2 rfl ?_
  refine a_sipush (pc := 47) C 10000 dX11_isHung_47 rfl ?_
  refine a_irem (pc := 50) C dX11_isHung_50 (by decide) ?_
  refine a_icmp_lt (pc := 51) C 58 dX11_isHung_51 rfl (fun c7 => ?_) (fun c7 => ?_)
  · replace h := iteT c7 h
    refine a_iconst (pc := 58) C 0 dX11_isHung_58 rfl ?_
    refine a_istore (pc := 59) C [(5, .int 0), (0, .ref (X.N.2.1 66)), (1, .int x1), (2, .int x2)] dX11_isHung_59 (nlt eL rfl) rfl ?_
    refine a_aload_n (pc := 61) C dX11_isHung_61 rfl 1 rfl ?_
    refine a_aload_n (pc := 62) C dX11_isHung_62 rfl 1 rfl ?_
    refine gf_11_42 (pc := 63) C wd_1119 dX11_isHung_63 ?_
    obtain ⟨q8, eq8, h⟩ := bndS h
    refine a_callVV (pc := 66) C [.ref (X.N.2.1 92)] (ok_fMd_laysBack X.l X.N q4 92 kp92 eq8) rfl mw_X11_laysBack wd_1384 rfl rfl rfl rfl rfl rfl rfl dX11_isHung_66 ?_
    refine a_iload (pc := 69) C dX11_isHung_69 0 rfl ?_
    exact a_iret (pc := 71) C E rfl (som1 h) (som2 h) dX11_isHung_71
  · replace h := iteF c7 h
    refine a_iconst (pc := 54) C 1 dX11_isHung_54 rfl ?_
    refine a_goto (pc := 55) C 59 dX11_isHung_55 rfl ?_
    refine a_istore (pc := 59) C [(5, .int 1), (0, .ref (X.N.2.1 66)), (1, .int x1), (2, .int x2)] dX11_isHung_59 (nlt eL rfl) rfl ?_
    refine a_aload_n (pc := 61) C dX11_isHung_61 rfl 1 rfl ?_
    refine a_aload_n (pc := 62) C dX11_isHung_62 rfl 1 rfl ?_
    refine gf_11_42 (pc := 63) C wd_1119 dX11_isHung_63 ?_
    obtain ⟨q9, eq9, h⟩ := bndS h
    refine a_callVV (pc := 66) C [.ref (X.N.2.1 92)] (ok_fMd_laysBack X.l X.N q4 92 kp92 eq9) rfl mw_X11_laysBack wd_1384 rfl rfl rfl rfl rfl rfl rfl dX11_isHung_66 ?_
    refine a_iload (pc := 69) C dX11_isHung_69 0 rfl ?_
    exact a_iret (pc := 71) C E rfl (som1 h) (som2 h) dX11_isHung_71
set_option maxHeartbeats 200000 in
set_option maxRecDepth 100000 in
theorem ok_fMd_isHung_J19 {X : Amb} (eL : X.nL = 6) (C : Cx X RX11 cX11_isHung 6) (r : Int32) (M0 : Mem) (E : En X (some .boolean) (QcI X.N (some .boolean) r M0)) (M : Mem) (x1 : Int32) (x2 : Int32) (x4 : Int32) (h : fMd_isHung_J19 M x1 x2 x4 = some (r, M0)) : WA X M [(0, .ref (X.N.2.1 66)), (1, .int x1), (2, .int x2), (4, .int x4)] 19 [] := by
  unfold fMd_isHung_J19 at h
  refine a_iload (pc := 19) C dX11_isHung_19 3 rfl ?_
  refine a_if_lt (pc := 21) C 32 dX11_isHung_21 rfl (fun c3 => ?_) (fun c3 => ?_)
  · replace h := iteT c3 h
    refine a_sub (lv2 := [(0, .ref (X.N.2.1 66)), (1, .int x1), (2, .int x2)]) [0, 1, 2] rfl ?_
    exact ok_fMd_isHung_J32 eL C r M0 E M x1 x2 h
  · replace h := iteF c3 h
    refine a_aload_n (pc := 24) C dX11_isHung_24 rfl 0 rfl ?_
    refine gf_11_2 (pc := 25) C wd_1079 dX11_isHung_25 ?_
    refine a_iload (pc := 28) C dX11_isHung_28 3 rfl ?_
    refine a_iconst (pc := 30) C 1 dX11_isHung_30 rfl ?_
    obtain ⟨M10, eM10, h⟩ := bndS h
    refine a_iast (pc := 31) C rfl eM10 dX11_isHung_31 ?_
    refine a_sub (lv2 := [(0, .ref (X.N.2.1 66)), (1, .int x1), (2, .int x2)]) [0, 1, 2] rfl ?_
    exact ok_fMd_isHung_J32 eL C r M0 E M10 x1 x2 h
set_option maxHeartbeats 200000 in
set_option maxRecDepth 100000 in
theorem ok_fMd_isHung (l : Launch) (N : Rig) (M : Mem) (x1 : Int32) (x2 : Int32) (x3 : Int32) (x4 : Int32) {r : Int32} {M0 : Mem} (h : fMd_isHung M x1 x2 x3 x4 = some (r, M0)) : Ct l N yX11_isHung cX11_isHung 6 (some .boolean) 6 [.ref (N.2.1 66), .int x1, .int x2, .int x3, .int x4] M (QcI N (some .boolean) r M0) := by
  refine ct_of (by decide) rfl ?_
  intro X el eN eL C E
  subst el
  subst eN
  unfold fMd_isHung at h
  show WA X M [(0, .ref (X.N.2.1 66)), (1, .int x1), (2, .int x2), (3, .int x3), (4, .int x4)] 0 []
  refine a_aload_n (pc := 0) C dX11_isHung_0 rfl 0 rfl ?_
  refine a_aload_n (pc := 1) C dX11_isHung_1 rfl 0 rfl ?_
  refine gf_11_42 (pc := 2) C wd_1119 dX11_isHung_2 ?_
  obtain ⟨q1, eq1, h⟩ := bndS h
  refine a_callVV (pc := 5) C [.ref (X.N.2.1 92)] (ok_fMd_keeps X.l X.N M 92 kp92 eq1) rfl mw_X11_keeps wd_1368 rfl rfl rfl rfl rfl rfl rfl dX11_isHung_5 ?_
  refine a_iload_n (pc := 8) C dX11_isHung_8 rfl 3 rfl ?_
  refine a_if_lt (pc := 9) C 19 dX11_isHung_9 rfl (fun c2 => ?_) (fun c2 => ?_)
  · replace h := iteT c2 h
    refine a_sub (lv2 := [(0, .ref (X.N.2.1 66)), (1, .int x1), (2, .int x2), (4, .int x4)]) [0, 1, 2, 4] rfl ?_
    exact ok_fMd_isHung_J19 eL C r M0 E q1 x1 x2 x4 h
  · replace h := iteF c2 h
    refine a_aload_n (pc := 12) C dX11_isHung_12 rfl 0 rfl ?_
    refine gf_11_2 (pc := 13) C wd_1079 dX11_isHung_13 ?_
    refine a_iload_n (pc := 16) C dX11_isHung_16 rfl 3 rfl ?_
    refine a_iconst (pc := 17) C 1 dX11_isHung_17 rfl ?_
    obtain ⟨M11, eM11, h⟩ := bndS h
    refine a_iast (pc := 18) C rfl eM11 dX11_isHung_18 ?_
    refine a_sub (lv2 := [(0, .ref (X.N.2.1 66)), (1, .int x1), (2, .int x2), (4, .int x4)]) [0, 1, 2, 4] rfl ?_
    exact ok_fMd_isHung_J19 eL C r M0 E M11 x1 x2 x4 h
set_option maxHeartbeats 200000 in
set_option maxRecDepth 100000 in
theorem ok_fMd_shoesFor_L16 {X : Amb} (eL : X.nL = 5) (C : Cx X RX11 cX11_shoesFor 7) (x1 : Int32) (x2 : Int32) (r : Int32) (M0 : Mem) (E : En X (some .int) (QcI X.N (some .int) r M0)) (t : (Int32 × Mem) ⊕ (Mem)) (KR : ∀ r0, t = Sum.inl r0 → r0 = (r, M0)) (KX : ∀ o, t = Sum.inr o → WA X o [(0, .ref (X.N.2.1 66)), (1, .int x1), (2, .int x2)] 51 []) : ∀ (n : Nat) (M : Mem) (x3 : Int32), fMd_shoesFor_L16 n M x1 x2 x3 = some t → WA X M [(0, .ref (X.N.2.1 66)), (1, .int x1), (2, .int x2), (3, .int x3)] 16 [] := by
  intro n
  induction n with
  | zero => intro _ _ h; cases h
  | succ n ih =>
    intro M x3 h
    replace h : fMd_shoesFor_L16_F (fMd_shoesFor_L16 n) M x1 x2 x3 = some t := h
    unfold fMd_shoesFor_L16_F at h
    refine a_iload_n (pc := 16) C dX11_shoesFor_16 rfl 3 rfl ?_
    refine a_bipush (pc := 17) C 36 dX11_shoesFor_17 rfl ?_
    refine a_icmp_ge (pc := 19) C 51 dX11_shoesFor_19 rfl (fun c4 => ?_) (fun c4 => ?_)
    · replace h := iteT c4 h
      refine a_sub (lv2 := [(0, .ref (X.N.2.1 66)), (1, .int x1), (2, .int x2)]) [0, 1, 2] rfl ?_
      exact KX M (somI h).symm
    · replace h := iteF c4 h
      refine a_aload_n (pc := 22) C dX11_shoesFor_22 rfl 0 rfl ?_
      refine gf_11_2 (pc := 23) C wd_1079 dX11_shoesFor_23 ?_
      refine a_iload_n (pc := 26) C dX11_shoesFor_26 rfl 3 rfl ?_
      obtain ⟨v5, ev5, h⟩ := bndS h
      refine a_iald (pc := 27) C rfl ev5 dX11_shoesFor_27 ?_
      refine a_iconst (pc := 28) C 1 dX11_shoesFor_28 rfl ?_
      refine a_icmp_eq (pc := 29) C 45 dX11_shoesFor_29 rfl (fun c6 => ?_) (fun c6 => ?_)
      · replace h := iteT c6 h
        refine a_iinc (pc := 45) C 3 (x3 + 1) [(3, .int (x3 + 1)), (0, .ref (X.N.2.1 66)), (1, .int x1), (2, .int x2)] dX11_shoesFor_45 rfl rfl (nlt eL rfl) rfl ?_
        refine a_goto (pc := 48) C 16 dX11_shoesFor_48 rfl ?_
        refine a_sub [1, 2, 3, 0] rfl ?_
        exact ih M (x3 + 1) h
      · replace h := iteF c6 h
        refine a_aload_n (pc := 32) C dX11_shoesFor_32 rfl 0 rfl ?_
        refine a_iload_n (pc := 33) C dX11_shoesFor_33 rfl 1 rfl ?_
        refine a_iload_n (pc := 34) C dX11_shoesFor_34 rfl 2 rfl ?_
        refine a_iload_n (pc := 35) C dX11_shoesFor_35 rfl 3 rfl ?_
        refine a_iconst (pc := 36) C (-1) dX11_shoesFor_36 rfl ?_
        obtain ⟨q7, eq7, h⟩ := bndS h
        refine a_callVI (pc := 37) C [.int x1, .int x2, .int x3, .int (-1)] (ok_fMd_isHung X.l X.N M x1 x2 x3 (-1) eq7) rfl mw_X11_isHung wd_1442 rfl rfl rfl rfl rfl rfl rfl dX11_shoesFor_37 (fun z8 => ?_)
        refine a_if_eq (pc := 40) C 45 dX11_shoesFor_40 rfl (fun c9 => ?_) (fun c9 => ?_)
        · replace h := iteT c9 h
          refine a_iinc (pc := 45) C 3 (x3 + 1) [(3, .int (x3 + 1)), (0, .ref (X.N.2.1 66)), (1, .int x1), (2, .int x2)] dX11_shoesFor_45 rfl rfl (nlt eL rfl) rfl ?_
          refine a_goto (pc := 48) C 16 dX11_shoesFor_48 rfl ?_
          refine a_sub [1, 2, 3, 0] rfl ?_
          exact ih q7.2 (x3 + 1) h
        · replace h := iteF c9 h
          refine a_iload_n (pc := 43) C dX11_shoesFor_43 rfl 3 rfl ?_
          exact a_iret (pc := 44) C E rfl (congrArg Prod.fst (KR _ (somI h).symm)) (congrArg Prod.snd (KR _ (somI h).symm)) dX11_shoesFor_44
set_option maxHeartbeats 200000 in
set_option maxRecDepth 100000 in
theorem ok_fMd_shoesFor_L64 {X : Amb} (eL : X.nL = 5) (C : Cx X RX11 cX11_shoesFor 7) (x1 : Int32) (x2 : Int32) (x3 : Int32) (r : Int32) (M0 : Mem) (E : En X (some .int) (QcI X.N (some .int) r M0)) (t : (Int32 × Mem) ⊕ (Mem)) (KR : ∀ r0, t = Sum.inl r0 → r0 = (r, M0)) (KX : ∀ o, t = Sum.inr o → WA X o [(0, .ref (X.N.2.1 66)), (1, .int x1), (2, .int x2), (3, .int x3)] 118 []) : ∀ (n : Nat) (M : Mem) (x4 : Int32), fMd_shoesFor_L64 n M x1 x2 x3 x4 = some t → WA X M [(0, .ref (X.N.2.1 66)), (1, .int x1), (2, .int x2), (3, .int x3), (4, .int x4)] 64 [] := by
  intro n
  induction n with
  | zero => intro _ _ h; cases h
  | succ n ih =>
    intro M x4 h
    replace h : fMd_shoesFor_L64_F (fMd_shoesFor_L64 n) M x1 x2 x3 x4 = some t := h
    unfold fMd_shoesFor_L64_F at h
    refine a_iload (pc := 64) C dX11_shoesFor_64 4 rfl ?_
    refine a_bipush (pc := 66) C 36 dX11_shoesFor_66 rfl ?_
    refine a_icmp_ge (pc := 68) C 118 dX11_shoesFor_68 rfl (fun c13 => ?_) (fun c13 => ?_)
    · replace h := iteT c13 h
      refine a_sub (lv2 := [(0, .ref (X.N.2.1 66)), (1, .int x1), (2, .int x2), (3, .int x3)]) [0, 1, 2, 3] rfl ?_
      exact KX M (somI h).symm
    · replace h := iteF c13 h
      refine a_aload_n (pc := 71) C dX11_shoesFor_71 rfl 0 rfl ?_
      refine gf_11_2 (pc := 72) C wd_1079 dX11_shoesFor_72 ?_
      refine a_iload_n (pc := 75) C dX11_shoesFor_75 rfl 3 rfl ?_
      obtain ⟨v14, ev14, h⟩ := bndS h
      refine a_iald (pc := 76) C rfl ev14 dX11_shoesFor_76 ?_
      refine a_iconst (pc := 77) C 1 dX11_shoesFor_77 rfl ?_
      refine a_icmp_eq (pc := 78) C 112 dX11_shoesFor_78 rfl (fun c15 => ?_) (fun c15 => ?_)
      · replace h := iteT c15 h
        refine a_iinc (pc := 112) C 4 (x4 + 1) [(4, .int (x4 + 1)), (0, .ref (X.N.2.1 66)), (1, .int x1), (2, .int x2), (3, .int x3)] dX11_shoesFor_112 rfl rfl (nlt eL rfl) rfl ?_
        refine a_goto (pc := 115) C 64 dX11_shoesFor_115 rfl ?_
        refine a_sub [1, 2, 3, 4, 0] rfl ?_
        exact ih M (x4 + 1) h
      · replace h := iteF c15 h
        refine a_aload_n (pc := 81) C dX11_shoesFor_81 rfl 0 rfl ?_
        refine gf_11_2 (pc := 82) C wd_1079 dX11_shoesFor_82 ?_
        refine a_iload (pc := 85) C dX11_shoesFor_85 4 rfl ?_
        obtain ⟨v16, ev16, h⟩ := bndS h
        refine a_iald (pc := 87) C rfl ev16 dX11_shoesFor_87 ?_
        refine a_iconst (pc := 88) C 1 dX11_shoesFor_88 rfl ?_
        refine a_icmp_eq (pc := 89) C 112 dX11_shoesFor_89 rfl (fun c17 => ?_) (fun c17 => ?_)
        · replace h := iteT c17 h
          refine a_iinc (pc := 112) C 4 (x4 + 1) [(4, .int (x4 + 1)), (0, .ref (X.N.2.1 66)), (1, .int x1), (2, .int x2), (3, .int x3)] dX11_shoesFor_112 rfl rfl (nlt eL rfl) rfl ?_
          refine a_goto (pc := 115) C 64 dX11_shoesFor_115 rfl ?_
          refine a_sub [1, 2, 3, 4, 0] rfl ?_
          exact ih M (x4 + 1) h
        · replace h := iteF c17 h
          refine a_aload_n (pc := 92) C dX11_shoesFor_92 rfl 0 rfl ?_
          refine a_iload_n (pc := 93) C dX11_shoesFor_93 rfl 1 rfl ?_
          refine a_iload_n (pc := 94) C dX11_shoesFor_94 rfl 2 rfl ?_
          refine a_iload_n (pc := 95) C dX11_shoesFor_95 rfl 3 rfl ?_
          refine a_iload (pc := 96) C dX11_shoesFor_96 4 rfl ?_
          obtain ⟨q18, eq18, h⟩ := bndS h
          refine a_callVI (pc := 98) C [.int x1, .int x2, .int x3, .int x4] (ok_fMd_isHung X.l X.N M x1 x2 x3 x4 eq18) rfl mw_X11_isHung wd_1442 rfl rfl rfl rfl rfl rfl rfl dX11_shoesFor_98 (fun z19 => ?_)
          refine a_if_eq (pc := 101) C 112 dX11_shoesFor_101 rfl (fun c20 => ?_) (fun c20 => ?_)
          · replace h := iteT c20 h
            refine a_iinc (pc := 112) C 4 (x4 + 1) [(4, .int (x4 + 1)), (0, .ref (X.N.2.1 66)), (1, .int x1), (2, .int x2), (3, .int x3)] dX11_shoesFor_112 rfl rfl (nlt eL rfl) rfl ?_
            refine a_goto (pc := 115) C 64 dX11_shoesFor_115 rfl ?_
            refine a_sub [1, 2, 3, 4, 0] rfl ?_
            exact ih q18.2 (x4 + 1) h
          · replace h := iteF c20 h
            refine a_bipush (pc := 104) C 36 dX11_shoesFor_104 rfl ?_
            refine a_iload_n (pc := 106) C dX11_shoesFor_106 rfl 3 rfl ?_
            refine a_imul (pc := 107) C dX11_shoesFor_107 ?_
            refine a_iload (pc := 108) C dX11_shoesFor_108 4 rfl ?_
            refine a_iadd (pc := 110) C dX11_shoesFor_110 ?_
            exact a_iret (pc := 111) C E rfl (congrArg Prod.fst (KR _ (somI h).symm)) (congrArg Prod.snd (KR _ (somI h).symm)) dX11_shoesFor_111
set_option maxHeartbeats 200000 in
set_option maxRecDepth 100000 in
theorem ok_fMd_shoesFor_L53 {X : Amb} (eL : X.nL = 5) (C : Cx X RX11 cX11_shoesFor 7) (x1 : Int32) (x2 : Int32) (r : Int32) (M0 : Mem) (E : En X (some .int) (QcI X.N (some .int) r M0)) : ∀ (n : Nat) (M : Mem) (x3 : Int32), fMd_shoesFor_L53 n M x1 x2 x3 = some (r, M0) → WA X M [(0, .ref (X.N.2.1 66)), (1, .int x1), (2, .int x2), (3, .int x3)] 53 [] := by
  intro n
  induction n with
  | zero => intro _ _ h; cases h
  | succ n ih =>
    intro M x3 h
    replace h : fMd_shoesFor_L53_F (fMd_shoesFor_L53 n) M x1 x2 x3 = some (r, M0) := h
    unfold fMd_shoesFor_L53_F at h
    refine a_iload_n (pc := 53) C dX11_shoesFor_53 rfl 3 rfl ?_
    refine a_bipush (pc := 54) C 36 dX11_shoesFor_54 rfl ?_
    refine a_icmp_ge (pc := 56) C 124 dX11_shoesFor_56 rfl (fun c12 => ?_) (fun c12 => ?_)
    · replace h := iteT c12 h
      refine a_bipush (pc := 124) C (-2) dX11_shoesFor_124 rfl ?_
      exact a_iret (pc := 126) C E rfl (som1 h) (som2 h) dX11_shoesFor_126
    · replace h := iteF c12 h
      refine a_iload_n (pc := 59) C dX11_shoesFor_59 rfl 3 rfl ?_
      refine a_iconst (pc := 60) C 1 dX11_shoesFor_60 rfl ?_
      refine a_iadd (pc := 61) C dX11_shoesFor_61 ?_
      refine a_istore (pc := 62) C [(4, .int (x3 + 1)), (0, .ref (X.N.2.1 66)), (1, .int x1), (2, .int x2), (3, .int x3)] dX11_shoesFor_62 (nlt eL rfl) rfl ?_
      refine a_sub (lv2 := [(0, .ref (X.N.2.1 66)), (1, .int x1), (2, .int x2), (3, .int x3), (4, .int (x3 + 1))]) [1, 2, 3, 4, 0] rfl ?_
      obtain ⟨t22, et22, h⟩ := bndS h
      refine ok_fMd_shoesFor_L64 eL C x1 x2 x3 r M0 E t22 (fun r0 er => ?_) (fun o21 eo => ?_) FU M (x3 + 1) et22
      · subst er; exact somI h
      · subst eo
        refine a_iinc (pc := 118) C 3 (x3 + 1) [(3, .int (x3 + 1)), (0, .ref (X.N.2.1 66)), (1, .int x1), (2, .int x2)] dX11_shoesFor_118 rfl rfl (nlt eL rfl) rfl ?_
        refine a_goto (pc := 121) C 53 dX11_shoesFor_121 rfl ?_
        refine a_sub [1, 2, 3, 0] rfl ?_
        exact ih o21 (x3 + 1) h
set_option maxHeartbeats 200000 in
set_option maxRecDepth 100000 in
theorem ok_fMd_shoesFor (l : Launch) (N : Rig) (M : Mem) (x1 : Int32) (x2 : Int32) {r : Int32} {M0 : Mem} (h : fMd_shoesFor M x1 x2 = some (r, M0)) : Ct l N yX11_shoesFor cX11_shoesFor 5 (some .int) 7 [.ref (N.2.1 66), .int x1, .int x2] M (QcI N (some .int) r M0) := by
  refine ct_of (by decide) rfl ?_
  intro X el eN eL C E
  subst el
  subst eN
  unfold fMd_shoesFor at h
  show WA X M [(0, .ref (X.N.2.1 66)), (1, .int x1), (2, .int x2)] 0 []
  refine a_aload_n (pc := 0) C dX11_shoesFor_0 rfl 0 rfl ?_
  refine a_iload_n (pc := 1) C dX11_shoesFor_1 rfl 1 rfl ?_
  refine a_iload_n (pc := 2) C dX11_shoesFor_2 rfl 2 rfl ?_
  refine a_iconst (pc := 3) C (-1) dX11_shoesFor_3 rfl ?_
  refine a_iconst (pc := 4) C (-1) dX11_shoesFor_4 rfl ?_
  obtain ⟨q1, eq1, h⟩ := bndS h
  refine a_callVI (pc := 5) C [.int x1, .int x2, .int (-1), .int (-1)] (ok_fMd_isHung X.l X.N M x1 x2 (-1) (-1) eq1) rfl mw_X11_isHung wd_1442 rfl rfl rfl rfl rfl rfl rfl dX11_shoesFor_5 (fun z2 => ?_)
  refine a_if_eq (pc := 8) C 14 dX11_shoesFor_8 rfl (fun c3 => ?_) (fun c3 => ?_)
  · replace h := iteT c3 h
    refine a_iconst (pc := 14) C 0 dX11_shoesFor_14 rfl ?_
    refine a_istore_n (pc := 15) C [(3, .int 0), (0, .ref (X.N.2.1 66)), (1, .int x1), (2, .int x2)] dX11_shoesFor_15 rfl (nlt eL rfl) rfl ?_
    refine a_sub (lv2 := [(0, .ref (X.N.2.1 66)), (1, .int x1), (2, .int x2), (3, .int 0)]) [1, 2, 3, 0] rfl ?_
    obtain ⟨t11, et11, h⟩ := bndS h
    refine ok_fMd_shoesFor_L16 eL C x1 x2 r M0 E t11 (fun r0 er => ?_) (fun o10 eo => ?_) FU q1.2 0 et11
    · subst er; exact somI h
    · subst eo
      refine a_iconst (pc := 51) C 0 dX11_shoesFor_51 rfl ?_
      refine a_istore_n (pc := 52) C [(3, .int 0), (0, .ref (X.N.2.1 66)), (1, .int x1), (2, .int x2)] dX11_shoesFor_52 rfl (nlt eL rfl) rfl ?_
      refine a_sub (lv2 := [(0, .ref (X.N.2.1 66)), (1, .int x1), (2, .int x2), (3, .int 0)]) [1, 2, 3, 0] rfl ?_
      exact ok_fMd_shoesFor_L53 eL C x1 x2 r M0 E FU o10 0 h
  · replace h := iteF c3 h
    refine a_bipush (pc := 11) C (-9) dX11_shoesFor_11 rfl ?_
    exact a_iret (pc := 13) C E rfl (som1 h) (som2 h) dX11_shoesFor_13
