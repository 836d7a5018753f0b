theorem rd5 (a : Nat) (M : Mem) : rdI 5 a M 0 = some (M.1 a 0) ∧ rdI 5 a M 1 = some (M.1 a 1) ∧ rdI 5 a M 2 = some (M.1 a 2) ∧ rdI 5 a M 3 = some (M.1 a 3) ∧ rdI 5 a M 4 = some (M.1 a 4) := ⟨rfl, rfl, rfl, rfl, rfl⟩
theorem st5 (a : Nat) (M : Mem) (x : Int32) : stI 5 a M 0 x = some (wI M a 0 x) ∧ stI 5 a M 1 x = some (wI M a 1 x) ∧ stI 5 a M 2 x = some (wI M a 2 x) ∧ stI 5 a M 3 x = some (wI M a 3 x) ∧ stI 5 a M 4 x = some (wI M a 4 x) := ⟨rfl, rfl, rfl, rfl, rfl⟩
theorem mnI_c (x y : Int32) : mnI x y = mnI y x := by unfold mnI; grind
theorem mn_rng {x y : Int32} (h : rng x 9999) (h1 : ¬ y < 1) (h2 : y ≤ 9999) : rng (mnI (x + y) 9999) 9999 := by
  unfold rng mnI at *
  grind
theorem s_led (x : Int32) : SimR (fun M => fSh_led M x) (fun M => fMd_led M x) := by
  rintro M ⟨p, n, hN, hT, hD, -⟩
  by_cases h : x < 0 ∨ 5 ≤ x
  · refine ⟨-1, ?_, ?_⟩
    · simp only [fSh_led]; grind
    · simp only [fMd_led, fMd_within]; grind
  · obtain ⟨c, hc, rfl⟩ := in_lit (x := x) (b := 5) 5 (by omega) rfl (by grind) (by grind)
    refine ⟨M.1 34 c, ?_, ?_⟩
    · simp only [fSh_led, rdI_n hc (by omega)]; grind
    · simp only [fMd_led, fMd_within, rdI_n hc (by omega)]; have := hD c hc; grind
theorem s_pour (x y : Int32) : Sim (fun M => fSh_pour M x y) (fun M => fMd_pour M x y) := by
  rintro M hI
  rcases cell_cases x with ⟨h1, h2⟩ | ⟨c, hc, rfl, h1, h2⟩
  · exact ⟨-1, M, M, by simp [fSh_pour, h1], by simp [fMd_pour, h2], hI⟩
  by_cases hy : y < 1 ∨ 9999 < y
  · refine ⟨-1, M, M, ?_, ?_, hI⟩
    · simp only [fSh_pour, h1]; grind
    · simp only [fMd_pour, h2, fMd_within]; grind
  obtain ⟨hy1, hy2, hy3⟩ : ¬ y < 1 ∧ y ≤ 9999 ∧ ¬ 9999 < y := by grind
  obtain ⟨p, n, hN, hT, hD, hIm, hC, hB, hS, hZ, hL⟩ := hI
  obtain ⟨g1, g2, g3, g4, g5, g6, g7, g8, g9, g10⟩ := hN
  have hl := g5 c hc
  have hd3 := hD 3 (by omega)
  generalize hv : mnI (M.1 37 c + y) 9999 = v
  have e1 : fSh_pour M (nI c) y = some (v, wI (wI M 34 3 (M.1 34 3 + y)) 37 c v) := by
    simp [fSh_pour, h1, fStreet_poured, rdI_n hc (by omega : 36 ≤ 1000), stI_n hc (by omega : 36 ≤ 1000), rd5, st5, wI_1, upd_a, hy1, hy2, hv]
  refine ⟨_, _, wI (wI (wI (wI M 34 3 (M.1 34 3 + y)) 37 c v) 68 c v) 82 3 (M.1 34 3 + y), e1, ?_, ?_⟩
  · simp [fMd_pour, h2, fMd_within, rdI_n hc (by omega : 36 ≤ 1000), stI_n hc (by omega : 36 ≤ 1000), rd5, st5, wI_1, upd_a, hy1, hy3, hl.1, hd3, mnI_c 9999, hv]
  · refine ⟨p, n, ⟨g1, g2, g3, g4, ?_, g6, g7, g8, g9, g10⟩, hT.congr rfl rfl rfl rfl, ?_, hIm.congr rfl rfl rfl rfl rfl rfl rfl rfl rfl rfl rfl, hC.congr rfl rfl rfl rfl rfl rfl rfl rfl rfl, hB.congr rfl rfl rfl rfl rfl rfl rfl rfl, hS.congr rfl rfl rfl rfl rfl, hZ.congr rfl rfl rfl rfl, hL.congr rfl rfl rfl rfl rfl rfl rfl rfl rfl rfl⟩
    · intro i hi
      have hi2 := g5 i hi
      have hr := mn_rng hl.2 hy1 hy2
      simp [wI_1, upd_a]
      by_cases e : i = c
      · simp [e]; exact hv ▸ hr
      · simp [e]; exact hi2
    · intro i hi
      have := hD i hi
      simp [wI_1, upd_a]
      by_cases e : i = 3 <;> simp [e, this]
theorem one_cases (p : Nat) (hp : p ≤ 8) (M : Mem) (h1 : M.1 2 4 = nI p) (h2 : M.1 66 3 = nI p) (x : Int32) : (fWorld_isPerson M x = 0 ∧ fMd_isOne M x = 0) ∨ ∃ q : Nat, q < p ∧ x = nI q ∧ fWorld_isPerson M x = 1 ∧ fMd_isOne M x = 1 := by
  have hs : nI p - 1 < nI p := by
    have : p = 0 ∨ p = 1 ∨ p = 2 ∨ p = 3 ∨ p = 4 ∨ p = 5 ∨ p = 6 ∨ p = 7 ∨ p = 8 := by omega
    rcases this with rfl | rfl | rfl | rfl | rfl | rfl | rfl | rfl | rfl <;> decide
  by_cases h : x < 0 ∨ nI p ≤ x
  · left
    unfold fWorld_isPerson fMd_isOne fMd_within
    rw [h1, h2]
    grind
  · right
    obtain ⟨c, hc, rfl⟩ := in_n (x := x) p (by omega) (by grind) (by grind)
    refine ⟨c, hc, rfl, ?_⟩
    unfold fWorld_isPerson fMd_isOne fMd_within
    rw [h1, h2]
    grind
theorem s_hang (x y : Int32) : Sim (fun M => fSh_hang M x y) (fun M => fMd_hang M x y) := by
  rintro M hI
  rcases cell_cases x with ⟨h1, h2⟩ | ⟨c, hc, rfl, h1, h2⟩
  · exact ⟨-1, M, M, by simp [fSh_hang, h1], by simp [fMd_hang, h2], hI⟩
  by_cases hy : y < 0 ∨ 2 < y
  · refine ⟨-1, M, M, ?_, ?_, hI⟩
    · simp only [fSh_hang, h1]; grind
    · simp only [fMd_hang, h2, fMd_within]; grind
  obtain ⟨hy1, hy2, hy3, hy4⟩ : ¬ y < 0 ∧ y < 3 ∧ ¬ 2 < y ∧ ¬ 3 ≤ y := by grind
  obtain ⟨p, n, hN, hT, hD, hIm, hC, hB, hS, hZ, hL⟩ := hI
  obtain ⟨g1, g2, g3, g4, g5, g6, g7, g8, g9, g10⟩ := hN
  have hl := g6 c hc
  have hd := hD 4 (by omega)
  refine ⟨M.1 38 c, wI (wI M 38 c y) 34 4 (M.1 34 4 + 1), wI (wI (wI (wI M 38 c y) 34 4 (M.1 34 4 + 1)) 69 c y) 82 4 (M.1 34 4 + 1), ?_, ?_, ?_⟩
  · simp [fSh_hang, h1, rdI_n hc (by omega : 36 ≤ 1000), stI_n hc (by omega : 36 ≤ 1000), rd5, st5, wI_1, upd_a, hy1, hy2, hy3, hy4]
  · simp [fMd_hang, h2, fMd_within, rdI_n hc (by omega : 36 ≤ 1000), stI_n hc (by omega : 36 ≤ 1000), rd5, st5, wI_1, upd_a, hy1, hy3, hl.1, hd]
  · refine ⟨p, n, ⟨g1, g2, g3, g4, g5, ?_, g7, g8, g9, g10⟩, hT.congr rfl rfl rfl rfl, ?_, hIm.congr rfl rfl rfl rfl rfl rfl rfl rfl rfl rfl rfl, hC.congr rfl rfl rfl rfl rfl rfl rfl rfl rfl, hB.congr rfl rfl rfl rfl rfl rfl rfl rfl, hS.congr rfl rfl rfl rfl rfl, hZ.congr rfl rfl rfl rfl, hL.congr rfl rfl rfl rfl rfl rfl rfl rfl rfl rfl⟩
    · intro i hi
      have hi2 := g6 i hi
      simp [wI_1, upd_a]
      by_cases e : i = c
      · simp [e]; unfold rng; grind
      · simp [e]; exact hi2
    · intro i hi
      have := hD i hi
      simp [wI_1, upd_a]
      by_cases e : i = 4 <;> simp [e, this]
theorem s_moves (x y : Int32) : Sim (fun M => fSh_moves M x y) (fun M => fMd_moves M x y) := by
  rintro M hI
  have hI0 := hI
  obtain ⟨p, n, hN, hT, hD, hIm, hC, hB, hS, hZ, hL⟩ := hI
  obtain ⟨g1, g2, g3, g4, g5, g6, g7, g8, g9, g10⟩ := hN
  rcases one_cases p g1 M g2 g3 x with ⟨h1, h2⟩ | ⟨q, hq, rfl, h1, h2⟩
  · exact ⟨-1, M, M, by simp [fSh_moves, h1], by simp [fMd_moves, h2], hI0⟩
  rcases cell_cases y with ⟨h3, h4⟩ | ⟨c, hc, rfl, h3, h4⟩
  · exact ⟨-1, M, M, by simp [fSh_moves, h1, h3], by simp [fMd_moves, h2, h4], hI0⟩
  have hl := g7 q hq
  have q8 : q < 8 := by omega
  have q32 : q < 32 := by omega
  have h2' : fMd_isOne (wI M 39 q (nI c)) (nI q) = 1 := h2
  refine ⟨M.1 39 q, wI M 39 q (nI c), wI (wI M 39 q (nI c)) 70 q (nI c), ?_, ?_, ?_⟩
  · simp [fSh_moves, h1, h3, rdI_n q8 (by omega : 8 ≤ 1000), stI_n q8 (by omega : 8 ≤ 1000)]
  · simp [fMd_moves, h2', h4, rdI_n q32 (by omega : 32 ≤ 1000), stI_n q32 (by omega : 32 ≤ 1000), wI_1, hl.1.1]
  · refine ⟨p, n, ⟨g1, g2, g3, g4, g5, g6, ?_, g8, g9, g10⟩, hT.congr rfl rfl rfl rfl, hD.congr rfl rfl, hIm.congr rfl rfl rfl rfl rfl rfl rfl rfl rfl rfl rfl, hC.congr rfl rfl rfl rfl rfl rfl rfl rfl rfl, hB.congr rfl rfl rfl rfl rfl rfl rfl rfl, hS.congr rfl rfl rfl rfl rfl, hZ.congr rfl rfl rfl rfl, hL.congr rfl rfl rfl rfl rfl rfl rfl rfl rfl rfl⟩
    intro i hi
    have hi2 := g7 i hi
    have e1 : ¬ 8 + i = q := by omega
    have e2 : ¬ 16 + i = q := by omega
    have e3 : ¬ 24 + i = q := by omega
    simp [wI_1, upd_a, e1, e2, e3]
    by_cases e : i = q
    · simp [e]; exact ⟨⟨c, hc, rfl⟩, hl.2.1, hl.2.2.1, hl.2.2.2⟩
    · simp [e]; exact hi2
theorem s_feed (x : Int32) : Sim (fun M => fSh_feed M x) (fun M => fMd_feed M x) := by
  rintro M hI
  have hI0 := hI
  obtain ⟨p, n, hN, ⟨k, k1, k2, k3, k4⟩, hD, hIm, hC, hB, hS, hZ, hL⟩ := hI
  by_cases hx : x < 0 ∨ 255 < x
  · refine ⟨-1, M, M, ?_, ?_, hI0⟩
    · simp only [fSh_feed]; grind
    · simp only [fMd_feed, fMd_within]; grind
  obtain ⟨x1, x2, x3⟩ : ¬ x < 0 ∧ x ≤ 255 ∧ ¬ 255 < x := by grind
  by_cases hk : k = 120
  · subst hk
    have e : nI 120 = 120 := rfl
    refine ⟨-3, M, M, ?_, ?_, hI0⟩
    · simp [fSh_feed, fLaw_take, x1, x2, k2, e]
    · simp [fMd_feed, fMd_within, x1, x3, k3, e]
  have k5 : k < 120 := by omega
  have k6 : nI k < 120 := (nI_ltI (b := 120) (by omega) (by omega)).mpr k5
  have k7 : ¬ nI k = 120 := by grind
  have k8 : ¬ 120 ≤ nI k := by grind
  refine ⟨nI (k + 1), wI (wI M 8 k x) 7 0 (nI (k + 1)), wI (wI (wI (wI M 8 k x) 7 0 (nI (k + 1))) 66 6 (nI (k + 1))) 71 k x, ?_, ?_, ?_⟩
  · simp [fSh_feed, fLaw_take, x1, x2, x3, k2, k6, k7, k8, stI_n k5 (by omega : 120 ≤ 1000), wI_1, upd_a, nI_1]
  · simp [fMd_feed, fMd_within, x1, x3, k3, k7, k8, stI_n k5 (by omega : 120 ≤ 1000), wI_1, upd_a, nI_1]
  · refine ⟨p, n, hN.congr rfl rfl rfl rfl rfl rfl rfl rfl rfl rfl rfl rfl rfl rfl rfl rfl, ⟨k + 1, k5, rfl, rfl, ?_⟩, hD.congr rfl rfl, hIm.congr rfl rfl rfl rfl rfl rfl rfl rfl rfl rfl rfl, hC.congr rfl rfl rfl rfl rfl rfl rfl rfl rfl, hB.congr rfl rfl rfl rfl rfl rfl rfl rfl, hS.congr rfl rfl rfl rfl rfl, hZ.congr rfl rfl rfl rfl, hL.congr rfl rfl rfl rfl rfl rfl rfl rfl rfl rfl⟩
    intro i hi
    simp [wI_1, upd_a]
    by_cases e : i = k
    · simp [e]; unfold rng; grind
    · simp [e]; exact k4 i (by omega)
