/-! SHELVES: keep, row, put, element, shift, taken -/
theorem shelf_fin {p n : Nat} {M M2 : Mem} (hN : IvN p M) (hT : IvT M) (hD : IvD M) (hIm : IvI p M) (hC : IvC p M) (hB : IvB n M) (hZ : IvZ M) (hL : IvL M) (K : Keep [24, 25, 88, 89] [] M (M2.1, M.2)) (h2 : M2.2.2 = M.2.2) (hS : IvS n M2) : Inv M2 := by
  have a1 := hN.kp K ⟨rfl, rfl, rfl, rfl, rfl, rfl, rfl, rfl, rfl, rfl, rfl, rfl, rfl, rfl, rfl, rfl⟩
  have a2 := hT.kp K ⟨rfl, rfl, rfl, rfl⟩
  have a3 := hD.kp K ⟨rfl, rfl⟩
  have a4 := hIm.kp K ⟨rfl, rfl, rfl, rfl, rfl, rfl, rfl, rfl, rfl, rfl, rfl⟩
  have a5 := hC.kp K ⟨rfl, rfl, rfl, rfl, rfl, rfl, rfl, rfl, rfl⟩
  have a6 := hB.kp K ⟨rfl, rfl, rfl, rfl, rfl, rfl, rfl, rfl⟩
  have a7 := hZ.kp K ⟨rfl, rfl, rfl, rfl⟩
  have a8 := hL.kp K ⟨rfl, rfl, rfl, rfl, rfl, rfl, rfl, rfl, rfl⟩
  exact ⟨p, n, a1.congr rfl rfl rfl rfl rfl rfl rfl rfl rfl rfl rfl rfl rfl rfl rfl rfl, a2.congr rfl rfl rfl rfl, a3.congr rfl rfl, a4.congr rfl rfl rfl rfl rfl rfl rfl rfl rfl rfl rfl, a5.congr rfl rfl rfl rfl rfl rfl rfl rfl rfl, a6.congr rfl rfl rfl rfl rfl rfl rfl rfl, hS, a7.congr rfl rfl rfl rfl, a8.congr h2 rfl rfl rfl rfl rfl rfl rfl rfl rfl⟩
theorem m1_ne {n : Nat} (h : n < 2 ^ 31) : ¬ nI n = -1 := fun q => nI_pos h (by rw [q]; decide)
theorem m2_ne {n : Nat} (h : n < 2 ^ 31) : ¬ nI n = -2 := fun q => nI_pos h (by rw [q]; decide)
theorem body_cases (M : Mem) (n : Nat) (hn : n ≤ 50) (h : M.1 20 0 = nI n) (x : Int32) : fBodies_isBody M x = 0 ∧ (x < 0 ∨ nI n ≤ x) ∨ ∃ b : Nat, b < n ∧ x = nI b ∧ fBodies_isBody M x = 1 := by
  by_cases q : x < 0 ∨ nI n ≤ x
  · left
    refine ⟨?_, q⟩
    unfold fBodies_isBody
    rw [h]
    grind
  · right
    obtain ⟨c, hc, rfl⟩ := in_n (x := x) n (by omega) (by grind) (by grind)
    refine ⟨c, hc, rfl, ?_⟩
    unfold fBodies_isBody
    rw [h]
    grind
theorem low_n1 {n : Nat} (h : n ≤ 50) (x : Int32) : (nI n - 1 < x ↔ nI n ≤ x) := by
  have : ∀ m : Nat, m ≤ 50 → ∃ k : Int32, nI m = k ∧ 0 ≤ k ∧ k ≤ 50 := fun m hm => ⟨_, rfl, nI_pos' (by omega), (leR (b := 50) 50 rfl (by omega) (by omega)).mpr hm⟩
  obtain ⟨k, e, h1, h2⟩ := this n h
  rw [e]
  grind
theorem s_keep (x y : Int32) : Sim (fun M => fSh_keep M x y) (fun M => fMd_keep M x y) := by
  rintro M hI
  rcases shelf_cases x with ⟨h1, h2⟩ | ⟨s, hs, rfl, h1, h2⟩
  · exact ⟨-1, M, M, by simp [fSh_keep, h1], by simp [fMd_keep, h2], hI⟩
  have hI0 := hI
  obtain ⟨p, n, hN, hT, hD, hIm, hC, hB, hS, hZ, hL⟩ := hI
  have o1 : ¬ (1 : Int32) = 0 := by decide
  have fin : ∀ (a b c d : Int32), ((a = -1 ∧ c = -1) ∨ ∃ k : Nat, k < n ∧ a = -2 ∧ b = nI k ∧ c = nI (10 + k)) → Inv (wI (wI (wI (wI M 24 s a) 25 s b) 88 s c) 89 s d) := fun a b c d h => by
    refine shelf_fin hN hT hD hIm hC hB hZ hL ((((Keep.w M 24 s a (by decide)).tr (Keep.w _ 25 s b (by decide))).tr ((Keep.w _ 88 s c (by decide)).tr (Keep.w _ 89 s d (by decide)))).sub rfl rfl) rfl (fun q hq => ?_)
    by_cases e : q = s
    · subst e
      rcases h with ⟨rfl, rfl⟩ | ⟨k, hk, rfl, rfl, rfl⟩
      · exact Or.inl ⟨by simp [wI_1, upd_a], by simp [wI_1, upd_a]⟩
      · exact Or.inr (Or.inl ⟨k, hk, by simp [wI_1, upd_a], by simp [wI_1, upd_a], by simp [wI_1, upd_a]⟩)
    · have := hS q hq
      simpa [wI_1, upd_a, e, wI_2] using this
  by_cases hy : y = -1
  · subst hy
    refine ⟨1, wI (wI M 24 s (-1)) 25 s 0, _, ?_, ?_, fin (-1) 0 (-1) 0 (Or.inl ⟨rfl, rfl⟩)⟩
    · simp [fSh_keep, h1, fSh_keep_J25, fShelves_clear, stI_n hs (by omega : 6 ≤ 1000)]
    · have w : fMd_within (-1) (-1) (nI n - 1) = 1 := by
        have : ¬ nI n - 1 < -1 := by rw [low_n1 hB.1]; exact fun q => nI_pos (n := n) (by have := hB.1; omega) (Int32.lt_of_le_of_lt q (by decide))
        simp [fMd_within, this]
      have l : ¬ (0 : Int32) ≤ -1 := by decide
      simp [fMd_keep, h2, wI_1, hB.2.2.1, w, l, fMd_keep_J40, stI_n hs (by omega : 6 ≤ 1000)]
  · rcases body_cases M n hB.1 hB.2.1 y with ⟨q1, q2⟩ | ⟨b, hb, rfl, q1⟩
    · refine ⟨-1, M, M, by simp [fSh_keep, h1, hy, q1], ?_, hI0⟩
      have w : fMd_within y (-1) (nI n - 1) = 0 := by
        simp only [fMd_within, low_n1 hB.1]
        grind
      simp [fMd_keep, h2, hB.2.2.1, w]
    · have b50 : b < 50 := by have := hB.1; omega
      refine ⟨1, wI (wI M 24 s (-2)) 25 s (nI b), _, ?_, ?_, fin (-2) (nI b) (nI (10 + b)) 0 (Or.inr ⟨b, hb, rfl, rfl, rfl⟩)⟩
      · simp [fSh_keep, h1, hy, q1, fSh_keep_J25, fShelves_holdShoe, stI_n hs (by omega : 6 ≤ 1000)]
      · have w : fMd_within (nI b) (-1) (nI n - 1) = 1 := by
          have a1 : ¬ nI b < -1 := fun q => nI_pos (n := b) (by omega) (Int32.lt_of_lt_of_le q (by decide))
          have a2 : ¬ nI n - 1 < nI b := by rw [low_n1 hB.1]; exact nI_ge hb (by have := hB.1; omega)
          simp [fMd_within, a1, a2]
        have l : (0 : Int32) ≤ nI b := nI_pos' (by omega)
        have e10 : 10 + nI b = nI (10 + b) := nI_add 10 b
        simp [fMd_keep, h2, wI_1, hB.2.2.1, w, l, fMd_keep_J40, stI_n hs (by omega : 6 ≤ 1000), e10]
theorem fill_c (M : Mem) (a : Nat) : ∃ g : Nat → Int64, fArrays_fill_d0a16 M a 0 = some (upL M a g) ∧ ∀ j, j < 60 → g j = 0 := by
  obtain ⟨r, e, g, hr, hg⟩ := loop0 (σ := Mem × Int32) (fun n s => fArrays_fill_d0a16_L6 n s.1 a 0 s.2 60) (fun i s => s.2 = nI i ∧ ∃ g : Nat → Int64, s.1 = upL M a g ∧ ∀ j, j < i → g j = 0) (fun r => ∃ g : Nat → Int64, r = upL M a g ∧ ∀ j, j < 60 → g j = 0) 60 (fu_lt (by omega)) (M, 0)
    ⟨rfl, M.2.1 a, by refine Prod.ext rfl (Prod.ext (funext fun b => ?_) rfl); by_cases q : b = a <;> simp [upL, q], fun j hj => absurd hj (Nat.not_lt_zero j)⟩
    (fun n i s hi hP => by
      obtain ⟨s1, s2⟩ := s
      obtain ⟨q1, g, q2, hg⟩ := hP
      dsimp only at q1 q2
      subst q1
      subst q2
      right
      refine ⟨(upL M a (vp_updL g i 0), nI (i + 1)), ⟨rfl, _, rfl, fun j hj => ?_⟩, ?_⟩
      · rw [updL_a]
        by_cases q : j = i
        · simp [q]
        · rw [if_neg q]; exact hg j (by omega)
      · show fArrays_fill_d0a16_L6_F (fArrays_fill_d0a16_L6 n) _ _ _ _ _ = _
        have h1 : ¬ (60 : Int32) ≤ nI i := nI_geL (b := 60) 60 rfl hi (by omega)
        have e : wL (upL M a g) a i 0 = upL M a (vp_updL g i 0) := by
          refine Prod.ext rfl (Prod.ext (funext fun b => ?_) rfl)
          by_cases q : b = a <;> simp [wL, upL, q]
        simp only [fArrays_fill_d0a16_L6_F, h1, if_false, stL_n hi (by omega : 60 ≤ 1000), Option.bind_some, nI_1, e])
    (fun n s hP => by
      obtain ⟨s1, s2⟩ := s
      obtain ⟨q1, g, q2, hg⟩ := hP
      dsimp only at q1 q2
      subst q1
      subst q2
      exact ⟨_, rfl, g, rfl, hg⟩)
  subst hr
  refine ⟨g, ?_, hg⟩
  have e' : fArrays_fill_d0a16_L6 FU M a 0 0 60 = some (upL M a g) := e
  rw [fArrays_fill_d0a16, e', Option.bind_some]
theorem n60 (s i : Nat) : (60 : Int32) * nI s + nI i = nI (60 * s + i) := by
  have : (60 : Int32) = nI 60 := rfl
  rw [this, nI_mul, nI_add]
theorem fill_m (M : Mem) (s : Nat) (hs : s < 6) : ∃ g : Nat → Int64, fMd_row_L48 FU M (nI s) 0 = some (upL M 90 g) ∧ ∀ j, g j = if 60 * s ≤ j ∧ j < 60 * s + 60 then 0 else M.2.1 90 j := by
  obtain ⟨r, e, g, hr, hg⟩ := loop0 (σ := Mem × Int32) (fun n t => fMd_row_L48 n t.1 (nI s) t.2) (fun i t => t.2 = nI i ∧ ∃ g : Nat → Int64, t.1 = upL M 90 g ∧ ∀ j, g j = if 60 * s ≤ j ∧ j < 60 * s + i then 0 else M.2.1 90 j) (fun r => ∃ g : Nat → Int64, r = upL M 90 g ∧ ∀ j, g j = if 60 * s ≤ j ∧ j < 60 * s + 60 then 0 else M.2.1 90 j) 60 (fu_lt (by omega)) (M, 0)
    ⟨rfl, M.2.1 90, by refine Prod.ext rfl (Prod.ext (funext fun b => ?_) rfl); by_cases q : b = 90 <;> simp [upL, q], fun j => by rw [if_neg (by omega)]⟩
    (fun n i t hi hP => by
      obtain ⟨s1, s2⟩ := t
      obtain ⟨q1, g, q2, hg⟩ := hP
      dsimp only at q1 q2
      subst q1
      subst q2
      right
      refine ⟨(upL M 90 (vp_updL g (60 * s + i) 0), nI (i + 1)), ⟨rfl, _, rfl, fun j => ?_⟩, ?_⟩
      · rw [updL_a]
        by_cases q : j = 60 * s + i
        · rw [if_pos q, if_pos (by omega)]
        · rw [if_neg q, hg]
          have : (60 * s ≤ j ∧ j < 60 * s + (i + 1)) ↔ (60 * s ≤ j ∧ j < 60 * s + i) := by omega
          simp only [this]
      · show fMd_row_L48_F (fMd_row_L48 n) _ _ _ = _
        have h1 : ¬ (60 : Int32) ≤ nI i := nI_geL (b := 60) 60 rfl hi (by omega)
        have e : wL (upL M 90 g) 90 (60 * s + i) 0 = upL M 90 (vp_updL g (60 * s + i) 0) := by
          refine Prod.ext rfl (Prod.ext (funext fun b => ?_) rfl)
          by_cases q : b = 90 <;> simp [wL, upL, q]
        simp only [fMd_row_L48_F, h1, if_false, n60, stL_n (show 60 * s + i < 360 by omega) (by omega : 360 ≤ 1000), Option.bind_some, nI_1, e])
    (fun n t hP => by
      obtain ⟨s1, s2⟩ := t
      obtain ⟨q1, g, q2, hg⟩ := hP
      dsimp only at q1 q2
      subst q1
      subst q2
      exact ⟨_, rfl, g, rfl, hg⟩)
  subst hr
  exact ⟨g, e, hg⟩
theorem okEl_0 (t : Nat) : okEl t 0 := by
  unfold okEl
  split
  · decide
  · decide
  · decide
  · trivial
  · exact Or.inl rfl
theorem s_row (x y z : Int32) : Sim (fun M => fSh_row M x y z) (fun M => fMd_row M x y z) := by
  rintro M hI
  rcases shelf_cases x with ⟨h1, h2⟩ | ⟨s, hs, rfl, h1, h2⟩
  · exact ⟨-1, M, M, by simp [fSh_row, h1], by simp [fMd_row, h2], hI⟩
  have o1 : ¬ (1 : Int32) = 0 := by decide
  by_cases hy : y < 0 ∨ 4 < y
  · refine ⟨-1, M, M, ?_, ?_, hI⟩
    · simp only [fSh_row, h1, fShelves_isSort]; grind
    · simp only [fMd_row, h2, fMd_within]; grind
  obtain ⟨t, ht, rfl⟩ := in_lit (x := y) (b := 5) 5 (by omega) rfl (by grind) (by grind)
  have w1 : fShelves_isSort (nI t) = 1 := by unfold fShelves_isSort; grind
  have w2 : fMd_within (nI t) 0 4 = 1 := by unfold fMd_within; grind
  by_cases hz : 60 < z
  · have : ¬ z ≤ 60 := Int32.not_le.mpr hz
    exact ⟨-1, M, M, by simp [fSh_row, h1, w1, this], by simp [fMd_row, h2, w2, this], hI⟩
  have hz2 : z ≤ 60 := Int32.not_lt.mp hz
  by_cases hz0 : z < 0
  · have : ¬ 0 ≤ z := Int32.not_le.mpr hz0
    exact ⟨-14, M, M, by simp [fSh_row, h1, w1, hz2, this], by simp [fMd_row, h2, w2, hz2, this], hI⟩
  have hz3 : 0 ≤ z := Int32.not_lt.mp hz0
  obtain ⟨k, hk, rfl⟩ := in_lit (x := z) (b := 61) 61 (by omega) rfl hz0 (by grind)
  obtain ⟨p, n, hN, hT, hD, hIm, hC, hB, hS, hZ, hL⟩ := hI
  obtain ⟨g, e1, hg⟩ := fill_c (wI (wI M 24 s (nI t)) 25 s (nI k)) (27 + s)
  obtain ⟨g2, e2, hg2⟩ := fill_m (wI (wI (upL (wI (wI M 24 s (nI t)) 25 s (nI k)) (27 + s) g) 88 s (nI t)) 89 s (nI k)) s hs
  refine ⟨1, upL (wI (wI M 24 s (nI t)) 25 s (nI k)) (27 + s) g, _, ?_, ?_, shelf_fin hN hT hD hIm hC hB hZ hL ?_ rfl (M2 := upL (wI (wI (upL (wI (wI M 24 s (nI t)) 25 s (nI k)) (27 + s) g) 88 s (nI t)) 89 s (nI k)) 90 g2) (fun q hq => ?_)⟩
  · simp [fSh_row, h1, w1, hz2, hz3, fShelves_holdRow, stI_n hs (by omega : 6 ≤ 1000), rdR_n hs, e1]
  · simp [fMd_row, h2, w2, hz2, hz3, stI_n hs (by omega : 6 ≤ 1000), e2]
  · exact (((Keep.w M 24 s (nI t) (by decide)).tr (Keep.w _ 25 s (nI k) (by decide))).tr ((Keep.w _ 88 s (nI t) (by decide)).tr (Keep.w _ 89 s (nI k) (by decide)))).sub rfl rfl
  · have n0 : ∀ r : Nat, ¬ 90 = 27 + r ∨ 63 ≤ r := fun r => by omega
    by_cases e : q = s
    · subst e
      refine Or.inr (Or.inr ⟨t, k, ht, by omega, by simp [wI_1, upL_1, upd_a], by simp [wI_1, upL_1, upd_a], by simp [wI_1, upL_1, upd_a], by simp [wI_1, upL_1, upd_a], fun i hi => ?_⟩)
      have a1 : (upL (wI (wI (upL (wI (wI M 24 q (nI t)) 25 q (nI k)) (27 + q) g) 88 q (nI t)) 89 q (nI k)) 90 g2).2.1 90 (60 * q + i) = 0 := by
        rw [upL_2, if_pos rfl, hg2, if_pos (by omega)]
      have a2 : (upL (wI (wI (upL (wI (wI M 24 q (nI t)) 25 q (nI k)) (27 + q) g) 88 q (nI t)) 89 q (nI k)) 90 g2).2.1 (27 + q) i = 0 := by
        rw [upL_2, if_neg (by omega)]
        show (upL (wI (wI M 24 q (nI t)) 25 q (nI k)) (27 + q) g).2.1 (27 + q) i = 0
        rw [upL_2, if_pos rfl, hg i hi]
      rw [a1, a2]
      exact ⟨rfl, okEl_0 t⟩
    · have a1 : ∀ i, i < 60 → (upL (wI (wI (upL (wI (wI M 24 s (nI t)) 25 s (nI k)) (27 + s) g) 88 s (nI t)) 89 s (nI k)) 90 g2).2.1 90 (60 * q + i) = M.2.1 90 (60 * q + i) := fun i hi => by
        rw [upL_2, if_pos rfl, hg2, if_neg (by omega)]
        show (upL (wI (wI M 24 s (nI t)) 25 s (nI k)) (27 + s) g).2.1 90 (60 * q + i) = _
        rw [upL_2, if_neg (by omega)]
        rfl
      have a2 : (upL (wI (wI (upL (wI (wI M 24 s (nI t)) 25 s (nI k)) (27 + s) g) 88 s (nI t)) 89 s (nI k)) 90 g2).2.1 (27 + q) = M.2.1 (27 + q) := by
        rw [upL_2, if_neg (by omega)]
        show (upL (wI (wI M 24 s (nI t)) 25 s (nI k)) (27 + s) g).2.1 (27 + q) = _
        rw [upL_2, if_neg (by omega)]
        rfl
      have b1 : (upL (wI (wI (upL (wI (wI M 24 s (nI t)) 25 s (nI k)) (27 + s) g) 88 s (nI t)) 89 s (nI k)) 90 g2).1 24 q = M.1 24 q := by simp [wI_1, upL_1, upd_a, e]
      have b2 : (upL (wI (wI (upL (wI (wI M 24 s (nI t)) 25 s (nI k)) (27 + s) g) 88 s (nI t)) 89 s (nI k)) 90 g2).1 25 q = M.1 25 q := by simp [wI_1, upL_1, upd_a, e]
      have b3 : (upL (wI (wI (upL (wI (wI M 24 s (nI t)) 25 s (nI k)) (27 + s) g) 88 s (nI t)) 89 s (nI k)) 90 g2).1 88 q = M.1 88 q := by simp [wI_1, upL_1, upd_a, e]
      have b4 : (upL (wI (wI (upL (wI (wI M 24 s (nI t)) 25 s (nI k)) (27 + s) g) 88 s (nI t)) 89 s (nI k)) 90 g2).1 89 q = M.1 89 q := by simp [wI_1, upL_1, upd_a, e]
      rw [b1, b2, b3, b4, a2]
      rcases hS q hq with r | r | ⟨t', k', r1, r2, r3, r4, r5, r6, r7⟩
      · exact Or.inl r
      · exact Or.inr (Or.inl r)
      · exact Or.inr (Or.inr ⟨t', k', r1, r2, r3, r4, r5, r6, fun i hi => by rw [a1 i hi]; exact r7 i hi⟩)
