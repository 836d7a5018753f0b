theorem cp5_m (M : Mem) : ∃ g : Nat → Int32, fMd_image_L23 FU M 0 = some (upA M 84 g) ∧ ∀ j, j < 5 → g j = M.1 82 j := by
  obtain ⟨r, e, g, hr, hg⟩ := loop0 (σ := Mem × Int32) (fun n t => fMd_image_L23 n t.1 t.2) (fun i t => t.2 = nI i ∧ ∃ g : Nat → Int32, t.1 = upA M 84 g ∧ ∀ j, j < i → g j = M.1 82 j) (fun r => ∃ g : Nat → Int32, r = upA M 84 g ∧ ∀ j, j < 5 → g j = M.1 82 j) 5 (fu_lt (by omega)) (M, 0)
    ⟨rfl, M.1 84, by refine Prod.ext (funext fun b => ?_) rfl; by_cases q : b = 84 <;> simp [upA, q], fun j hj => absurd hj (Nat.not_lt_zero j)⟩
    (fun n i t hi hP => by
      obtain ⟨t1, t2⟩ := t
      obtain ⟨q1, g, q2, hg⟩ := hP
      dsimp only at q1 q2
      subst q1
      subst q2
      right
      refine ⟨(upA M 84 (upd g i (M.1 82 i)), nI (i + 1)), ⟨rfl, _, rfl, fun j hj => ?_⟩, ?_⟩
      · rw [upd_a]
        by_cases q : j = i
        · rw [if_pos q, q]
        · rw [if_neg q]; exact hg j (by omega)
      · show fMd_image_L23_F (fMd_image_L23 n) _ _ = _
        have h1 : ¬ (5 : Int32) ≤ nI i := nI_geL (b := 5) 5 rfl hi (by omega)
        have h2 : (upA M 84 g).1 82 i = M.1 82 i := rfl
        rw [fMd_image_L23_F, if_neg h1, rdI_n hi (by omega), Option.bind_some, h2, stI_n hi (by omega), Option.bind_some, wI_upA, nI_1])
    (fun n t hP => by
      obtain ⟨t1, t2⟩ := t
      obtain ⟨q1, g, q2, hg⟩ := hP
      dsimp only at q1 q2
      subst q1
      subst q2
      exact ⟨_, rfl, g, rfl, hg⟩)
  subst hr
  exact ⟨g, e, hg⟩
theorem cp5_b (M : Mem) : ∃ g : Nat → Int32, fMd_back_L113 FU M 0 = some (upA M 82 g) ∧ ∀ j, j < 5 → g j = M.1 84 j := by
  obtain ⟨r, e, g, hr, hg⟩ := loop0 (σ := Mem × Int32) (fun n t => fMd_back_L113 n t.1 t.2) (fun i t => t.2 = nI i ∧ ∃ g : Nat → Int32, t.1 = upA M 82 g ∧ ∀ j, j < i → g j = M.1 84 j) (fun r => ∃ g : Nat → Int32, r = upA M 82 g ∧ ∀ j, j < 5 → g j = M.1 84 j) 5 (fu_lt (by omega)) (M, 0)
    ⟨rfl, M.1 82, by refine Prod.ext (funext fun b => ?_) rfl; by_cases q : b = 82 <;> simp [upA, q], fun j hj => absurd hj (Nat.not_lt_zero j)⟩
    (fun n i t hi hP => by
      obtain ⟨t1, t2⟩ := t
      obtain ⟨q1, g, q2, hg⟩ := hP
      dsimp only at q1 q2
      subst q1
      subst q2
      right
      refine ⟨(upA M 82 (upd g i (M.1 84 i)), nI (i + 1)), ⟨rfl, _, rfl, fun j hj => ?_⟩, ?_⟩
      · rw [upd_a]
        by_cases q : j = i
        · rw [if_pos q, q]
        · rw [if_neg q]; exact hg j (by omega)
      · show fMd_back_L113_F (fMd_back_L113 n) _ _ = _
        have h1 : ¬ (5 : Int32) ≤ nI i := nI_geL (b := 5) 5 rfl hi (by omega)
        have h2 : (upA M 82 g).1 84 i = M.1 84 i := rfl
        rw [fMd_back_L113_F, if_neg h1, rdI_n hi (by omega), Option.bind_some, h2, stI_n hi (by omega), Option.bind_some, wI_upA, nI_1])
    (fun n t hP => by
      obtain ⟨t1, t2⟩ := t
      obtain ⟨q1, g, q2, hg⟩ := hP
      dsimp only at q1 q2
      subst q1
      subst q2
      exact ⟨_, rfl, g, rfl, hg⟩)
  subst hr
  exact ⟨g, e, hg⟩
theorem cp5_c (a b : Nat) (M : Mem) : cpI 5 5 a b M 0 0 5 = some (upA M b (va_cpy (M.1 a) (M.1 b) 0 0 5)) := cp_n (k := 5) (by omega) (by omega) (by omega)
/-- the parts of what holds that rest on cells that a stretch leaves -/
theorem inv_parts {p n : Nat} {M M2 : Mem} {P : Nat → Nat → Prop} (K : Kp P M M2) (hT : IvT M) (hC : IvC p M) (hB : IvB n M) (hS : IvS n M) (hL : IvL M) (hP : ∀ a i, P a i → ¬ ((a = 7 ∧ (i = 0 ∨ i = 6)) ∨ (8 ≤ a ∧ a ≤ 10) ∨ (15 ≤ a ∧ a ≤ 32) ∨ (a = 66 ∧ (i = 6 ∨ i = 8 ∨ i = 9 ∨ i = 29 ∨ i = 30 ∨ i = 32 ∨ i = 34)) ∨ (71 ≤ a ∧ a ≤ 75) ∨ (85 ≤ a ∧ a ≤ 90))) : IvT M2 ∧ IvC p M2 ∧ IvB n M2 ∧ IvS n M2 ∧ IvL M2 := by
  have g : ∀ a, ((8 ≤ a ∧ a ≤ 10) ∨ (15 ≤ a ∧ a ≤ 32) ∨ (71 ≤ a ∧ a ≤ 75) ∨ (85 ≤ a ∧ a ≤ 90)) → M2.1 a = M.1 a := fun a ha => K.f (fun i h => hP a i h (by omega))
  have q : ∀ a i, ((a = 7 ∧ (i = 0 ∨ i = 6)) ∨ (a = 66 ∧ (i = 6 ∨ i = 8 ∨ i = 9 ∨ i = 29 ∨ i = 30 ∨ i = 32 ∨ i = 34))) → M2.1 a i = M.1 a i := fun a i ha => K.1 a i (fun h => hP a i h (by omega))
  exact ⟨hT.congr (q 7 0 (by omega)) (q 66 6 (by omega)) (g 8 (by omega)) (g 71 (by omega)), hC.congr (congrFun (g 15 (by omega)) 4) (congrFun (g 15 (by omega)) 5) (q 66 30 (by omega)) (q 66 29 (by omega)) (g 85 (by omega)) (g 16 (by omega)) (g 17 (by omega)) (g 18 (by omega)) (g 19 (by omega)), hB.congr (congrFun (g 20 (by omega)) 0) (congrFun (g 20 (by omega)) 1) (q 66 32 (by omega)) (q 66 34 (by omega)) (g 86 (by omega)) (g 22 (by omega)) (g 87 (by omega)) (g 21 (by omega)), hS.congr (g 24 (by omega)) (g 25 (by omega)) (g 88 (by omega)) (g 89 (by omega)) (by rw [K.2]), hL.congr (by rw [K.2]) (q 7 6 (by omega)) (q 66 8 (by omega)) (q 66 9 (by omega)) (g 72 (by omega)) (g 73 (by omega)) (g 74 (by omega)) (g 75 (by omega)) (g 9 (by omega)) (g 10 (by omega))⟩
theorem s_image : Sim fSh_image fMd_image := by
  rintro M hI
  have hI0 := hI
  obtain ⟨p, n, hN, hT, hD, hIm, hC, hB, hS, hZ, hL⟩ := hI
  obtain ⟨L, w1, wh, w2, w3, w4, w5, w6⟩ := inv_wh hN hL
  have p8 := hN.1
  obtain ⟨M1, e1, K1, V1, -⟩ := become_c (b0 := 60) (b1 := 36) p8 (by omega) w5
  have m34 : M1.1 34 = M.1 34 := K1.f (fun i h => by unfold PB at h; omega)
  have m24 : M1.1 2 4 = nI p := by rw [K1.1 2 4 (by unfold PB; omega)]; exact hN.2.1
  have KA : Kp (fun a i => PB 60 a i ∨ a = 35 ∨ (a = 0 ∧ i = 10)) M (wI (upA M1 35 (va_cpy (M1.1 34) (M1.1 35) 0 0 5)) 0 10 (nI p)) := ((K1.mono (fun a i h => Or.inl h)).tr (Kp.up _ _ (fun i => by omega))).tr (Kp.w _ _ (by omega))
  have eA : fSh_image M = some (M.1 34 0, wI (upA M1 35 (va_cpy (M1.1 34) (M1.1 35) 0 0 5)) 0 10 (nI p)) := by
    rw [fSh_image, hN.2.1, e1, Option.bind_some, cp5_c, Option.bind_some]
    have : (upA M1 35 (va_cpy (M1.1 34) (M1.1 35) 0 0 5)).1 2 4 = nI p := m24
    rw [this]
    show some ((wI (upA M1 35 (va_cpy (M1.1 34) (M1.1 35) 0 0 5)) 0 10 (nI p)).1 34 0, _) = _
    have : (wI (upA M1 35 (va_cpy (M1.1 34) (M1.1 35) 0 0 5)) 0 10 (nI p)).1 34 0 = M.1 34 0 := by rw [← m34]; rfl
    rw [this]
  generalize eMA : wI (upA M1 35 (va_cpy (M1.1 34) (M1.1 35) 0 0 5)) 0 10 (nI p) = MA at *
  have a010 : MA.1 0 10 = nI p := by rw [← eMA]; rfl
  have a35 : ∀ i, i < 5 → MA.1 35 i = M.1 34 i := fun i hi => by
    rw [← eMA]
    show va_cpy (M1.1 34) (M1.1 35) 0 0 5 i = _
    rw [cpy0, if_pos hi, m34]
  have VA : VS p 60 MA (nowS M) := by
    rw [← eMA]
    exact V1.kp (P := fun a i => a = 35 ∨ (a = 0 ∧ i = 10)) ((Kp.up _ _ (fun i => by omega)).tr (Kp.w _ _ (by omega))) (fun a i h => by omega)
  have z25 : stZ 66 25 MA 1 = some (wI MA 66 25 1) := by unfold stZ; rw [if_pos (Or.inr rfl)]
  have p66 : (wI MA 66 25 1).1 66 3 = nI p := by
    show MA.1 66 3 = nI p
    rw [KA.1 66 3 (by unfold PB; omega)]; exact hN.2.2.1
  obtain ⟨M3, e3, K3, k1, k2, k3⟩ := keeps_m (wI (wI MA 66 25 1) 66 26 (nI p)) 83 (by omega)
  obtain ⟨g, e4, hg⟩ := cp5_m M3
  have K2 : Kp (fun a i => (a = 66 ∧ (i = 25 ∨ i = 26)) ∨ a = 83 ∨ a = 84) MA (upA M3 84 g) := (((Kp.w MA 1 (by omega)).tr (Kp.w _ (nI p) (by omega))).tr (K3.mono (fun a i h => by omega))).tr (Kp.up _ _ (fun i => by omega))
  have eB : fMd_image MA = some (M.1 34 0, upA M3 84 g) := by
    rw [fMd_image, z25, Option.bind_some, p66, e3, Option.bind_some, e4, Option.bind_some]
    show some ((upA M3 84 g).1 82 0, _) = _
    have : (upA M3 84 g).1 82 0 = M.1 34 0 := by
      rw [K2.1 82 0 (by omega), KA.1 82 0 (by unfold PB; omega)]
      exact hD 0 (by omega)
    rw [this]
  have q25 : (upA M3 84 g).1 66 25 = 1 := by
    show M3.1 66 25 = 1
    rw [K3.1 66 25 (by omega)]; rfl
  have q26 : (upA M3 84 g).1 66 26 = nI p := by
    show M3.1 66 26 = nI p
    rw [K3.1 66 26 (by omega)]; rfl
  have KK : Kp (fun a i => PB 60 a i ∨ a = 35 ∨ (a = 0 ∧ i = 10) ∨ (a = 66 ∧ (i = 25 ∨ i = 26)) ∨ a = 83 ∨ a = 84) M (upA M3 84 g) := (KA.mono (fun a i h => by unfold PB at h; unfold PB; omega)).tr (K2.mono (fun a i h => by omega))
  obtain ⟨i1, i2, i3, i4, i5⟩ := inv_parts KK hT hC hB hS hL (fun a i h => by unfold PB at h; omega)
  have f : ∀ a, (a ≤ 6 ∧ a ≠ 0) ∨ (36 ≤ a ∧ a ≤ 59) ∨ a = 34 ∨ a = 82 ∨ (67 ≤ a ∧ a ≤ 70) → (upA M3 84 g).1 a = M.1 a := fun a ha => KK.f (fun i h => by unfold PB at h; omega)
  have f83 : ∀ i, (upA M3 84 g).1 83 i = M3.1 83 i := fun i => rfl
  have mm : ∀ a i, 67 ≤ a ∧ a ≤ 70 ∨ (a = 66 ∧ i = 5) → (wI (wI MA 66 25 1) 66 26 (nI p)).1 a i = M.1 a i := fun a i h => by
    have : Kp (fun a i => a = 66 ∧ (i = 25 ∨ i = 26)) MA (wI (wI MA 66 25 1) 66 26 (nI p)) := (Kp.w MA 1 (by omega)).tr (Kp.w _ (nI p) (by omega))
    rw [this.1 a i (by omega), KA.1 a i (by unfold PB; omega)]
  have cl : ∀ a i, 60 ≤ a ∧ a ≤ 65 → (upA M3 84 g).1 a i = MA.1 a i := fun a i h => K2.1 a i (by omega)
  have h010 : (upA M3 84 g).1 0 10 = nI p := by
    show M3.1 0 10 = _
    rw [K3.1 0 10 (by omega)]
    exact a010
  refine ⟨M.1 34 0, MA, upA M3 84 g, eA, eB, p, n, hN.congr (congrFun (f 2 (by omega)) 4) (KK.1 66 3 (by unfold PB; omega)) (f 67 (by omega)) (f 3 (by omega)) (f 68 (by omega)) (f 37 (by omega)) (f 69 (by omega)) (f 38 (by omega)) (f 70 (by omega)) (f 39 (by omega)) (f 5 (by omega)) (f 6 (by omega)) (f 40 (by omega)) (KK.1 66 5 (by unfold PB; omega)) (congrFun (f 36 (by omega)) 4) (f 4 (by omega)), i1, hD.congr (f 82 (by omega)) (f 34 (by omega)), Or.inr ⟨p, Nat.le_refl _, h010, q25, q26, fun i hi => ?_, fun i hi => ?_, fun q hq => ⟨⟨?_, ?_⟩, ?_, ?_⟩, ⟨?_, ?_⟩, fun i hi => ?_⟩, i2, i3, i4, hZ.congr (f 41 (by omega)) (f 47 (by omega)) (f 53 (by omega)) (f 59 (by omega)), i5⟩
  · rw [f83, (k1 i hi).1, mm 68 i (by omega), cl 61 i (by omega)]
    have := VA.1 i hi
    rw [show MA.1 61 i = (nowS M).1 i from this]
    exact hN.2.2.2.2.1 i hi
  · rw [f83, (k1 i hi).2, mm 69 i (by omega), cl 62 i (by omega)]
    have := VA.2.1 i hi
    rw [show MA.1 62 i = (nowS M).2.1 i from this]
    exact hN.2.2.2.2.2.1 i hi
  · rw [f83, k2 q (by omega), mm 70 q (by omega), cl 63 q (by omega)]
    have := VA.2.2.1 q hq
    rw [show MA.1 63 q = (nowS M).2.2.1 q from this]
    exact (hN.2.2.2.2.2.2.1 q hq).1.1
  · rw [cl 63 q (by omega)]
    have := VA.2.2.1 q hq
    rw [show MA.1 63 q = (nowS M).2.2.1 q from this]
    exact (hN.2.2.2.2.2.2.1 q hq).1.2
  · rw [f83, show 96 + q = 72 + (24 + q) by omega, k2 (24 + q) (by omega), mm 70 _ (by omega), cl 64 q (by omega)]
    have := VA.2.2.2.1 q hq
    rw [show MA.1 64 q = (nowS M).2.2.2.1 q from this]
    exact (hN.2.2.2.2.2.2.1 q hq).2.2.2.1
  · rw [cl 64 q (by omega)]
    have := VA.2.2.2.1 q hq
    rw [show MA.1 64 q = (nowS M).2.2.2.1 q from this]
    exact (hN.2.2.2.2.2.2.1 q hq).2.2.2.2
  · rw [f83, k3, mm 66 5 (by omega), cl 60 4 (by omega)]
    have := VA.2.2.2.2
    rw [show MA.1 60 4 = (nowS M).2.2.2.2 from this]
    exact hN.2.2.2.2.2.2.2.2.1.1
  · rw [cl 60 4 (by omega)]
    have := VA.2.2.2.2
    rw [show MA.1 60 4 = (nowS M).2.2.2.2 from this]
    exact hN.2.2.2.2.2.2.2.2.1.2
  · have e84 : (upA M3 84 g).1 84 i = M3.1 82 i := by
      show (if (84 : Nat) = 84 then g else M3.1 84) i = _
      rw [if_pos rfl]; exact hg i hi
    have e35 : (upA M3 84 g).1 35 i = MA.1 35 i := K2.1 35 i (by omega)
    have e82 : M3.1 82 i = M.1 82 i := by
      rw [K3.1 82 i (by omega)]
      show MA.1 82 i = _
      exact KA.1 82 i (by unfold PB; omega)
    rw [e84, e35, e82, a35 i hi]
    exact hD i hi
