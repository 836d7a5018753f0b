theorem note_J (M : Mem) (u : Nat) (hu : u < 40) (h : M.1 15 4 = nI u) (x w d v : Int32) : fChanges_note_J13 M x w d v = some (wI (wI (wI (wI (wI (wI M 16 u x) 17 u w) 18 u d) 19 u v) 15 4 (nI (u + 1))) 15 5 (nI (u + 1))) := by
  simp [fChanges_note_J13, h, stI_n hu (by omega : 40 ≤ 1000), wI_1, upd_a, nI_1]
theorem forg_ok (M : Mem) : fChanges_forgetOldest M = some (wI (upA (upA (upA (upA M 16 (va_cpy (M.1 16) (M.1 16) 1 0 39)) 17 (va_cpy (M.1 17) (M.1 17) 1 0 39)) 18 (va_cpy (M.1 18) (M.1 18) 1 0 39)) 19 (va_cpy (M.1 19) (M.1 19) 1 0 39)) 15 4 39) := rfl
theorem cpy39 (f : Nat → Int32) (i : Nat) (h : i < 39) : va_cpy f f 1 0 39 i = f (i + 1) := by
  unfold va_cpy
  rw [if_pos (by omega)]
  congr 1
  omega
theorem note_ok (M : Mem) (u : Nat) (hu : u ≤ 40) (h : M.1 15 4 = nI u) (x w d v : Int32) : ∃ (Mn : Mem) (u' s : Nat), u' < 40 ∧ ((u < 40 ∧ u' = u ∧ s = 0) ∨ (u = 40 ∧ u' = 39 ∧ s = 1)) ∧ fChanges_note M x w d v = some Mn ∧ Keep [15, 16, 17, 18, 19] [] M Mn ∧ Mn.1 15 4 = nI (u' + 1) ∧ Mn.1 15 5 = nI (u' + 1) ∧
    (∀ i, i < u' → Mn.1 16 i = M.1 16 (i + s) ∧ Mn.1 17 i = M.1 17 (i + s) ∧ Mn.1 18 i = M.1 18 (i + s) ∧ Mn.1 19 i = M.1 19 (i + s)) ∧ Mn.1 16 u' = x ∧ Mn.1 17 u' = w ∧ Mn.1 18 u' = d ∧ Mn.1 19 u' = v := by
  by_cases q : u = 40
  · subst q
    have e : ¬ nI 40 < 40 := by decide
    refine ⟨wI (wI (wI (wI (wI (wI (wI (upA (upA (upA (upA M 16 (va_cpy (M.1 16) (M.1 16) 1 0 39)) 17 (va_cpy (M.1 17) (M.1 17) 1 0 39)) 18 (va_cpy (M.1 18) (M.1 18) 1 0 39)) 19 (va_cpy (M.1 19) (M.1 19) 1 0 39)) 15 4 39) 16 39 x) 17 39 w) 18 39 d) 19 39 v) 15 4 (nI 40)) 15 5 (nI 40), 39, 1, by omega, Or.inr ⟨rfl, rfl, rfl⟩, ?_, ?_⟩
    · rw [fChanges_note, h, if_neg e, forg_ok, Option.bind_some]
      exact note_J _ 39 (by omega) rfl x w d v
    · refine ⟨?_, rfl, rfl, fun i hi => ?_, rfl, rfl, rfl, rfl⟩
      · exact ((((((((((Keep.up M 16 _ (by decide)).tr (Keep.up _ 17 _ (by decide))).tr (Keep.up _ 18 _ (by decide))).tr (Keep.up _ 19 _ (by decide))).tr (Keep.w _ 15 4 39 (by decide))).tr (Keep.w _ 16 39 x (by decide))).tr (Keep.w _ 17 39 w (by decide))).tr (Keep.w _ 18 39 d (by decide))).tr (Keep.w _ 19 39 v (by decide))).tr ((Keep.w _ 15 4 (nI 40) (by decide)).tr (Keep.w _ 15 5 (nI 40) (by decide)))).sub rfl rfl
      · have ne : ¬ i = 39 := by omega
        simp [wI_1, upA_1, upd_a, ne, cpy39 _ i hi]
  · have hu2 : u < 40 := by omega
    have e : nI u < 40 := (nI_ltI (b := 40) (by omega) (by omega)).mpr hu2
    refine ⟨wI (wI (wI (wI (wI (wI M 16 u x) 17 u w) 18 u d) 19 u v) 15 4 (nI (u + 1))) 15 5 (nI (u + 1)), u, 0, hu2, Or.inl ⟨hu2, rfl, rfl⟩, ?_, ?_, rfl, rfl, fun i hi => ?_, ?_⟩
    · rw [fChanges_note, h, if_pos e]
      exact note_J _ u hu2 h x w d v
    · exact (((((Keep.w M 16 u x (by decide)).tr (Keep.w _ 17 u w (by decide))).tr (Keep.w _ 18 u d (by decide))).tr (Keep.w _ 19 u v (by decide))).tr ((Keep.w _ 15 4 _ (by decide)).tr (Keep.w _ 15 5 _ (by decide)))).sub rfl rfl
    · have ne : ¬ i = u := by omega
      simp [wI_1, upd_a, ne]
    · simp [wI_1, upd_a]
theorem shift_md (M : Mem) : ∃ g : Nat → Int32, fMd_mend_L55 FU M 0 = some (upA M 85 g) ∧ ∀ j, j < 156 → g j = M.1 85 (j + 4) := by
  obtain ⟨r, e, g, hr, hg⟩ := loop0 (σ := Mem × Int32) (fun n s => fMd_mend_L55 n s.1 s.2) (fun i s => s.2 = nI i ∧ ∃ g : Nat → Int32, s.1 = upA M 85 g ∧ ∀ j, g j = if j < i then M.1 85 (j + 4) else M.1 85 j) (fun r => ∃ g : Nat → Int32, r = upA M 85 g ∧ ∀ j, g j = if j < 156 then M.1 85 (j + 4) else M.1 85 j) 156 (fu_lt (by omega)) (M, 0)
    ⟨rfl, M.1 85, by refine Prod.ext (funext fun b => ?_) rfl; by_cases q : b = 85 <;> simp [upA, q], fun j => by simp⟩
    (fun n i s hi hP => by
      obtain ⟨s1, s2⟩ := s
      obtain ⟨q1, g, q2, hg⟩ := hP
      dsimp only at q1 q2
      subst q1
      subst q2
      right
      refine ⟨(upA M 85 (upd g i (g (i + 4))), nI (i + 1)), ⟨rfl, _, rfl, fun j => ?_⟩, ?_⟩
      · rw [upd_a, hg, hg]
        by_cases q : j = i
        · subst q
          rw [if_pos rfl, if_neg (by omega), if_pos (by omega)]
        · have : (j < i + 1) ↔ (j < i) := by omega
          simp [q, this]
      · show fMd_mend_L55_F (fMd_mend_L55 n) _ _ = _
        have h1 : ¬ (156 : Int32) ≤ nI i := nI_geL (b := 156) 156 rfl hi (by omega)
        have h4 : nI i + 4 = nI (i + 4) := nI_add i 4
        simp only [fMd_mend_L55_F, h1, if_false, h4, rdI_n (show i + 4 < 160 by omega) (by omega : 160 ≤ 1000), stI_n (show i < 160 by omega) (by omega : 160 ≤ 1000), Option.bind_some, nI_1, upA_1, if_true, wI_upA])
    (fun n s hP => by
      obtain ⟨s1, s2⟩ := s
      obtain ⟨q1, g, q2, hg⟩ := hP
      dsimp only at q1 q2
      subst q1
      subst q2
      exact ⟨_, rfl, g, rfl, hg⟩)
  subst hr
  exact ⟨g, e, fun j hj => by rw [hg, if_pos hj]⟩
theorem mend_J (M : Mem) (u : Nat) (hu : u < 40) (h : M.1 66 30 = nI u) (x w v d : Int32) : fMd_mend_J95 M x w v d = some (d, wI (wI (wI (wI (wI (wI M 85 (4 * u) x) 85 (4 * u + 1) w) 85 (4 * u + 2) d) 85 (4 * u + 3) v) 66 30 (nI (u + 1))) 66 29 (nI (u + 1))) := by
  have e1 : nI (4 * u) + 1 = nI (4 * u + 1) := nI_add _ 1
  have e2 : nI (4 * u) + 2 = nI (4 * u + 2) := nI_add _ 2
  have e3 : nI (4 * u) + 3 = nI (4 * u + 3) := nI_add _ 3
  simp [fMd_mend_J95, h, nI_mul4, e1, e2, e3, stI_n (show 4 * u < 160 by omega) (by omega : 160 ≤ 1000), stI_n (show 4 * u + 1 < 160 by omega) (by omega : 160 ≤ 1000), stI_n (show 4 * u + 2 < 160 by omega) (by omega : 160 ≤ 1000), stI_n (show 4 * u + 3 < 160 by omega) (by omega : 160 ≤ 1000), wI_1, upd_a]
  simp [nI_1]
theorem get_congr (M M1 : Mem) (x w : Int32) (h67 : M1.1 67 = M.1 67) (h68 : M1.1 68 = M.1 68) (h69 : M1.1 69 = M.1 69) (h70 : M1.1 70 = M.1 70) (h5 : M1.1 66 5 = M.1 66 5) : fMd_get M1 x w = fMd_get M x w := by
  simp only [fMd_get, fMd_get_J74, rdI, h67, h68, h69, h70, h5]
/-- the tail of mend on the reference's side: from the number told on -/
theorem mend_tail (M : Mem) (u : Nat) (hu : u ≤ 40) (h : M.1 66 30 = nI u) (x w v d : Int32) : ∃ (Mt : Mem) (u' s : Nat), u' < 40 ∧ ((u < 40 ∧ u' = u ∧ s = 0) ∨ (u = 40 ∧ u' = 39 ∧ s = 1)) ∧ (if ¬ (M.1 66 30) = 40 then fMd_mend_J95 M x w v d else Option.bind (fMd_mend_L55 FU M 0) fun o17 => fMd_mend_J95 (wI o17 66 30 ((o17.1 66 30) - 1)) x w v d) = some (d, Mt) ∧ Keep [85] [29, 30] M Mt ∧ Mt.1 66 30 = nI (u' + 1) ∧ Mt.1 66 29 = nI (u' + 1) ∧
    (∀ i, i < u' → Mt.1 85 (4 * i) = M.1 85 (4 * (i + s)) ∧ Mt.1 85 (4 * i + 1) = M.1 85 (4 * (i + s) + 1) ∧ Mt.1 85 (4 * i + 2) = M.1 85 (4 * (i + s) + 2) ∧ Mt.1 85 (4 * i + 3) = M.1 85 (4 * (i + s) + 3)) ∧ Mt.1 85 (4 * u') = x ∧ Mt.1 85 (4 * u' + 1) = w ∧ Mt.1 85 (4 * u' + 2) = d ∧ Mt.1 85 (4 * u' + 3) = v := by
  have key : ∀ (N : Mem) (m : Nat) (f : Nat → Int32), m < 40 → Keep [85] [30] M N → N.1 66 30 = nI m → N.1 85 = f → ∃ Mt, fMd_mend_J95 N x w v d = some (d, Mt) ∧ Keep [85] [29, 30] M Mt ∧ Mt.1 66 30 = nI (m + 1) ∧ Mt.1 66 29 = nI (m + 1) ∧ (∀ i, i < m → Mt.1 85 (4 * i) = f (4 * i) ∧ Mt.1 85 (4 * i + 1) = f (4 * i + 1) ∧ Mt.1 85 (4 * i + 2) = f (4 * i + 2) ∧ Mt.1 85 (4 * i + 3) = f (4 * i + 3)) ∧ Mt.1 85 (4 * m) = x ∧ Mt.1 85 (4 * m + 1) = w ∧ Mt.1 85 (4 * m + 2) = d ∧ Mt.1 85 (4 * m + 3) = v := by
    intro N m f hm hk h30 hf
    refine ⟨_, mend_J N m hm h30 x w v d, ?_, rfl, rfl, fun i hi => ?_, ?_⟩
    · exact (((((((hk.tr (Keep.w _ 85 _ x (by decide))).tr (Keep.w _ 85 _ w (by decide))).tr (Keep.w _ 85 _ d (by decide))).tr (Keep.w _ 85 _ v (by decide))).tr (Keep.w66 _ 30 _))).tr (Keep.w66 _ 29 _)).sub rfl rfl
    · have n1 : ∀ a b : Nat, a < 4 → b < 4 → ¬ 4 * i + a = 4 * m + b := fun a b _ _ => by omega
      have n0 : ∀ b : Nat, b < 4 → ¬ 4 * i = 4 * m + b := fun b _ => by omega
      have n2 : ∀ a : Nat, a < 4 → ¬ 4 * i + a = 4 * m := fun a _ => by omega
      have n3 : ¬ 4 * i = 4 * m := by omega
      have n4 : ¬ i = m := by omega
      subst hf
      simp [wI_1, upd_a, n1, n0, n2, n3, n4]
    · have n0 : ∀ a b : Nat, a ≠ b → ¬ 4 * m + a = 4 * m + b := fun a b h => by omega
      simp [wI_1, upd_a]
  by_cases q : u = 40
  · subst q
    obtain ⟨g, e, hg⟩ := shift_md M
    have e40 : nI 40 = 40 := rfl
    have e39 : (40 : Int32) - 1 = nI 39 := rfl
    obtain ⟨Mt, k1, k2, k3, k4, k5, k6⟩ := key (wI (upA M 85 g) 66 30 (nI 39)) 39 g (by omega) (((Keep.up M 85 g (by decide)).tr (Keep.w66 _ 30 _)).sub rfl rfl) rfl rfl
    refine ⟨Mt, 39, 1, by omega, Or.inr ⟨rfl, rfl, rfl⟩, ?_, k2, k3, k4, fun i hi => ?_, k6⟩
    · rw [h, e40, if_neg (by simp), e, Option.bind_some]
      have : (upA M 85 g).1 66 30 = nI 40 := h
      rw [this, e40, e39]
      exact k1
    · obtain ⟨a1, a2, a3, a4⟩ := k5 i hi
      have z0 : 4 * i + 4 = 4 * (i + 1) := by omega
      have z1 : 4 * i + 1 + 4 = 4 * (i + 1) + 1 := by omega
      have z2 : 4 * i + 2 + 4 = 4 * (i + 1) + 2 := by omega
      have z3 : 4 * i + 3 + 4 = 4 * (i + 1) + 3 := by omega
      rw [a1, a2, a3, a4, hg _ (by omega), hg _ (by omega), hg _ (by omega), hg _ (by omega), z0, z1, z2, z3]
      exact ⟨rfl, rfl, rfl, rfl⟩
  · have hu2 : u < 40 := by omega
    have n40 : ¬ nI u = 40 := fun z => q ((nI_eq (b := 40) (by omega) (by omega)).mp z)
    obtain ⟨Mt, k1, k2, k3, k4, k5, k6⟩ := key M u (M.1 85) hu2 ((Keep.rf M).sub rfl rfl) h rfl
    refine ⟨Mt, u, 0, hu2, Or.inl ⟨hu2, rfl, rfl⟩, ?_, k2, k3, k4, fun i hi => k5 i hi, k6⟩
    rw [h, if_pos n40]
    exact k1
theorem s_mend (x w v : Int32) : Sim (fun M => fSh_mend M x w v) (fun M => fMd_mend M x w v) := by
  rintro M hI
  have hI0 := hI
  obtain ⟨p, n, hN, hT, hD, hIm, hC, hB, hS, hZ, hL⟩ := hI
  rcases num_cases p hN.1 M hN.2.1 hN.2.2.1 x w with ⟨h1, h2⟩ | ⟨k, j, hk, rfl, rfl, h1, h2⟩
  · exact ⟨-1, M, M, by simp [fSh_mend, h1], by simp [fMd_mend, h2], hI0⟩
  have j8 : j < 8 := by rcases hk with h | h | h <;> omega
  obtain ⟨hf1, hf2⟩ := fit_ok M v j j8
  by_cases hv0 : fMd_within v 0 (tbG j) = 0
  · exact ⟨-1, M, M, by simp [fSh_mend, h1, hf1, hv0], by simp [fMd_mend, h2, hf2, hv0], hI0⟩
  have hv := within_rng hv0
  obtain ⟨d, e1, e2, hd⟩ := told_ok hN hk
  by_cases hdv : d = v
  · exact ⟨d, M, M, by simp [fSh_mend, h1, hf1, hv0, e1, hdv], by simp [fMd_mend, h2, hf2, hv0, e2, hdv], hI0⟩
  obtain ⟨u, a, u1, u2, u3, u4, u5, u6, u7⟩ := hC
  obtain ⟨Mn, u', s, m1, m2, m3, m4, m5, m6, m7, m8, m9, m10, m11⟩ := note_ok M u (by omega) u3 (nI k) (nI j) d v
  have hNn : IvN p Mn := hN.kp m4 ⟨rfl, rfl, rfl, rfl, rfl, rfl, rfl, rfl, rfl, rfl, rfl, rfl, rfl, rfl, rfl, rfl⟩
  obtain ⟨M1, t0, t1⟩ := tell_ok (M := Mn) hN.1 (fun c hc => hNn.2.2.2.2.2.2.2.2.2 c hc) v hk
  have hK := m4.tr t1.keep
  obtain ⟨M2, b0, b1⟩ := bec_ok (M := M1) hN.1 v hk
  have hK2 := hK.tr b1.keep
  have hN2 : IvN p M2 := IvN_tb hNn hk hv t1 b1
  have q30 : M2.1 66 30 = nI u := by rw [hK2.i66 30 rfl]; exact u4
  obtain ⟨Mt, u'', s', r1, r2, r3, r4, r5, r6, r7, r8, r9, r10, r11⟩ := mend_tail M2 u (by omega) q30 (nI k) (nI j) v d
  obtain ⟨rfl, rfl⟩ : u'' = u' ∧ s' = s := by omega
  have hK3 := hK2.tr r4
  refine ⟨d, M1, Mt, ?_, ?_, p, n, hN2.kp r4 ⟨rfl, rfl, rfl, rfl, rfl, rfl, rfl, rfl, rfl, rfl, rfl, rfl, rfl, rfl, rfl, rfl⟩, hT.kp hK3 ⟨rfl, rfl, rfl, rfl⟩, hD.kp hK3 ⟨rfl, rfl⟩, hIm.kp hK3 ⟨rfl, rfl, rfl, rfl, rfl, rfl, rfl, rfl, rfl, rfl, rfl⟩, ⟨u'' + 1, u'' + 1, by omega, by omega, ?_, r5, ?_, r6, fun i hi => ?_⟩, hB.kp hK3 ⟨rfl, rfl, rfl, rfl, rfl, rfl, rfl, rfl⟩, hS.kp hK3 ⟨rfl, rfl, rfl, rfl⟩, hZ.kp hK3 ⟨rfl, rfl, rfl, rfl⟩, hL.kp hK3 ⟨rfl, rfl, rfl, rfl, rfl, rfl, rfl, rfl, rfl⟩⟩
  · simp [fSh_mend, h1, hf1, hv0, e1, hdv, m3, t0]
  · have i1 : fMd_isOf M1 (nI k) (nI j) = 1 := by
      have : M1.1 66 3 = M.1 66 3 := hK.i66 3 rfl
      simp only [fMd_isOf, fMd_isOne, this]
      exact h2
    have i2 : fMd_get M1 (nI k) (nI j) = some d := by
      rw [get_congr M M1 _ _ (hK.c 67 rfl (by decide)) (hK.c 68 rfl (by decide)) (hK.c 69 rfl (by decide)) (hK.c 70 rfl (by decide)) (hK.i66 5 rfl)]
      exact e2
    have i3 : (1 : Int32) = 0 ↔ False := by decide
    simp only [fMd_mend, i1, i3, if_false, hf2, hv0, not_false_eq_true, if_true, i2, Option.bind_some, hdv, b0]
    exact r3
  · rw [(b1.keep.tr r4).c 15 rfl (by decide), t1.keep.c 15 rfl (by decide)]; exact m5
  · rw [(b1.keep.tr r4).c 15 rfl (by decide), t1.keep.c 15 rfl (by decide)]; exact m6
  · have kk := t1.keep.tr (b1.keep.tr r4)
    rw [kk.c 16 rfl (by decide), kk.c 17 rfl (by decide), kk.c 18 rfl (by decide), kk.c 19 rfl (by decide)]
    rcases Nat.lt_or_ge i u'' with z | z
    · obtain ⟨a1, a2, a3, a4⟩ := m7 i z
      obtain ⟨c1, c2, c3, c4⟩ := r7 i z
      rw [a1, a2, a3, a4, c1, c2, c3, c4, hK2.c 85 rfl (by decide)]
      exact u7 (i + s') (by omega)
    · obtain rfl : i = u'' := by omega
      rw [m8, m9, m10, m11, r8, r9, r10, r11]
      refine ⟨rfl, rfl, rfl, rfl, ⟨k, j, rfl, rfl, hk⟩, ?_, ?_⟩
      · exact ⟨⟨nI_pos' (by omega), (leR (b := 7) 7 rfl (by omega) (by omega)).mpr (by omega)⟩, by rw [ix_n (by omega)]; exact hd⟩
      · exact ⟨⟨nI_pos' (by omega), (leR (b := 7) 7 rfl (by omega) (by omega)).mpr (by omega)⟩, by rw [ix_n (by omega)]; exact hv⟩
