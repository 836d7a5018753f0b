theorem back1_m (M : Mem) : ∃ M1, fMd_back_L12 FU M 0 = some M1 ∧ Kp (fun a _ => a = 68 ∨ a = 69) M M1 ∧ ∀ c, c < 36 → M1.1 68 c = M.1 83 c ∧ M1.1 69 c = M.1 83 (36 + c) := by
  obtain ⟨r, e, K, l1⟩ := loop0 (σ := Mem × Int32) (fun n t => fMd_back_L12 n t.1 t.2) (fun i t => t.2 = nI i ∧ Kp (fun a _ => a = 68 ∨ a = 69) M t.1 ∧ ∀ c, c < i → t.1.1 68 c = M.1 83 c ∧ t.1.1 69 c = M.1 83 (36 + c)) (fun r => Kp (fun a _ => a = 68 ∨ a = 69) M r ∧ ∀ c, c < 36 → r.1 68 c = M.1 83 c ∧ r.1 69 c = M.1 83 (36 + c)) 36 (fu_lt (by omega)) (M, 0)
    ⟨rfl, Kp.rf _ _, fun c hc => absurd hc (Nat.not_lt_zero c)⟩
    (fun n i t hi hP => by
      obtain ⟨t1, t2⟩ := t
      obtain ⟨q1, K, l1⟩ := hP
      dsimp only at q1 K l1
      subst q1
      right
      have h36 := nI_lt36 hi
      have ea : ∀ j, t1.1 83 j = M.1 83 j := fun j => K.1 _ _ (by omega)
      have a36 : (36 : Int32) + nI i = nI (36 + i) := nI_add 36 i
      have F0 : fMd_back_L12 (n + 1) t1 (nI i) = fMd_back_L12_F (fMd_back_L12 n) t1 (nI i) := rfl
      refine ⟨(wI (wI t1 68 i (M.1 83 i)) 69 i (M.1 83 (36 + i)), nI (i + 1)), ⟨rfl, (K.tr (Kp.w _ _ (by omega))).tr (Kp.w _ _ (by omega)), fun c hc => ?_⟩, ?_⟩
      · dsimp only
        show upd (t1.1 68) i (M.1 83 i) c = _ ∧ upd (t1.1 69) i (M.1 83 (36 + i)) c = _
        simp only [upd_a]
        by_cases y : c = i
        · rw [if_pos y, if_pos y, y]
          exact ⟨rfl, rfl⟩
        · rw [if_neg y, if_neg y]
          exact l1 c (by omega)
      · dsimp only
        have e2 : (wI t1 68 i (M.1 83 i)).1 83 (36 + i) = M.1 83 (36 + i) := ea _
        rw [F0, fMd_back_L12_F, if_neg h36, rdI_n (by omega) (by omega), Option.bind_some, ea, stI_n hi (by omega), Option.bind_some, a36, rdI_n (by omega) (by omega), Option.bind_some, e2, stI_n hi (by omega), Option.bind_some, nI_1])
    (fun n t hP => by
      obtain ⟨t1, t2⟩ := t
      obtain ⟨q1, K, l1⟩ := hP
      dsimp only at q1 K l1
      subst q1
      refine ⟨t1, ?_, K, l1⟩
      show fMd_back_L12_F (fMd_back_L12 n) t1 (nI 36) = _
      rw [fMd_back_L12_F, if_pos nI_ge36])
  exact ⟨r, e, K, l1⟩
theorem back2_m (M : Mem) (p0 : Nat) (hp : p0 ≤ 8) (h26 : M.1 66 26 = nI p0) : ∃ M1, fMd_back_L53 FU M 0 = some M1 ∧ Kp (fun a i => a = 70 ∧ (i < p0 ∨ (24 ≤ i ∧ i < 24 + p0))) M M1 ∧ ∀ q, q < p0 → M1.1 70 q = M.1 83 (72 + q) ∧ M1.1 70 (24 + q) = M.1 83 (96 + q) := by
  obtain ⟨r, e, K, l1⟩ := loop0 (σ := Mem × Int32) (fun n t => fMd_back_L53 n t.1 t.2) (fun i t => t.2 = nI i ∧ Kp (fun a i => a = 70 ∧ (i < p0 ∨ (24 ≤ i ∧ i < 24 + p0))) M t.1 ∧ ∀ q, q < i → t.1.1 70 q = M.1 83 (72 + q) ∧ t.1.1 70 (24 + q) = M.1 83 (96 + q)) (fun r => Kp (fun a i => a = 70 ∧ (i < p0 ∨ (24 ≤ i ∧ i < 24 + p0))) M r ∧ ∀ q, q < p0 → r.1 70 q = M.1 83 (72 + q) ∧ r.1 70 (24 + q) = M.1 83 (96 + q)) p0 (fu_lt (by omega)) (M, 0)
    ⟨rfl, Kp.rf _ _, fun c hc => absurd hc (Nat.not_lt_zero c)⟩
    (fun n i t hi hP => by
      obtain ⟨t1, t2⟩ := t
      obtain ⟨q1, K, l1⟩ := hP
      dsimp only at q1 K l1
      subst q1
      right
      have ea : ∀ j, t1.1 83 j = M.1 83 j := fun j => K.1 _ _ (by omega)
      have e26 : t1.1 66 26 = nI p0 := by rw [K.1 66 26 (by omega)]; exact h26
      have h0 : ¬ nI p0 ≤ nI i := nI_ge hi (by omega)
      have a72 : (72 : Int32) + nI i = nI (72 + i) := nI_add 72 i
      have a96 : (96 : Int32) + nI i = nI (96 + i) := nI_add 96 i
      have a24 : (24 : Int32) + nI i = nI (24 + i) := nI_add 24 i
      have F0 : fMd_back_L53 (n + 1) t1 (nI i) = fMd_back_L53_F (fMd_back_L53 n) t1 (nI i) := rfl
      refine ⟨(wI (wI t1 70 i (M.1 83 (72 + i))) 70 (24 + i) (M.1 83 (96 + i)), nI (i + 1)), ⟨rfl, (K.tr (Kp.w _ _ (by omega))).tr (Kp.w _ _ (by omega)), fun q hq => ?_⟩, ?_⟩
      · dsimp only
        rw [wI_1, if_pos rfl, wI_1, if_pos rfl]
        simp only [upd_a]
        have n1 : ¬ q = 24 + i := by omega
        have n2 : ¬ 24 + q = i := by omega
        by_cases y : q = i
        · have y2 : 24 + q = 24 + i := by omega
          rw [if_neg n1, if_pos y, if_pos y2, y]
          exact ⟨rfl, rfl⟩
        · have y2 : ¬ 24 + q = 24 + i := by omega
          rw [if_neg n1, if_neg y, if_neg y2, if_neg n2]
          exact l1 q (by omega)
      · dsimp only
        have e2 : (wI t1 70 i (M.1 83 (72 + i))).1 83 (96 + i) = M.1 83 (96 + i) := ea _
        rw [F0, fMd_back_L53_F, e26, if_neg h0, a72, rdI_n (by omega) (by omega), Option.bind_some, ea, stI_n (by omega) (by omega), Option.bind_some, a96, rdI_n (by omega) (by omega), Option.bind_some, e2, a24, stI_n (by omega) (by omega), Option.bind_some, nI_1])
    (fun n t hP => by
      obtain ⟨t1, t2⟩ := t
      obtain ⟨q1, K, l1⟩ := hP
      dsimp only at q1 K l1
      subst q1
      have e26 : t1.1 66 26 = nI p0 := by rw [K.1 66 26 (by omega)]; exact h26
      refine ⟨t1, ?_, K, l1⟩
      show fMd_back_L53_F (fMd_back_L53 n) t1 (nI p0) = _
      rw [fMd_back_L53_F, e26, if_pos (Int32.le_refl _)])
  exact ⟨r, e, K, l1⟩
theorem s_back : Sim fSh_back fMd_back := by
  rintro M hI
  have hI0 := hI
  obtain ⟨p, n, hN, hT, hD, hIm, hC, hB, hS, hZ, hL⟩ := hI
  rcases hIm with ⟨h1, h2⟩ | ⟨p0, h0, h1, h2, h3, h4, h5, h6, h7, h8⟩
  · refine ⟨-5, M, M, ?_, ?_, hI0⟩
    · rw [fSh_back, if_neg (fun z => z h1)]
    · rw [fMd_back, if_neg (fun z => z h2)]
  obtain ⟨L, w1, wh, w2, w3, w4, w5, w6⟩ := inv_wh hN hL
  have p8 := hN.1
  have V60 : VS p0 60 M (M.1 61, M.1 62, M.1 63, M.1 64, M.1 60 4) := ⟨fun _ _ => rfl, fun _ _ => rfl, fun _ _ => rfl, fun _ _ => rfl, rfl⟩
  obtain ⟨M1, e1, K1, V1, x1⟩ := become_c (b0 := 36) (b1 := 60) (by omega) (by omega) V60
  have m35 : M1.1 35 = M.1 35 := K1.f (fun i h => by unfold PB at h; omega)
  have KA : Kp (fun a i => PB 36 a i ∨ a = 34) M (upA M1 34 (va_cpy (M1.1 35) (M1.1 34) 0 0 5)) := (K1.mono (fun a i h => Or.inl h)).tr (Kp.up _ _ (fun i => Or.inr rfl))
  have a34 : ∀ i, i < 5 → (upA M1 34 (va_cpy (M1.1 35) (M1.1 34) 0 0 5)).1 34 i = M.1 35 i := fun i hi => by
    show va_cpy (M1.1 35) (M1.1 34) 0 0 5 i = _
    rw [cpy0, if_pos hi, m35]
  have n10 : ¬ M.1 0 10 = -1 := by rw [h1]; exact m1_ne (by omega)
  have eA : fSh_back M = some (M.1 35 0, upA M1 34 (va_cpy (M1.1 35) (M1.1 34) 0 0 5)) := by
    rw [fSh_back, if_pos n10, h1, e1, Option.bind_some, cp5_c, Option.bind_some, (rd5 34 _).1, Option.bind_some, a34 0 (by omega)]
  have VA : VS p0 36 (upA M1 34 (va_cpy (M1.1 35) (M1.1 34) 0 0 5)) (M.1 61, M.1 62, M.1 63, M.1 64, M.1 60 4) := V1.kp (Kp.up (P := fun a i => a = 34) _ _ (fun i => rfl)) (fun a i h => by omega)
  have xA : ∀ q, p0 ≤ q → (upA M1 34 (va_cpy (M1.1 35) (M1.1 34) 0 0 5)).1 39 q = M.1 39 q ∧ (upA M1 34 (va_cpy (M1.1 35) (M1.1 34) 0 0 5)).1 40 q = M.1 40 q := x1
  generalize eMA : upA M1 34 (va_cpy (M1.1 35) (M1.1 34) 0 0 5) = MA at *
  obtain ⟨M2, e2, K2, l2⟩ := back1_m MA
  obtain ⟨M3, e3, K3, l3⟩ := back2_m M2 p0 (by omega) (by rw [K2.1 66 26 (by omega), KA.1 66 26 (by unfold PB; omega)]; exact h3)
  obtain ⟨g, e4, hg⟩ := cp5_b (wI M3 66 5 (MA.1 83 104))
  have c83 : M3.1 83 = MA.1 83 := by rw [K3.f (a := 83) (fun i h => by omega), K2.f (a := 83) (fun i h => by omega)]
  have d83 : MA.1 83 = M.1 83 := KA.f (fun i h => by unfold PB at h; omega)
  have c84 : ∀ i, (wI M3 66 5 (MA.1 83 104)).1 84 i = M.1 84 i := fun i => by
    show M3.1 84 i = _
    rw [K3.1 84 i (by omega), K2.1 84 i (by omega), KA.1 84 i (by unfold PB; omega)]
  have b25 : ¬ MA.1 66 25 = 0 := by rw [KA.1 66 25 (by unfold PB; omega), h2]; decide
  have e104 : (104 : Int32) = nI 104 := rfl
  have g0 : (upA (wI M3 66 5 (MA.1 83 104)) 82 g).1 82 0 = M.1 35 0 := by
    show g 0 = _
    rw [hg 0 (by omega), c84 0]
    exact h8 0 (by omega)
  have eB : fMd_back MA = some (M.1 35 0, upA (wI M3 66 5 (MA.1 83 104)) 82 g) := by
    rw [fMd_back, if_pos b25, e2, Option.bind_some, e3, Option.bind_some, e104, rdI_n (by omega) (by omega), Option.bind_some, c83, e4, Option.bind_some, (rd5 82 _).1, Option.bind_some, g0]
  have K4 : Kp (fun a i => a = 68 ∨ a = 69 ∨ (a = 70 ∧ (i < p0 ∨ (24 ≤ i ∧ i < 24 + p0))) ∨ (a = 66 ∧ i = 5) ∨ a = 82) MA (upA (wI M3 66 5 (MA.1 83 104)) 82 g) := (((K2.mono (fun a i h => by omega)).tr (K3.mono (fun a i h => by omega))).tr (Kp.w _ _ (by omega))).tr (Kp.up _ _ (fun i => by omega))
  have KK : Kp (fun a i => PB 36 a i ∨ a = 34 ∨ a = 68 ∨ a = 69 ∨ (a = 70 ∧ (i < p0 ∨ (24 ≤ i ∧ i < 24 + p0))) ∨ (a = 66 ∧ i = 5) ∨ a = 82) M (upA (wI M3 66 5 (MA.1 83 104)) 82 g) := (KA.mono (fun a i h => by unfold PB at h; unfold PB; omega)).tr (K4.mono (fun a i h => by omega))
  obtain ⟨i1, i2, i3, i4, i5⟩ := inv_parts KK hT hC hB hS hL (fun a i h => by unfold PB at h; omega)
  have f : ∀ a, a = 0 ∨ a = 35 ∨ (41 ≤ a ∧ a ≤ 65) ∨ a = 83 ∨ a = 84 → (upA (wI M3 66 5 (MA.1 83 104)) 82 g).1 a = M.1 a := fun a ha => KK.f (fun i h => by unfold PB at h; omega)
  have cl : ∀ a, a ≤ 65 → (upA (wI M3 66 5 (MA.1 83 104)) 82 g).1 a = MA.1 a := fun a ha => K4.f (fun i h => by omega)
  have f68 : ∀ i, i < 36 → (upA (wI M3 66 5 (MA.1 83 104)) 82 g).1 68 i = M.1 83 i ∧ (upA (wI M3 66 5 (MA.1 83 104)) 82 g).1 69 i = M.1 83 (36 + i) := fun i hi => by
    show M3.1 68 i = _ ∧ M3.1 69 i = _
    rw [K3.1 68 i (by omega), K3.1 69 i (by omega), ← d83]
    exact l2 i hi
  have f70 : ∀ q, q < p0 → (upA (wI M3 66 5 (MA.1 83 104)) 82 g).1 70 q = M.1 83 (72 + q) ∧ (upA (wI M3 66 5 (MA.1 83 104)) 82 g).1 70 (24 + q) = M.1 83 (96 + q) := fun q hq => by
    show M3.1 70 q = _ ∧ M3.1 70 (24 + q) = _
    have := l3 q hq
    rw [K2.1 83 _ (by omega), K2.1 83 _ (by omega), d83] at this
    exact this
  refine ⟨M.1 35 0, MA, upA (wI M3 66 5 (MA.1 83 104)) 82 g, eA, eB, p, n, ?_, i1, ?_, Or.inr ⟨p0, h0, ?_, ?_, ?_, ?_, ?_, ?_, ?_, ?_⟩, i2, i3, i4, hZ.congr (f 41 (by omega)) (f 47 (by omega)) (f 53 (by omega)) (f 59 (by omega)), i5⟩
  · have Kc : CW (nowW p L M) (upA (wI M3 66 5 (MA.1 83 104)) 82 g) := w2.kp KK (fun a i h => by unfold PB at h; omega)
    have Km : MW (nowW p L M) (upA (wI M3 66 5 (MA.1 83 104)) 82 g) := w3.kp KK (fun a i h => by unfold PB at h; omega) p8
    refine IvN_of (L := L) hN Kc Km (s := (M.1 61, M.1 62, fun q => if q < p0 then M.1 63 q else M.1 39 q, fun q => if q < p0 then M.1 64 q else M.1 40 q, M.1 60 4)) ⟨fun i hi => (h4 i hi).2, fun i hi => (h5 i hi).2, fun q hq => ?_, fun q hq => ?_, h7.2⟩ ⟨fun i hi => ?_, fun i hi => ?_, fun q hq => ?_, fun q hq => ?_, ?_⟩ ⟨fun i hi => ?_, fun i hi => ?_, fun q hq => ?_, fun q hq => ?_, ?_⟩ (fun q a b => ?_)
    · dsimp only
      by_cases z : q < p0
      · rw [if_pos z]; exact (h6 q z).1.2
      · rw [if_neg z]; exact (hN.2.2.2.2.2.2.1 q hq).1.2
    · dsimp only
      by_cases z : q < p0
      · rw [if_pos z]; exact (h6 q z).2.2
      · rw [if_neg z]; exact (hN.2.2.2.2.2.2.1 q hq).2.2.2.2
    · rw [cl (36 + 1) (by omega)]; exact VA.1 i hi
    · rw [cl (36 + 2) (by omega)]; exact VA.2.1 i hi
    · rw [cl (36 + 3) (by omega)]
      dsimp only
      by_cases z : q < p0
      · rw [if_pos z]; exact VA.2.2.1 q z
      · rw [if_neg z]; exact (xA q (by omega)).1
    · rw [cl (36 + 4) (by omega)]
      dsimp only
      by_cases z : q < p0
      · rw [if_pos z]; exact VA.2.2.2.1 q z
      · rw [if_neg z]; exact (xA q (by omega)).2
    · rw [cl 36 (by omega)]; exact VA.2.2.2.2
    · rw [(f68 i hi).1]; exact (h4 i hi).1
    · rw [(f68 i hi).2]; exact (h5 i hi).1
    · dsimp only
      by_cases z : q < p0
      · rw [if_pos z, (f70 q z).1]; exact (h6 q z).1.1
      · rw [if_neg z, KK.1 70 q (by unfold PB; omega)]; exact (hN.2.2.2.2.2.2.1 q hq).1.1
    · dsimp only
      by_cases z : q < p0
      · rw [if_pos z, (f70 q z).2]; exact (h6 q z).2.1
      · rw [if_neg z, KK.1 70 _ (by unfold PB; omega)]; exact (hN.2.2.2.2.2.2.1 q hq).2.2.2.1
    · show MA.1 83 104 = _
      rw [d83]; exact h7.1
    · rw [cl 40 (by omega), (xA q (by omega)).2]
      exact hN.2.2.2.2.2.2.2.1 q a b
  · intro i hi
    rw [cl 34 (by omega), a34 i hi]
    show g i = _
    rw [hg i hi, c84]
    exact h8 i hi
  · rw [f 0 (by omega)]; exact h1
  · rw [KK.1 66 25 (by unfold PB; omega)]; exact h2
  · rw [KK.1 66 26 (by unfold PB; omega)]; exact h3
  · rw [f 83 (by omega), f 61 (by omega)]; exact h4
  · rw [f 83 (by omega), f 62 (by omega)]; exact h5
  · rw [f 83 (by omega), f 63 (by omega), f 64 (by omega)]; exact h6
  · rw [f 83 (by omega), f 60 (by omega)]; exact h7
  · rw [f 84 (by omega), f 35 (by omega)]; exact h8
