/-! the reference's hour -/
def fnd (c low : Nat) : Int32 := if low = c then -1 else nI low
theorem be_step (n : Nat) (M : Mem) (h : Nat → Int32) (hM : ∀ i, i < 36 → M.1 67 i = h i) (c low w : Nat) (hc : c < 36) (hl : low < 36) (hw : w < 4) (hI : low = c ∨ h low < h c) : fMd_below_L4 (n + 1) M (nI c) (fnd c low) (nI w) = fMd_below_L4 n M (nI c) (fnd c (lowr h c low w)) (nI (w + 1)) ∧ (lowr h c low w = c ∨ h (lowr h c low w) < h c) := by
  have h4 : ¬ (4 : Int32) ≤ nI w := nI_geL (b := 4) 4 rfl hw (by omega)
  have F0 : fMd_below_L4 (n + 1) M (nI c) (fnd c low) (nI w) = fMd_below_L4_F (fMd_below_L4 n) M (nI c) (fnd c low) (nI w) := rfl
  rw [F0]
  simp only [fMd_below_L4_F, h4, if_false, (bs_ok c hc w hw).2, nI_1]
  cases e : bsd c w with
  | none =>
    rw [if_pos obs_none]
    simp only [lowr, e]
    exact ⟨trivial, hI⟩
  | some d =>
    have hd := bs_lt c hc w hw d e
    have hdc := bs_ne c w d e
    have hd0 : ¬ nI d < 0 := nI_pos (by omega)
    simp only [obs, hd0, if_false, rdI_n hd (by omega : 36 ≤ 1000), rdI_n hc (by omega : 36 ≤ 1000), Option.bind_some, hM d hd, hM c hc, lowr, e]
    by_cases q : h c ≤ h d
    · have n1 : ¬ h d < h low := by
        rcases hI with rfl | z
        · exact Int32.not_lt.mpr q
        · exact Int32.not_lt.mpr (Int32.le_of_lt (Int32.lt_of_lt_of_le z q))
      rw [if_pos q, if_neg n1]
      exact ⟨rfl, hI⟩
    · have q' := Int32.not_le.mp q
      rw [if_neg q]
      by_cases r : low = c
      · have f1 : fnd c low = -1 := if_pos r
        have n1 : h d < h low := by rw [r]; exact q'
        rw [f1, if_pos (by decide), if_pos n1]
        refine ⟨?_, Or.inr q'⟩
        rw [fnd, if_neg hdc]
      · have f1 : fnd c low = nI low := if_neg r
        have l0 : ¬ nI low < 0 := nI_pos (by omega)
        rw [f1, if_neg l0, rdI_n hl (by omega), Option.bind_some, hM low hl]
        by_cases y : h low ≤ h d
        · rw [if_pos y, if_neg (Int32.not_lt.mpr y), f1]
          exact ⟨rfl, hI⟩
        · rw [if_neg y, if_pos (Int32.not_le.mp y), fnd, if_neg hdc]
          exact ⟨rfl, Or.inr q'⟩
theorem below_m (M : Mem) (h : Nat → Int32) (hM : ∀ i, i < 36 → M.1 67 i = h i) (c : Nat) (hc : c < 36) : fMd_below M (nI c) = some (blw h c) := by
  have l0 := lowr_lt (h := h) (w := 0) hc (by omega) hc
  have l1 := lowr_lt (h := h) (w := 1) hc (by omega) l0
  have l2 := lowr_lt (h := h) (w := 2) hc (by omega) l1
  obtain ⟨a0, b0⟩ := be_step 1999 M h hM c c 0 hc hc (by omega) (Or.inl rfl)
  obtain ⟨a1, b1⟩ := be_step 1998 M h hM c _ 1 hc l0 (by omega) b0
  obtain ⟨a2, b2⟩ := be_step 1997 M h hM c _ 2 hc l1 (by omega) b1
  obtain ⟨a3, b3⟩ := be_step 1996 M h hM c _ 3 hc l2 (by omega) b2
  have e0 : fnd c c = -1 := if_pos rfl
  rw [e0] at a0
  have e : fMd_below_L4 FU M (nI c) (-1) 0 = some (blw h c) := by
    show fMd_below_L4 (1999 + 1) M (nI c) (-1) (nI 0) = _
    rw [a0]
    show fMd_below_L4 (1998 + 1) M _ _ _ = _
    rw [a1]
    show fMd_below_L4 (1997 + 1) M _ _ _ = _
    rw [a2]
    show fMd_below_L4 (1996 + 1) M _ _ _ = _
    rw [a3]
    rfl
  rw [fMd_below, e, Option.bind_some]
theorem sit_m {p : Nat} {M : Mem} (ce : Nat → Int32) (hp : p ≤ 8) (h3 : M.1 66 3 = nI p) (h : ∀ q, q < p → M.1 70 q = ce q) (c : Int32) : fMd_sitting M c = some (sit ce c p) := by
  obtain ⟨r, e, hr⟩ := loop0 (σ := Int32 × Int32) (fun n t => fMd_sitting_L4 n M c t.1 t.2) (fun i t => t = (sit ce c i, nI i)) (fun r => r = sit ce c p) p (fu_lt (by omega)) (0, 0) rfl
    (fun n i t hi hP => by
      subst hP
      right
      refine ⟨(sit ce c (i + 1), nI (i + 1)), rfl, ?_⟩
      show fMd_sitting_L4_F (fMd_sitting_L4 n) M c _ _ = _
      have h0 : ¬ nI p ≤ nI i := nI_ge hi (by omega)
      simp only [fMd_sitting_L4_F, h3, h0, if_false, rdI_n (show i < 32 by omega) (by omega : 32 ≤ 1000), Option.bind_some, h i hi, nI_1, sit]
      by_cases z : ce i = c <;> simp [z])
    (fun n t hP => by
      subst hP
      refine ⟨_, ?_, rfl⟩
      show fMd_sitting_L4_F (fMd_sitting_L4 n) M c _ _ = _
      simp only [fMd_sitting_L4_F, h3, Int32.le_refl, if_true])
  subst hr
  have e' : fMd_sitting_L4 FU M c 0 0 = some (sit ce c p) := e
  rw [fMd_sitting, e', Option.bind_some]
theorem VM.kp {P : Nat → Nat → Prop} {p : Nat} {M M1 : Mem} {s : St} (h : VM p M s) (hp : p ≤ 8) (k : Kp P M M1) (hP : ∀ a i, P a i → ¬ (a = 68 ∨ a = 69 ∨ (a = 70 ∧ (i < 8 ∨ (24 ≤ i ∧ i < 32))) ∨ (a = 66 ∧ i = 5))) : VM p M1 s := by
  obtain ⟨h1, h2, h3, h4, h5⟩ := h
  refine ⟨fun i hi => ?_, fun i hi => ?_, fun i hi => ?_, fun i hi => ?_, ?_⟩
  · rw [k.1 _ _ (fun z => hP _ _ z (by omega))]; exact h1 i hi
  · rw [k.1 _ _ (fun z => hP _ _ z (by omega))]; exact h2 i hi
  · rw [k.1 _ _ (fun z => hP _ _ z (by omega))]; exact h3 i hi
  · rw [k.1 _ _ (fun z => hP _ _ z (by omega))]; exact h4 i hi
  · rw [k.1 _ _ (fun z => hP _ _ z (by omega))]; exact h5
theorem st6 (a : Nat) (M : Mem) (x : Int32) : stI 6 a M 0 x = some (wI M a 0 x) ∧ stI 6 a M 1 x = some (wI M a 1 x) ∧ stI 6 a M 2 x = some (wI M a 2 x) ∧ stI 6 a M 3 x = some (wI M a 3 x) ∧ stI 6 a M 4 x = some (wI M a 4 x) ∧ stI 6 a M 5 x = some (wI M a 5 x) := ⟨rfl, rfl, rfl, rfl, rfl, rfl⟩
def PO (a _i : Nat) : Prop := a = 80 ∨ a = 81
theorem mnI_low {a b : Nat} (h : b ≤ a) (ha : a < 2 ^ 31) : mnI (nI a) (nI b) = nI b := by rw [mnI_n ha (by omega), Nat.min_eq_right h]
theorem runsOut_m {W : Wd} (hW : okW W) {s : St} {M : Mem} (hC : MW W M) (hV : VM W.1 M s) {c : Nat} (hc : c < 36) (hsk : ¬ low4 W.2.1 c = c) : ∃ M1, fMd_runsOut M (nI c) = some (ofn W s c, M1) ∧ Kp PO M M1 := by
  have k36 : (36 : Nat) ≤ 1000 := by omega
  have e1 : M.1 68 c = s.1 c := hV.1 c hc
  have e2 : M.1 69 c = s.2.1 c := hV.2.1 c hc
  have hlow := low4_lt (h := W.2.1) hc
  unfold fMd_runsOut ofn
  rw [if_neg hsk]
  by_cases hL : W.2.2.2.2 = []
  · have z : M.1 66 8 = 0 := by rw [hC.2.2.2.2.1, if_pos hL]
    refine ⟨M, ?_, Kp.rf _ _⟩
    rw [if_pos z]
    simp only [fMd_runsOut_J64, rdI_n hc k36, Option.bind_some, e1, e2, outf, if_pos hL]
    by_cases s1 : s.2.1 c = 1
    · simp [s1]
    · by_cases s2 : s.2.1 c = 2
      · simp [s2]
      · simp [s1, s2]
  · have z : M.1 66 8 = 1 := by rw [hC.2.2.2.2.1, if_neg hL]
    rw [z, if_neg (by decide)]
    have bM : ∀ M' : Mem, M'.1 67 = M.1 67 → fMd_below M' (nI c) = some (nI (low4 W.2.1 c)) := fun M' e => by
      rw [below_m M' W.2.1 (fun i hi => by rw [e]; exact hC.2.1 i hi) c hc, blw, if_neg hsk]
    have sM : ∀ M' : Mem, M'.1 66 = M.1 66 → M'.1 70 = M.1 70 → fMd_sitting M' (nI c) = some (sit s.2.2.1 (nI c) W.1) := fun M' h66 h70 => sit_m s.2.2.1 hW.1 (by rw [h66]; exact hC.1) (fun q hq => by rw [h70]; exact hV.2.2.1 q hq) (nI c)
    generalize eM : wI (wI (wI (wI (wI (wI M 81 0 (s.1 c)) 81 1 (s.2.1 c)) 81 2 (W.2.1 c - W.2.1 (low4 W.2.1 c))) 81 3 (sit s.2.2.1 (nI c) W.1)) 81 4 s.2.2.2.2) 81 5 (nI c) = M6
    have hb : fMd_byLaw M (nI c) = fMd_byLaw_L77 FU M6 0 := by
      unfold fMd_byLaw
      rw [rdI_n hc k36, Option.bind_some, (st6 81 M _).1, Option.bind_some, rdI_n hc k36, Option.bind_some, (st6 81 _ _).2.1, Option.bind_some, rdI_n hc k36, Option.bind_some, bM, Option.bind_some, rdI_n hlow k36, Option.bind_some, (st6 81 _ _).2.2.1, Option.bind_some, sM, Option.bind_some, (st6 81 _ _).2.2.2.1, Option.bind_some, (st6 81 _ _).2.2.2.2.1, Option.bind_some, (st6 81 _ _).2.2.2.2.2, Option.bind_some, ← eM]
      have h0 : (wI M 81 0 (M.1 68 c)).1 69 c = s.2.1 c := e2
      have h1 : (wI (wI M 81 0 (M.1 68 c)) 81 1 ((wI M 81 0 (M.1 68 c)).1 69 c)).1 67 c = W.2.1 c := hC.2.1 c hc
      have h2 : (wI (wI M 81 0 (M.1 68 c)) 81 1 ((wI M 81 0 (M.1 68 c)).1 69 c)).1 67 (low4 W.2.1 c) = W.2.1 (low4 W.2.1 c) := hC.2.1 _ hlow
      rw [h1, h2, h0, e1]
      have h5 : (wI (wI (wI (wI M 81 0 (s.1 c)) 81 1 (s.2.1 c)) 81 2 (W.2.1 c - W.2.1 (low4 W.2.1 c))) 81 3 (sit s.2.2.1 (nI c) W.1)).1 66 5 = s.2.2.2.2 := hV.2.2.2.2
      rw [h5]
      all_goals rfl
    have K6 : Kp PO M M6 := by
      rw [← eM]
      exact (((((Kp.w M _ (Or.inr rfl)).tr (Kp.w _ _ (Or.inr rfl))).tr (Kp.w _ _ (Or.inr rfl))).tr (Kp.w _ _ (Or.inr rfl))).tr (Kp.w _ _ (Or.inr rfl))).tr (Kp.w _ _ (Or.inr rfl))
    have hM6 : LawMd W.2.2.2.2 M6 := (hC.kp K6 (fun a i h => by unfold PO at h; omega) hW.1).2.2.2.2
    have hn : ∀ k, k < 6 → M6.1 81 k = nms (s.1 c) (s.2.1 c) (W.2.1 c - W.2.1 (low4 W.2.1 c)) (sit s.2.2.1 (nI c) W.1) s.2.2.2.2 (nI c) (nI k) := by
      intro k hk
      rw [← eM]
      have e : k = 0 ∨ k = 1 ∨ k = 2 ∨ k = 3 ∨ k = 4 ∨ k = 5 := by omega
      rcases e with rfl | rfl | rfl | rfl | rfl | rfl <;> rfl
    obtain ⟨M1, r1, r2⟩ := by_lines _ W.2.2.2.2 hW.2.2 W.2.2.2.2 [] M6 FU rfl hL hM6 (by have := hW.2.2.1; exact fu_lt (by omega)) hn
    have r1' : fMd_byLaw_L77 FU M6 0 = some (lawV (nms (s.1 c) (s.2.1 c) (W.2.1 c - W.2.1 (low4 W.2.1 c)) (sit s.2.2.1 (nI c) W.1) s.2.2.2.2 (nI c)) W.2.2.2.2, M1) := r1
    have K1 : Kp PO M M1 := K6.tr (r2.mono (fun a i h => Or.inl h))
    refine ⟨M1, ?_, K1⟩
    rw [hb, r1', Option.bind_some, fMd_runsOut_J64, rdI_n hc k36, Option.bind_some, K1.1 68 c (by unfold PO; omega), e1]
    unfold outf
    rw [if_neg hL]
def PE (a i : Nat) : Prop := a = 68 ∨ (a = 70 ∧ 24 ≤ i ∧ i < 32) ∨ (a = 66 ∧ i = 40)
theorem drink_m {W : Wd} (hW : okW W) {s : St} (hs : okS W.1 s) {M : Mem} (hC : MW W M) (hV : VM W.1 M s) (h40 : M.1 66 40 = 0) : ∃ M1, fMd_passes_L12 FU M 0 = some M1 ∧ Kp PE M M1 ∧ VM W.1 M1 (mid W s) ∧ M1.1 66 40 = drk W s := by
  have p8 := hW.1
  obtain ⟨r, e, K, l1, l2, l3⟩ := loop0 (σ := Mem × Int32) (fun n t => fMd_passes_L12 n t.1 t.2) (fun i t => t.2 = nI i ∧ Kp PE M t.1 ∧ (∀ j, j < 36 → t.1.1 68 j = (dr W s.2.2.1 s.1 s.2.2.2.1 i).1 j) ∧ (∀ q, q < W.1 → t.1.1 70 (24 + q) = (dr W s.2.2.1 s.1 s.2.2.2.1 i).2.1 q) ∧ t.1.1 66 40 = (dr W s.2.2.1 s.1 s.2.2.2.1 i).2.2) (fun r => Kp PE M r ∧ (∀ j, j < 36 → r.1 68 j = (dr W s.2.2.1 s.1 s.2.2.2.1 W.1).1 j) ∧ (∀ q, q < W.1 → r.1 70 (24 + q) = (dr W s.2.2.1 s.1 s.2.2.2.1 W.1).2.1 q) ∧ r.1 66 40 = (dr W s.2.2.1 s.1 s.2.2.2.1 W.1).2.2) W.1 (fu_lt (by omega)) (M, 0)
    ⟨rfl, Kp.rf _ _, hV.1, hV.2.2.2.1, h40⟩
    (fun n i t hi hP => by
      obtain ⟨t1, t2⟩ := t
      obtain ⟨q1, K, l1, l2, l3⟩ := hP
      dsimp only at q1 K l1 l2 l3
      subst q1
      right
      have hp : t1.1 66 3 = nI W.1 := by rw [K.1 66 3 (by unfold PE; omega)]; exact hC.1
      have h0 : ¬ nI W.1 ≤ nI i := nI_ge hi (by omega)
      have hsk : t1.1 70 (16 + i) = W.2.2.2.1 i := by rw [K.1 70 (16 + i) (by unfold PE; omega)]; exact hC.2.2.2.1 i hi
      have hth : t1.1 70 (8 + i) = W.2.2.1 i := by rw [K.1 70 (8 + i) (by unfold PE; omega)]; exact hC.2.2.1 i hi
      have hce : t1.1 70 i = s.2.2.1 i := by rw [K.1 70 i (by unfold PE; omega)]; exact hV.2.2.1 i hi
      have i16 : (16 : Int32) + nI i = nI (16 + i) := nI_add 16 i
      have i8 : (8 : Int32) + nI i = nI (8 + i) := nI_add 8 i
      have i24 : (24 : Int32) + nI i = nI (24 + i) := nI_add 24 i
      obtain ⟨c, hc, ec⟩ := hs.2.2.1 i hi
      have F0 : fMd_passes_L12 (n + 1) t1 (nI i) = fMd_passes_L12_F (fMd_passes_L12 n) t1 (nI i) := rfl
      by_cases z : W.2.2.2.1 i = 1
      · refine ⟨(t1, nI (i + 1)), ⟨rfl, K, ?_, ?_, ?_⟩, ?_⟩
        · rw [dr, if_pos z]; exact l1
        · rw [dr, if_pos z]; exact l2
        · rw [dr, if_pos z]; exact l3
        · dsimp only
          rw [F0]
          simp only [fMd_passes_L12_F, hp, h0, if_false, i16, rdI_n (show 16 + i < 32 by omega) (by omega : 32 ≤ 1000), Option.bind_some, hsk, z, not_true_eq_false, nI_1]
      · generalize et : mnI (W.2.2.1 i) (mnI ((dr W s.2.2.1 s.1 s.2.2.2.1 i).1 c) (9999 - (dr W s.2.2.1 s.1 s.2.2.2.1 i).2.1 i)) = t
        have hdr : dr W s.2.2.1 s.1 s.2.2.2.1 (i + 1) = (upd (dr W s.2.2.1 s.1 s.2.2.2.1 i).1 c ((dr W s.2.2.1 s.1 s.2.2.2.1 i).1 c - t), upd (dr W s.2.2.1 s.1 s.2.2.2.1 i).2.1 i ((dr W s.2.2.1 s.1 s.2.2.2.1 i).2.1 i + t), (dr W s.2.2.1 s.1 s.2.2.2.1 i).2.2 + t) := by
          rw [dr, if_neg z, ec, ix_n (by omega), et]
        refine ⟨(wI (wI (wI t1 68 c (t1.1 68 c - t)) 70 (24 + i) (t1.1 70 (24 + i) + t)) 66 40 (t1.1 66 40 + t), nI (i + 1)), ⟨rfl, ((K.tr (Kp.w _ _ (by unfold PE; omega))).tr (Kp.w _ _ (by unfold PE; omega))).tr (Kp.w _ _ (by unfold PE; omega)), fun j hj => ?_, fun q hq => ?_, ?_⟩, ?_⟩
        · dsimp only
          rw [hdr]
          show upd (t1.1 68) c (t1.1 68 c - t) j = upd _ c _ j
          rw [upd_a, upd_a, l1 c hc, l1 j hj]
        · dsimp only
          rw [hdr]
          show upd (t1.1 70) (24 + i) (t1.1 70 (24 + i) + t) (24 + q) = upd _ i _ q
          rw [upd_a, upd_a, l2 i hi, l2 q hq]
          have : (24 + q = 24 + i) ↔ q = i := by omega
          simp only [this]
        · dsimp only
          rw [hdr]
          show t1.1 66 40 + t = _
          rw [l3]
        · dsimp only
          rw [F0]
          simp only [fMd_passes_L12_F, hp, h0, if_false, i16, i8, i24, rdI_n (show 16 + i < 32 by omega) (by omega : 32 ≤ 1000), rdI_n (show 8 + i < 32 by omega) (by omega : 32 ≤ 1000), rdI_n (show 24 + i < 32 by omega) (by omega : 32 ≤ 1000), rdI_n (show i < 32 by omega) (by omega : 32 ≤ 1000), Option.bind_some, hsk, z, not_false_eq_true, if_true, hce, ec, hth, rdI_n hc (by omega : 36 ≤ 1000), l1 c hc, l2 i hi, et, stI_n hc (by omega : 36 ≤ 1000), stI_n (show 24 + i < 32 by omega) (by omega : 32 ≤ 1000), nI_1]
          have r1 : (wI t1 68 c ((dr W s.2.2.1 s.1 s.2.2.2.1 i).1 c - t)).1 70 (24 + i) = (dr W s.2.2.1 s.1 s.2.2.2.1 i).2.1 i := l2 i hi
          rw [r1]
          rfl)
    (fun n t hP => by
      obtain ⟨t1, t2⟩ := t
      obtain ⟨q1, K, l1, l2, l3⟩ := hP
      dsimp only at q1 K l1 l2 l3
      subst q1
      have hp : t1.1 66 3 = nI W.1 := by rw [K.1 66 3 (by unfold PE; omega)]; exact hC.1
      refine ⟨t1, ?_, K, l1, l2, l3⟩
      show fMd_passes_L12_F (fMd_passes_L12 n) t1 (nI W.1) = _
      simp only [fMd_passes_L12_F, hp, Int32.le_refl, if_true])
  refine ⟨r, e, K, ⟨l1, fun j hj => ?_, fun q hq => ?_, l2, ?_⟩, l3⟩
  · rw [K.1 _ _ (by unfold PE; omega)]; exact hV.2.1 j hj
  · rw [K.1 _ _ (by unfold PE; omega)]; exact hV.2.2.1 q hq
  · rw [K.1 _ _ (by unfold PE; omega)]; exact hV.2.2.2.2
def PF (a _i : Nat) : Prop := a = 80 ∨ a = 81 ∨ a = 91
theorem outs_m {W : Wd} (hW : okW W) {s : St} {M : Mem} (hC : MW W M) (hV : VM W.1 M (mid W s)) : ∃ M1, fMd_passes_L119 FU M 0 = some M1 ∧ Kp PF M M1 ∧ ∀ c, c < 36 → M1.1 91 c = out W s c := by
  obtain ⟨r, e, K, l1⟩ := loop0 (σ := Mem × Int32) (fun n t => fMd_passes_L119 n t.1 t.2) (fun i t => t.2 = nI i ∧ Kp PF M t.1 ∧ ∀ c, c < i → t.1.1 91 c = out W s c) (fun r => Kp PF M r ∧ ∀ c, c < 36 → r.1 91 c = out W s c) 36 (fu_lt (by omega)) (M, 0)
    ⟨rfl, Kp.rf _ _, fun c hc => absurd hc (Nat.not_lt_zero c)⟩
    (fun n i t hi hP => by
      obtain ⟨t1, t2⟩ := t
      obtain ⟨q1, K, l1⟩ := hP
      dsimp only at q1 K l1
      subst q1
      right
      have hC1 : MW W t1 := hC.kp K (fun a i h => by unfold PF at h; omega) hW.1
      have hV1 : VM W.1 t1 (mid W s) := hV.kp hW.1 K (fun a i h => by unfold PF at h; omega)
      have h36 := nI_lt36 hi
      have F0 : fMd_passes_L119 (n + 1) t1 (nI i) = fMd_passes_L119_F (fMd_passes_L119 n) t1 (nI i) := rfl
      have fin : ∀ (t' : Mem), Kp PF M t' → t'.1 91 = t1.1 91 → ∀ c, c < i + 1 → (wI t' 91 i (out W s i)).1 91 c = out W s c := fun t' _ e91 c hc => by
        rw [wI_1, if_pos rfl, upd_a]
        by_cases z : c = i
        · rw [if_pos z, z]
        · rw [if_neg z, e91]; exact l1 c (by omega)
      by_cases sk : low4 W.2.1 i = i
      · refine ⟨(wI t1 91 i (out W s i), nI (i + 1)), ⟨rfl, K.tr (Kp.w _ _ (by unfold PF; omega)), fin t1 K rfl⟩, ?_⟩
        dsimp only
        have n1 : ¬ (0 : Int32) ≤ -1 := by decide
        rw [F0]
        simp only [fMd_passes_L119_F, h36, if_false, below_m t1 W.2.1 hC1.2.1 i hi, Option.bind_some, blw, sk, if_true, n1, stI_n hi (by omega : 36 ≤ 1000), nI_1, out_sink (W := W) (s := s) sk]
      · obtain ⟨t2, g1, g2⟩ := runsOut_m hW hC1 hV1 hi sk
        have K2 : Kp PF M t2 := K.tr (g2.mono (fun a i h => by unfold PO at h; unfold PF; omega))
        have hlow := low4_lt (h := W.2.1) hi
        have n1 : (0 : Int32) ≤ nI (low4 W.2.1 i) := nI_pos' (by omega)
        refine ⟨(wI t2 91 i (out W s i), nI (i + 1)), ⟨rfl, K2.tr (Kp.w _ _ (by unfold PF; omega)), fin t2 K2 (g2.f (fun i h => by unfold PO at h; omega))⟩, ?_⟩
        dsimp only
        rw [F0]
        simp only [fMd_passes_L119_F, h36, if_false, below_m t1 W.2.1 hC1.2.1 i hi, Option.bind_some, blw, sk, n1, if_true, g1, stI_n hi (by omega : 36 ≤ 1000), nI_1]
        rfl)
    (fun n t hP => by
      obtain ⟨t1, t2⟩ := t
      obtain ⟨q1, K, l1⟩ := hP
      dsimp only at q1 K l1
      subst q1
      refine ⟨t1, ?_, K, l1⟩
      show fMd_passes_L119_F (fMd_passes_L119 n) t1 (nI 36) = _
      simp only [fMd_passes_L119_F, nI_ge36, if_true])
  exact ⟨r, e, K, l1⟩
