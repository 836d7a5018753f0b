def PR (a i : Nat) : Prop := a = 68 ∨ (a = 66 ∧ i = 41)
theorem run_m {W : Wd} {s : St} {M : Mem} (hW : okW W) (hC : MW W M) (h1 : ∀ c, c < 36 → M.1 68 c = (mid W s).1 c) (h91 : ∀ c, c < 36 → M.1 91 c = out W s c) (h41 : M.1 66 41 = 0) : ∃ M1, fMd_passes_L156 FU M 0 = some M1 ∧ Kp PR M M1 ∧ (∀ c, c < 36 → M1.1 68 c = (mid W s).1 c + cm (out W s) (bl W) 36 c) ∧ M1.1 66 41 = rnn W s := by
  obtain ⟨r, e, K, l1, l2⟩ := loop0 (σ := Mem × Int32) (fun n t => fMd_passes_L156 n t.1 t.2) (fun i t => t.2 = nI i ∧ Kp PR M t.1 ∧ (∀ c, c < 36 → t.1.1 68 c = (mid W s).1 c + cm (out W s) (bl W) i c) ∧ t.1.1 66 41 = rn (out W s) i) (fun r => Kp PR M r ∧ (∀ c, c < 36 → r.1 68 c = (mid W s).1 c + cm (out W s) (bl W) 36 c) ∧ r.1 66 41 = rn (out W s) 36) 36 (fu_lt (by omega)) (M, 0)
    ⟨rfl, Kp.rf _ _, fun c hc => by show M.1 68 c = (mid W s).1 c + 0; rw [Int32.add_zero]; exact h1 c hc, h41⟩
    (fun n i t hi hP => by
      obtain ⟨t1, t2⟩ := t
      obtain ⟨q1, K, l1, l2⟩ := hP
      dsimp only at q1 K l1 l2
      subst q1
      right
      have h36 := nI_lt36 hi
      have o1 : t1.1 91 i = out W s i := by rw [K.1 91 i (by unfold PR; omega)]; exact h91 i hi
      have F0 : fMd_passes_L156 (n + 1) t1 (nI i) = fMd_passes_L156_F (fMd_passes_L156 n) t1 (nI i) := rfl
      by_cases z : out W s i = 0
      · refine ⟨(t1, nI (i + 1)), ⟨rfl, K, ?_, ?_⟩, ?_⟩
        · rw [cm_z z]; exact l1
        · rw [rn, z, Int32.add_zero]; exact l2
        · dsimp only
          rw [F0]
          simp only [fMd_passes_L156_F, h36, if_false, rdI_n hi (by omega : 36 ≤ 1000), Option.bind_some, o1, z, not_true_eq_false, nI_1]
      · have sk : ¬ bl W i = i := fun y => z (out_sink y)
        have sk' : ¬ low4 W.2.1 i = i := sk
        have hlow := low4_lt (h := W.2.1) hi
        have h67 : ∀ j, j < 36 → t1.1 67 j = W.2.1 j := fun j hj => by rw [K.1 67 j (by unfold PR; omega)]; exact hC.2.1 j hj
        have hb : fMd_below (wI t1 68 i (t1.1 68 i - out W s i)) (nI i) = some (nI (low4 W.2.1 i)) := by
          rw [below_m (wI t1 68 i (t1.1 68 i - out W s i)) W.2.1 h67 i hi, blw, if_neg sk']
        refine ⟨(wI (wI (wI t1 68 i (t1.1 68 i - out W s i)) 68 (low4 W.2.1 i) ((wI t1 68 i (t1.1 68 i - out W s i)).1 68 (low4 W.2.1 i) + out W s i)) 66 41 (t1.1 66 41 + out W s i), nI (i + 1)), ⟨rfl, ((K.tr (Kp.w _ _ (by unfold PR; omega))).tr (Kp.w _ _ (by unfold PR; omega))).tr (Kp.w _ _ (by unfold PR; omega)), fun c hc => ?_, ?_⟩, ?_⟩
        · dsimp only
          rw [cm_s sk]
          show upd (upd (t1.1 68) i (t1.1 68 i - out W s i)) (low4 W.2.1 i) (upd (t1.1 68) i (t1.1 68 i - out W s i) (low4 W.2.1 i) + out W s i) c = _
          simp only [upd_a]
          by_cases q : c = low4 W.2.1 i
          · have q' : c = bl W i := q
            rw [if_pos q, if_pos q', if_neg sk', ← q, l1 c hc, Int32.add_assoc]
          · have q' : ¬ c = bl W i := q
            rw [if_neg q, if_neg q']
            by_cases r : c = i
            · rw [if_pos r, if_pos r, r, l1 i hi, Int32.sub_eq_add_neg, Int32.sub_eq_add_neg, Int32.add_assoc]
            · rw [if_neg r, if_neg r, l1 c hc]
        · dsimp only
          show t1.1 66 41 + out W s i = _
          rw [rn, l2]
        · dsimp only
          rw [F0]
          simp only [fMd_passes_L156_F, h36, if_false, rdI_n hi (by omega : 36 ≤ 1000), Option.bind_some, o1, z, not_false_eq_true, if_true, stI_n hi (by omega : 36 ≤ 1000), hb, rdI_n hlow (by omega : 36 ≤ 1000), stI_n hlow (by omega : 36 ≤ 1000), nI_1]
          have r1 : (wI t1 68 i (t1.1 68 i - out W s i)).1 91 i = out W s i := o1
          have r2 : ∀ x, (wI (wI t1 68 i (t1.1 68 i - out W s i)) 68 (low4 W.2.1 i) x).1 91 i = out W s i := fun _ => o1
          rw [r1, r2]
          rfl)
    (fun n t hP => by
      obtain ⟨t1, t2⟩ := t
      obtain ⟨q1, K, l1, l2⟩ := hP
      dsimp only at q1 K l1 l2
      subst q1
      refine ⟨t1, ?_, K, l1, l2⟩
      show fMd_passes_L156_F (fMd_passes_L156 n) t1 (nI 36) = _
      simp only [fMd_passes_L156_F, nI_ge36, if_true])
  exact ⟨r, e, K, l1, l2⟩
theorem cap_m {W : Wd} {s : St} {M : Mem} (h1 : ∀ c, c < 36 → M.1 68 c = (mid W s).1 c + cm (out W s) (bl W) 36 c) : ∃ M1, fMd_passes_L231 FU M 0 = some M1 ∧ Kp (fun a _ => a = 68) M M1 ∧ ∀ c, c < 36 → M1.1 68 c = lk W s c := by
  obtain ⟨r, e, K, l1⟩ := loop0 (σ := Mem × Int32) (fun n t => fMd_passes_L231 n t.1 t.2) (fun i t => t.2 = nI i ∧ Kp (fun a _ => a = 68) M t.1 ∧ ∀ c, c < 36 → t.1.1 68 c = if c < i then lk W s c else (mid W s).1 c + cm (out W s) (bl W) 36 c) (fun r => Kp (fun a _ => a = 68) M r ∧ ∀ c, c < 36 → r.1 68 c = lk W s c) 36 (fu_lt (by omega)) (M, 0)
    ⟨rfl, Kp.rf _ _, fun c hc => by rw [if_neg (Nat.not_lt_zero c)]; exact h1 c hc⟩
    (fun n i t hi hP => by
      obtain ⟨t1, t2⟩ := t
      obtain ⟨q1, K, l1⟩ := hP
      dsimp only at q1 K l1
      subst q1
      right
      have h36 := nI_lt36 hi
      have e1 : t1.1 68 i = (mid W s).1 i + cm (out W s) (bl W) 36 i := by rw [l1 i hi, if_neg (Nat.lt_irrefl i)]
      have F0 : fMd_passes_L231 (n + 1) t1 (nI i) = fMd_passes_L231_F (fMd_passes_L231 n) t1 (nI i) := rfl
      have elk : mnI 9999 ((mid W s).1 i + cm (out W s) (bl W) 36 i) = lk W s i := mnI_c _ _
      refine ⟨(wI t1 68 i (lk W s i), nI (i + 1)), ⟨rfl, K.tr (Kp.w _ _ rfl), fun c hc => ?_⟩, ?_⟩
      · dsimp only
        rw [wI_1, if_pos rfl, upd_a, l1 c hc]
        by_cases y : c = i
        · rw [if_pos y, if_pos (by omega), y]
        · have : (c < i + 1) ↔ (c < i) := by omega
          rw [if_neg y]
          simp only [this]
      · dsimp only
        rw [F0]
        simp only [fMd_passes_L231_F, h36, if_false, rdI_n hi (by omega : 36 ≤ 1000), Option.bind_some, e1, elk, stI_n hi (by omega : 36 ≤ 1000), nI_1])
    (fun n t hP => by
      obtain ⟨t1, t2⟩ := t
      obtain ⟨q1, K, l1⟩ := hP
      dsimp only at q1 K l1
      subst q1
      refine ⟨t1, ?_, K, fun c hc => by rw [l1 c hc, if_pos hc]⟩
      show fMd_passes_L231_F (fMd_passes_L231 n) t1 (nI 36) = _
      simp only [fMd_passes_L231_F, nI_ge36, if_true])
  exact ⟨r, e, K, l1⟩
def PMd (a i : Nat) : Prop := a = 68 ∨ (a = 70 ∧ 24 ≤ i ∧ i < 32) ∨ (a = 66 ∧ (i = 5 ∨ i = 40 ∨ i = 41)) ∨ a = 80 ∨ a = 81 ∨ a = 91
theorem hour_m (h : Int32) (hh : rng h 23) : rmI (h + 1) 24 = hr1 h := by
  obtain ⟨a, ha, rfl⟩ := (rngN (m := 23) 23 (by omega) rfl).mp hh
  unfold rmI hr1
  rw [nI_1]
  have e24 : (24 : Int32) = nI 24 := rfl
  rw [e24, pk_rem (by omega) (by omega) (by omega)]
  by_cases q : 24 ≤ a + 1
  · rw [if_pos ((nI_leI (by omega) (by omega)).mpr q)]
    have : (a + 1) % 24 = 0 := by omega
    rw [this]; rfl
  · rw [if_neg (fun z => q ((nI_leI (by omega) (by omega)).mp z)), Nat.mod_eq_of_lt (by omega)]
theorem pass_m {W : Wd} (hW : okW W) {s : St} (hs : okS W.1 s) {M : Mem} (hC : MW W M) (hV : VM W.1 M s) : ∃ M1, fMd_passes M = some M1 ∧ Kp PMd M M1 ∧ VM W.1 M1 (stp W s) ∧ M1.1 66 40 = drk W s ∧ M1.1 66 41 = rnn W s := by
  have K0 : Kp (fun a i => a = 66 ∧ (i = 40 ∨ i = 41)) M (wI (wI M 66 40 0) 66 41 0) := (Kp.w M 0 (by omega)).tr (Kp.w _ 0 (by omega))
  have C0 := hC.kp K0 (fun a i h => by omega) hW.1
  have V0 := hV.kp hW.1 K0 (fun a i h => by omega)
  obtain ⟨M1, d1, d2, d3, d4⟩ := drink_m hW hs C0 V0 rfl
  have C1 := C0.kp d2 (fun a i h => by unfold PE at h; omega) hW.1
  obtain ⟨M2, o1, o2, o3⟩ := outs_m hW C1 d3
  have C2 := C1.kp o2 (fun a i h => by unfold PF at h; omega) hW.1
  have V2 := d3.kp hW.1 o2 (fun a i h => by unfold PF at h; omega)
  obtain ⟨M3, r1, r2, r3, r4⟩ := run_m hW C2 V2.1 o3 (by rw [o2.1 66 41 (by unfold PF; omega), d2.1 66 41 (by unfold PE; omega)]; rfl)
  obtain ⟨M4, c1, c2, c3⟩ := cap_m r3
  have hh : M4.1 66 5 = s.2.2.2.2 := by
    rw [c2.1 66 5 (by omega), r2.1 66 5 (by unfold PR; omega)]
    exact V2.2.2.2.2
  have K4 : Kp PMd M M4 := ((((K0.mono (fun a i h => by unfold PMd; omega)).tr (d2.mono (fun a i h => by unfold PE at h; unfold PMd; omega))).tr (o2.mono (fun a i h => by unfold PF at h; unfold PMd; omega))).tr (r2.mono (fun a i h => by unfold PR at h; unfold PMd; omega))).tr (c2.mono (fun a i h => by unfold PMd; omega))
  refine ⟨wI M4 66 5 (hr1 s.2.2.2.2), ?_, K4.tr (Kp.w _ _ (by unfold PMd; omega)), ⟨c3, fun c hc => ?_, fun q hq => ?_, fun q hq => ?_, rfl⟩, ?_, ?_⟩
  · rw [fMd_passes, d1, Option.bind_some, o1, Option.bind_some, r1, Option.bind_some, c1, Option.bind_some, hh, hour_m _ hs.2.2.2.2]
  · show M4.1 69 c = _
    rw [c2.1 69 c (by omega), r2.1 69 c (by unfold PR; omega)]; exact V2.2.1 c hc
  · show M4.1 70 q = _
    rw [c2.1 70 q (by omega), r2.1 70 q (by unfold PR; omega)]; exact V2.2.2.1 q hq
  · show M4.1 70 (24 + q) = _
    rw [c2.1 70 _ (by omega), r2.1 70 _ (by unfold PR; omega)]; exact V2.2.2.2.1 q hq
  · show M4.1 66 40 = _
    rw [c2.1 66 40 (by omega), r2.1 66 40 (by unfold PR; omega), o2.1 66 40 (by unfold PF; omega)]; exact d4
  · show M4.1 66 41 = _
    rw [c2.1 66 41 (by omega)]; exact r4
/-! one street becomes as another; what is kept is laid back -/
theorem cp_n {n0 n1 a b k : Nat} {M : Mem} (h0 : k ≤ n0) (h1 : k ≤ n1) (hk : k < 2 ^ 31) : cpI n0 n1 a b M 0 0 (nI k) = some (upA M b (va_cpy (M.1 a) (M.1 b) 0 0 k)) := by
  unfold cpI
  have z0 : ix 0 = 0 := rfl
  rw [if_neg, z0, ix_n hk]
  rw [z0, ix_n hk]
  rintro (z | z | z | z | z)
  · exact absurd z (by decide)
  · exact absurd z (by decide)
  · exact nI_pos hk z
  · omega
  · omega
theorem cpy0 (f g : Nat → Int32) (k j : Nat) : va_cpy f g 0 0 k j = if j < k then f j else g j := by
  unfold va_cpy
  by_cases q : j < k
  · rw [if_pos (by omega), if_pos q]; congr 1; omega
  · rw [if_neg (by omega), if_neg q]
def PB (b a i : Nat) : Prop := (b < a ∧ a ≤ b + 4) ∨ (a = b ∧ i = 4)
theorem become_c {p b0 b1 : Nat} {M : Mem} {s : St} (hp : p ≤ 8) (hb : b0 + 5 < b1 ∨ b1 + 5 < b0) (hV : VS p b1 M s) : ∃ M1, fStreet_become M b0 b1 (nI p) = some M1 ∧ Kp (PB b0) M M1 ∧ VS p b0 M1 s ∧ (∀ q, p ≤ q → M1.1 (b0 + 3) q = M.1 (b0 + 3) q ∧ M1.1 (b0 + 4) q = M.1 (b0 + 4) q) := by
  obtain ⟨h1, h2, h3, h4, h5⟩ := hV
  have c36 : ∀ (a b : Nat) (M : Mem), cpI 36 36 a b M 0 0 36 = some (upA M b (va_cpy (M.1 a) (M.1 b) 0 0 36)) := fun a b M => cp_n (k := 36) (by omega) (by omega) (by omega)
  refine ⟨wI (upA (upA (upA (upA M (b0 + 1) (va_cpy (M.1 (b1 + 1)) (M.1 (b0 + 1)) 0 0 36)) (b0 + 2) (va_cpy (M.1 (b1 + 2)) (M.1 (b0 + 2)) 0 0 36)) (b0 + 3) (va_cpy (M.1 (b1 + 3)) (M.1 (b0 + 3)) 0 0 p)) (b0 + 4) (va_cpy (M.1 (b1 + 4)) (M.1 (b0 + 4)) 0 0 p)) b0 4 (M.1 b1 4), ?_, ?_, ⟨fun i hi => ?_, fun i hi => ?_, fun i hi => ?_, fun i hi => ?_, ?_⟩, fun q hq => ⟨?_, ?_⟩⟩
  · unfold fStreet_become
    rw [c36, Option.bind_some, c36, Option.bind_some, cp_n (by omega) (by omega) (by omega), Option.bind_some, cp_n (by omega) (by omega) (by omega), Option.bind_some]
    simp only [upA_1]
    rw [if_neg (show ¬ b1 + 2 = b0 + 1 by omega), if_neg (show ¬ b0 + 2 = b0 + 1 by omega), if_neg (show ¬ b1 + 3 = b0 + 2 by omega), if_neg (show ¬ b1 + 3 = b0 + 1 by omega), if_neg (show ¬ b0 + 3 = b0 + 2 by omega), if_neg (show ¬ b0 + 3 = b0 + 1 by omega), if_neg (show ¬ b1 + 4 = b0 + 3 by omega), if_neg (show ¬ b1 + 4 = b0 + 2 by omega), if_neg (show ¬ b1 + 4 = b0 + 1 by omega), if_neg (show ¬ b0 + 4 = b0 + 3 by omega), if_neg (show ¬ b0 + 4 = b0 + 2 by omega), if_neg (show ¬ b0 + 4 = b0 + 1 by omega), if_neg (show ¬ b1 = b0 + 4 by omega), if_neg (show ¬ b1 = b0 + 3 by omega), if_neg (show ¬ b1 = b0 + 2 by omega), if_neg (show ¬ b1 = b0 + 1 by omega)]
  · exact ((((Kp.up M _ (fun i => by unfold PB; omega)).tr (Kp.up _ _ (fun i => by unfold PB; omega))).tr (Kp.up _ _ (fun i => by unfold PB; omega))).tr (Kp.up _ _ (fun i => by unfold PB; omega))).tr (Kp.w _ _ (by unfold PB; omega))
  · rw [wI_1, if_neg (by omega)]
    simp only [upA_1]
    rw [if_neg (by omega), if_neg (by omega), if_neg (by omega), if_pos trivial, cpy0, if_pos hi]
    exact h1 i hi
  · rw [wI_1, if_neg (by omega)]
    simp only [upA_1]
    rw [if_neg (by omega), if_neg (by omega), if_pos trivial, cpy0, if_pos hi]
    exact h2 i hi
  · rw [wI_1, if_neg (by omega)]
    simp only [upA_1]
    rw [if_neg (by omega), if_pos trivial, cpy0, if_pos hi]
    exact h3 i hi
  · rw [wI_1, if_neg (by omega)]
    simp only [upA_1]
    rw [if_pos trivial, cpy0, if_pos hi]
    exact h4 i hi
  · rw [wI_1, if_pos rfl, upd_a, if_pos rfl]
    exact h5
  · rw [wI_1, if_neg (by omega)]
    simp only [upA_1]
    rw [if_neg (by omega), if_pos trivial, cpy0, if_neg (by omega)]
  · rw [wI_1, if_neg (by omega)]
    simp only [upA_1]
    rw [if_pos trivial, cpy0, if_neg (by omega)]
def Kpt (a : Nat) (M M1 : Mem) : Prop := (∀ c, c < 36 → M1.1 a c = M.1 68 c ∧ M1.1 a (36 + c) = M.1 69 c) ∧ (∀ i, i < 32 → M1.1 a (72 + i) = M.1 70 i) ∧ M1.1 a 104 = M.1 66 5
theorem keeps_m (M : Mem) (a : Nat) (ha : 70 < a) : ∃ M1, fMd_keeps M a = some M1 ∧ Kp (fun b _ => b = a) M M1 ∧ Kpt a M M1 := by
  have h36' : (36 : Int32) = nI 36 := rfl
  have h72' : (72 : Int32) = nI 72 := rfl
  obtain ⟨r, e, K, l1⟩ := loop0 (σ := Mem × Int32) (fun n t => fMd_keeps_L2 n t.1 a t.2) (fun i t => t.2 = nI i ∧ Kp (fun b _ => b = a) M t.1 ∧ ∀ c, c < i → t.1.1 a c = M.1 68 c ∧ t.1.1 a (36 + c) = M.1 69 c) (fun r => Kp (fun b _ => b = a) M r ∧ ∀ c, c < 36 → r.1 a c = M.1 68 c ∧ r.1 a (36 + c) = M.1 69 c) 36 (fu_lt (by omega)) (M, 0)
    ⟨rfl, Kp.rf _ _, fun c hc => absurd hc (Nat.not_lt_zero c)⟩
    (fun n i t hi hP => by
      obtain ⟨t1, t2⟩ := t
      obtain ⟨q1, K, l1⟩ := hP
      dsimp only at q1 K l1
      subst q1
      right
      have h36 := nI_lt36 hi
      have n68 : ¬ 68 = a := by omega
      have n69 : ¬ 69 = a := by omega
      have e68 : t1.1 68 i = M.1 68 i := K.1 _ _ n68
      have e69 : t1.1 69 i = M.1 69 i := K.1 _ _ n69
      have a36 : (36 : Int32) + nI i = nI (36 + i) := nI_add 36 i
      have F0 : fMd_keeps_L2 (n + 1) t1 a (nI i) = fMd_keeps_L2_F (fMd_keeps_L2 n) t1 a (nI i) := rfl
      refine ⟨(wI (wI t1 a i (M.1 68 i)) a (36 + i) (M.1 69 i), nI (i + 1)), ⟨rfl, (K.tr (Kp.w _ _ rfl)).tr (Kp.w _ _ rfl), fun c hc => ?_⟩, ?_⟩
      · dsimp only
        rw [wI_1, if_pos rfl, wI_1, if_pos rfl]
        simp only [upd_a]
        by_cases y : c = i
        · rw [if_neg (by omega), if_pos y, if_pos (by omega), y]
          exact ⟨rfl, rfl⟩
        · rw [if_neg (by omega), if_neg y, if_neg (by omega), if_neg (by omega)]
          exact l1 c (by omega)
      · dsimp only
        rw [F0]
        simp only [fMd_keeps_L2_F, h36, if_false, rdI_n hi (by omega : 36 ≤ 1000), Option.bind_some, stI_n (show i < 105 by omega) (by omega : 105 ≤ 1000), a36, stI_n (show 36 + i < 105 by omega) (by omega : 105 ≤ 1000), e68, nI_1]
        rw [wI_1, if_neg n69, e69])
    (fun n t hP => by
      obtain ⟨t1, t2⟩ := t
      obtain ⟨q1, K, l1⟩ := hP
      dsimp only at q1 K l1
      subst q1
      refine ⟨t1, ?_, K, l1⟩
      show fMd_keeps_L2_F (fMd_keeps_L2 n) t1 a (nI 36) = _
      simp only [fMd_keeps_L2_F, nI_ge36, if_true])
  obtain ⟨r2, e2, K2, l2, l3⟩ := loop0 (σ := Mem × Int32) (fun n t => fMd_keeps_L37 n t.1 a t.2) (fun i t => t.2 = nI i ∧ Kp (fun b j => b = a) r t.1 ∧ (∀ c, c < 72 → t.1.1 a c = r.1 a c) ∧ ∀ c, c < i → t.1.1 a (72 + c) = M.1 70 c) (fun r' => Kp (fun b _ => b = a) r r' ∧ (∀ c, c < 72 → r'.1 a c = r.1 a c) ∧ ∀ c, c < 32 → r'.1 a (72 + c) = M.1 70 c) 32 (fu_lt (by omega)) (r, 0)
    ⟨rfl, Kp.rf _ _, fun c _ => rfl, fun c hc => absurd hc (Nat.not_lt_zero c)⟩
    (fun n i t hi hP => by
      obtain ⟨t1, t2⟩ := t
      obtain ⟨q1, K3, l1', l2⟩ := hP
      dsimp only at q1 K3 l1' l2
      subst q1
      right
      have h32 : ¬ (32 : Int32) ≤ nI i := nI_geL (b := 32) 32 rfl hi (by omega)
      have n70 : ¬ 70 = a := by omega
      have e70 : t1.1 70 i = M.1 70 i := by rw [K3.1 _ _ n70, K.1 _ _ n70]
      have a72 : (72 : Int32) + nI i = nI (72 + i) := nI_add 72 i
      have F0 : fMd_keeps_L37 (n + 1) t1 a (nI i) = fMd_keeps_L37_F (fMd_keeps_L37 n) t1 a (nI i) := rfl
      refine ⟨(wI t1 a (72 + i) (M.1 70 i), nI (i + 1)), ⟨rfl, K3.tr (Kp.w _ _ rfl), fun c hc => ?_, fun c hc => ?_⟩, ?_⟩
      · dsimp only
        rw [wI_1, if_pos rfl, upd_a, if_neg (by omega)]
        exact l1' c hc
      · dsimp only
        rw [wI_1, if_pos rfl, upd_a]
        by_cases y : c = i
        · rw [if_pos (by omega), y]
        · rw [if_neg (by omega)]; exact l2 c (by omega)
      · dsimp only
        rw [F0]
        simp only [fMd_keeps_L37_F, h32, if_false, rdI_n hi (by omega : 32 ≤ 1000), Option.bind_some, a72, stI_n (show 72 + i < 105 by omega) (by omega : 105 ≤ 1000), e70, nI_1])
    (fun n t hP => by
      obtain ⟨t1, t2⟩ := t
      obtain ⟨q1, K, l1', l2⟩ := hP
      dsimp only at q1 K l1' l2
      subst q1
      refine ⟨t1, ?_, K, l1', l2⟩
      show fMd_keeps_L37_F (fMd_keeps_L37 n) t1 a (nI 32) = _
      have : (32 : Int32) ≤ nI 32 := by decide
      simp only [fMd_keeps_L37_F, this, if_true])
  have e' : fMd_keeps_L2 FU M a 0 = some r := e
  have e2' : fMd_keeps_L37 FU r a 0 = some r2 := e2
  have h5 : r2.1 66 5 = M.1 66 5 := by rw [K2.1 66 5 (by omega), K.1 66 5 (by omega)]
  have e104 : (104 : Int32) = nI 104 := rfl
  refine ⟨wI r2 a 104 (M.1 66 5), ?_, (K.tr K2).tr (Kp.w _ _ rfl), ⟨fun c hc => ?_, fun i hi => ?_, ?_⟩⟩
  · rw [fMd_keeps, e', Option.bind_some, e2', Option.bind_some, h5, e104, stI_n (by omega) (by omega), Option.bind_some]
  · rw [wI_1, if_pos rfl, upd_a, upd_a, if_neg (by omega), if_neg (by omega), l2 c (by omega), l2 (36 + c) (by omega)]
    exact l1 c hc
  · rw [wI_1, if_pos rfl, upd_a, if_neg (by omega)]
    exact l3 i hi
  · rw [wI_1, if_pos rfl, upd_a, if_pos rfl]
def PK (b i : Nat) : Prop := b = 68 ∨ b = 69 ∨ b = 70 ∨ (b = 66 ∧ i = 5)
theorem lays_m (M : Mem) (a : Nat) (ha : 70 < a) : ∃ M1, fMd_laysBack M a = some M1 ∧ Kp PK M M1 ∧ Kpt a M1 M1 := by
  obtain ⟨r, e, K, l1⟩ := loop0 (σ := Mem × Int32) (fun n t => fMd_laysBack_L2 n t.1 a t.2) (fun i t => t.2 = nI i ∧ Kp PK M t.1 ∧ ∀ c, c < i → t.1.1 68 c = M.1 a c ∧ t.1.1 69 c = M.1 a (36 + c)) (fun r => Kp PK M r ∧ ∀ c, c < 36 → r.1 68 c = M.1 a c ∧ r.1 69 c = M.1 a (36 + c)) 36 (fu_lt (by omega)) (M, 0)
    ⟨rfl, Kp.rf _ _, fun c hc => absurd hc (Nat.not_lt_zero c)⟩
    (fun n i t hi hP => by
      obtain ⟨t1, t2⟩ := t
      obtain ⟨q1, K, l1⟩ := hP
      dsimp only at q1 K l1
      subst q1
      right
      have h36 := nI_lt36 hi
      have ea : ∀ j, t1.1 a j = M.1 a j := fun j => K.1 _ _ (by unfold PK; omega)
      have na : ¬ a = 68 := by omega
      have a36 : (36 : Int32) + nI i = nI (36 + i) := nI_add 36 i
      have F0 : fMd_laysBack_L2 (n + 1) t1 a (nI i) = fMd_laysBack_L2_F (fMd_laysBack_L2 n) t1 a (nI i) := rfl
      refine ⟨(wI (wI t1 68 i (M.1 a i)) 69 i (M.1 a (36 + i)), nI (i + 1)), ⟨rfl, (K.tr (Kp.w _ _ (by unfold PK; omega))).tr (Kp.w _ _ (by unfold PK; omega)), fun c hc => ?_⟩, ?_⟩
      · dsimp only
        show upd (t1.1 68) i (M.1 a i) c = _ ∧ upd (t1.1 69) i (M.1 a (36 + i)) c = _
        simp only [upd_a]
        by_cases y : c = i
        · rw [if_pos y, if_pos y, y]
          exact ⟨rfl, rfl⟩
        · rw [if_neg y, if_neg y]
          exact l1 c (by omega)
      · dsimp only
        rw [F0]
        simp only [fMd_laysBack_L2_F, h36, if_false, rdI_n (show i < 105 by omega) (by omega : 105 ≤ 1000), Option.bind_some, stI_n hi (by omega : 36 ≤ 1000), a36, rdI_n (show 36 + i < 105 by omega) (by omega : 105 ≤ 1000), ea, nI_1]
        rw [wI_1, if_neg na, ea])
    (fun n t hP => by
      obtain ⟨t1, t2⟩ := t
      obtain ⟨q1, K, l1⟩ := hP
      dsimp only at q1 K l1
      subst q1
      refine ⟨t1, ?_, K, l1⟩
      show fMd_laysBack_L2_F (fMd_laysBack_L2 n) t1 a (nI 36) = _
      simp only [fMd_laysBack_L2_F, nI_ge36, if_true])
  obtain ⟨r2, e2, K2, l2⟩ := loop0 (σ := Mem × Int32) (fun n t => fMd_laysBack_L37 n t.1 a t.2) (fun i t => t.2 = nI i ∧ Kp (fun b _ => b = 70) r t.1 ∧ ∀ c, c < i → t.1.1 70 c = M.1 a (72 + c)) (fun r' => Kp (fun b _ => b = 70) r r' ∧ ∀ c, c < 32 → r'.1 70 c = M.1 a (72 + c)) 32 (fu_lt (by omega)) (r, 0)
    ⟨rfl, Kp.rf _ _, fun c hc => absurd hc (Nat.not_lt_zero c)⟩
    (fun n i t hi hP => by
      obtain ⟨t1, t2⟩ := t
      obtain ⟨q1, K3, l2⟩ := hP
      dsimp only at q1 K3 l2
      subst q1
      right
      have h32 : ¬ (32 : Int32) ≤ nI i := nI_geL (b := 32) 32 rfl hi (by omega)
      have ea : ∀ j, t1.1 a j = M.1 a j := fun j => by rw [K3.1 _ _ (by omega), K.1 _ _ (by unfold PK; omega)]
      have a72 : (72 : Int32) + nI i = nI (72 + i) := nI_add 72 i
      have F0 : fMd_laysBack_L37 (n + 1) t1 a (nI i) = fMd_laysBack_L37_F (fMd_laysBack_L37 n) t1 a (nI i) := rfl
      refine ⟨(wI t1 70 i (M.1 a (72 + i)), nI (i + 1)), ⟨rfl, K3.tr (Kp.w _ _ rfl), fun c hc => ?_⟩, ?_⟩
      · dsimp only
        rw [wI_1, if_pos rfl, upd_a]
        by_cases y : c = i
        · rw [if_pos y, y]
        · rw [if_neg y]; exact l2 c (by omega)
      · dsimp only
        rw [F0]
        simp only [fMd_laysBack_L37_F, h32, if_false, a72, rdI_n (show 72 + i < 105 by omega) (by omega : 105 ≤ 1000), Option.bind_some, stI_n hi (by omega : 32 ≤ 1000), ea, nI_1])
    (fun n t hP => by
      obtain ⟨t1, t2⟩ := t
      obtain ⟨q1, K, l2⟩ := hP
      dsimp only at q1 K l2
      subst q1
      refine ⟨t1, ?_, K, l2⟩
      show fMd_laysBack_L37_F (fMd_laysBack_L37 n) t1 a (nI 32) = _
      have : (32 : Int32) ≤ nI 32 := by decide
      simp only [fMd_laysBack_L37_F, this, if_true])
  have e' : fMd_laysBack_L2 FU M a 0 = some r := e
  have e2' : fMd_laysBack_L37 FU r a 0 = some r2 := e2
  have e104 : (104 : Int32) = nI 104 := rfl
  have ea2 : ∀ j, r2.1 a j = M.1 a j := fun j => by rw [K2.1 _ _ (by omega), K.1 _ _ (by unfold PK; omega)]
  refine ⟨wI r2 66 5 (M.1 a 104), ?_, (K.tr (K2.mono (fun b i h => by unfold PK; omega))).tr (Kp.w _ _ (by unfold PK; omega)), ⟨fun c hc => ?_, fun i hi => ?_, ?_⟩⟩
  · rw [fMd_laysBack, e', Option.bind_some, e2', Option.bind_some, e104, rdI_n (by omega) (by omega), Option.bind_some, ea2]
  · have n66 : ¬ a = 66 := by omega
    rw [wI_1, if_neg n66, ea2, ea2]
    show _ = r2.1 68 c ∧ _ = r2.1 69 c
    rw [K2.1 68 c (by omega), K2.1 69 c (by omega)]
    exact ⟨(l1 c hc).1.symm, (l1 c hc).2.symm⟩
  · have n66 : ¬ a = 66 := by omega
    rw [wI_1, if_neg n66, ea2]
    exact (l2 i hi).symm
  · have n66 : ¬ a = 66 := by omega
    rw [wI_1, if_neg n66, ea2]
    rfl
