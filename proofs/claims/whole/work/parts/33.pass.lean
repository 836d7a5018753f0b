/-! what comes, what stands then -/
def bl (W : Wd) (k : Nat) : Nat := low4 W.2.1 k
def cm (o : Nat → Int32) (B : Nat → Nat) : Nat → Nat → Int32
  | 0 => fun _ => 0
  | k + 1 => upd (upd (cm o B k) k (cm o B k k - o k)) (B k) (upd (cm o B k) k (cm o B k k - o k) (B k) + o k)
def rn (o : Nat → Int32) : Nat → Int32
  | 0 => 0
  | k + 1 => rn o k + o k
theorem cm_z {o : Nat → Int32} {B : Nat → Nat} {k : Nat} (h : o k = 0) : cm o B (k + 1) = cm o B k := by
  funext c
  rw [cm, h]
  simp only [upd_a, Int32.sub_zero, Int32.add_zero]
  by_cases q : c = B k
  · rw [if_pos q]
    by_cases r : B k = k
    · rw [if_pos r, q, r]
    · rw [if_neg r, q]
  · rw [if_neg q]
    by_cases r : c = k
    · rw [if_pos r, r]
    · rw [if_neg r]
theorem cm_s {o : Nat → Int32} {B : Nat → Nat} {k c : Nat} (hB : ¬ B k = k) : cm o B (k + 1) c = if c = B k then cm o B k c + o k else if c = k then cm o B k c - o k else cm o B k c := by
  rw [cm]
  simp only [upd_a, if_neg hB]
  by_cases q : c = B k
  · rw [if_pos q, if_pos q, q]
  · rw [if_neg q, if_neg q]
    by_cases r : c = k
    · rw [if_pos r, if_pos r, r]
    · rw [if_neg r, if_neg r]
def out (W : Wd) (s : St) : Nat → Int32 := ofn W (mid W s)
def lk (W : Wd) (s : St) (c : Nat) : Int32 := mnI ((mid W s).1 c + cm (out W s) (bl W) 36 c) 9999
def hr1 (h : Int32) : Int32 := if 24 ≤ h + 1 then 0 else h + 1
/-- what stands behind an hour -/
def stp (W : Wd) (s : St) : St := (lk W s, s.2.1, s.2.2.1, (mid W s).2.2.2.1, hr1 s.2.2.2.2)
def rnn (W : Wd) (s : St) : Int32 := rn (out W s) 36
theorem out_ok {W : Wd} (hW : okW W) {s : St} (hs : okS W.1 s) {c : Nat} (hc : c < 36) : ∃ a m : Nat, a ≤ 9999 ∧ m ≤ a ∧ (mid W s).1 c = nI a ∧ out W s c = nI m := by
  have hm := mid_ok hW hs
  obtain ⟨a, ha, ea⟩ := r9999.mp (hm.1 c hc)
  obtain ⟨m, h1, h2⟩ := ofn_ok hm hc ea ha
  exact ⟨a, m, ha, h1, ea, h2⟩
theorem out_sink {W : Wd} {s : St} {c : Nat} (h : bl W c = c) : out W s c = 0 := by
  unfold out ofn
  have h' : low4 W.2.1 c = c := h
  rw [if_pos h']
theorem out_dry {W : Wd} {s : St} {c : Nat} (h : (mid W s).1 c = 0) : out W s c = 0 := by
  unfold out ofn outf
  by_cases q : low4 W.2.1 c = c
  · rw [if_pos q]
  · rw [if_neg q, h]
    obtain ⟨m, h1, h2⟩ := mx_mn 0 (by omega) (if W.2.2.2.2 = [] then (if (mid W s).2.1 c = 1 then (0 : Int32) - 20 else if (mid W s).2.1 c = 2 then 0 else 0 / 2) else lawV (nms 0 ((mid W s).2.1 c) (W.2.1 c - W.2.1 (low4 W.2.1 c)) (sit (mid W s).2.2.1 (nI c) W.1) (mid W s).2.2.2.2 (nI c)) W.2.2.2.2)
    have : m = 0 := by omega
    subst this
    exact h2
theorem rn_ok {W : Wd} (hW : okW W) {s : St} (hs : okS W.1 s) : ∀ k, k ≤ 36 → ∃ r : Nat, r ≤ 9999 * k ∧ rn (out W s) k = nI r ∧ (r = 0 → ∀ c, c < k → out W s c = 0) := by
  intro k
  induction k with
  | zero => intro _; exact ⟨0, Nat.zero_le _, rfl, fun _ c hc => absurd hc (Nat.not_lt_zero c)⟩
  | succ k ih =>
    intro hk
    obtain ⟨r, h1, h2, h3⟩ := ih (by omega)
    obtain ⟨a, m, ha, hm, -, em⟩ := out_ok hW hs (c := k) (by omega)
    refine ⟨r + m, by omega, by rw [rn, h2, em, nI_add], fun h0 c hc => ?_⟩
    rcases Nat.lt_or_ge c k with z | z
    · exact h3 (by omega) c z
    · obtain rfl : c = k := by omega
      have : m = 0 := by omega
      rw [em, this]; rfl
theorem cm_all0 {o : Nat → Int32} {B : Nat → Nat} : ∀ k, (∀ c, c < k → o c = 0) → cm o B k = fun _ => 0 := by
  intro k
  induction k with
  | zero => intro _; rfl
  | succ k ih =>
    intro h
    rw [cm_z (h k (by omega)), ih (fun c hc => h c (by omega))]
theorem bl_lt {W : Wd} {c : Nat} (hc : c < 36) : bl W c < 36 := low4_lt hc
theorem cm_ok {W : Wd} (hW : okW W) {s : St} (hs : okS W.1 s) : ∀ k, k ≤ 36 → ∀ c, c < 36 → ∃ n : Nat, n ≤ 9999 * (k + 1) ∧ (mid W s).1 c + cm (out W s) (bl W) k c = nI n ∧ (k ≤ c → ∃ a : Nat, (mid W s).1 c = nI a ∧ a ≤ n) := by
  intro k
  induction k with
  | zero =>
    intro _ c hc
    obtain ⟨a, m, ha, hm, ea, em⟩ := out_ok hW hs hc
    refine ⟨a, by omega, ?_, fun _ => ⟨a, ea, Nat.le_refl _⟩⟩
    show (mid W s).1 c + 0 = _
    rw [Int32.add_zero, ea]
  | succ k ih =>
    intro hk c hc
    obtain ⟨n, h1, h2, h3⟩ := ih (by omega) c hc
    obtain ⟨a, m, ha, hm, ea, em⟩ := out_ok hW hs (c := k) (by omega)
    by_cases hB : bl W k = k
    · rw [cm_z (out_sink hB)]
      exact ⟨n, by omega, h2, fun z => h3 (by omega)⟩
    · rw [cm_s hB]
      by_cases q : c = bl W k
      · rw [if_pos q, em, ← Int32.add_assoc, h2, nI_add]
        refine ⟨n + m, by omega, rfl, fun z => ?_⟩
        obtain ⟨a', e1, e2⟩ := h3 (by omega)
        exact ⟨a', e1, by omega⟩
      · rw [if_neg q]
        by_cases r : c = k
        · rw [if_pos r, em, Int32.sub_eq_add_neg, ← Int32.add_assoc, h2, ← Int32.sub_eq_add_neg]
          obtain ⟨a', e1, e2⟩ := h3 (by omega)
          rw [r, ea] at e1
          have := (nI_eq (by omega) (by omega)).mp e1
          rw [nI_sub (by omega)]
          exact ⟨n - m, by omega, rfl, fun z => by omega⟩
        · rw [if_neg r]
          exact ⟨n, by omega, h2, fun z => h3 (by omega)⟩
theorem stp_ok {W : Wd} (hW : okW W) {s : St} (hs : okS W.1 s) : okS W.1 (stp W s) := by
  refine ⟨fun c hc => ?_, hs.2.1, hs.2.2.1, (mid_ok hW hs).2.2.2.1, ?_⟩
  · obtain ⟨n, h1, h2, -⟩ := cm_ok hW hs 36 (Nat.le_refl _) c hc
    show rng (mnI ((mid W s).1 c + cm (out W s) (bl W) 36 c) 9999) 9999
    rw [h2]
    have : (9999 : Int32) = nI 9999 := rfl
    rw [this, mnI_n (by omega) (by omega)]
    exact r9999.mpr ⟨_, Nat.min_le_right _ _, rfl⟩
  · obtain ⟨h, hh, eh⟩ := (rngN (m := 23) 23 (by omega) rfl).mp hs.2.2.2.2
    show rng (hr1 s.2.2.2.2) 23
    rw [eh, hr1, nI_1]
    by_cases q : 24 ≤ h + 1
    · rw [if_pos ((leL (b := 24) 24 rfl (by omega) (by omega)).mpr q)]; exact ⟨by decide, by decide⟩
    · rw [if_neg (fun z => q ((leL (b := 24) 24 rfl (by omega) (by omega)).mp z))]
      exact (rngN (m := 23) 23 (by omega) rfl).mpr ⟨h + 1, by omega, rfl⟩
theorem VS.kp {P : Nat → Nat → Prop} {p b : Nat} {M M1 : Mem} {s : St} (h : VS p b M s) (k : Kp P M M1) (hP : ∀ a i, P a i → ¬ (a = b + 1 ∨ a = b + 2 ∨ a = b + 3 ∨ a = b + 4 ∨ (a = b ∧ i = 4))) : VS p b M1 s := by
  obtain ⟨h1, h2, h3, h4, h5⟩ := h
  refine ⟨fun i hi => ?_, fun i hi => ?_, fun i hi => ?_, fun i hi => ?_, ?_⟩
  · rw [k.1 _ _ (fun z => hP _ _ z (by omega))]; exact h1 i hi
  · rw [k.1 _ _ (fun z => hP _ _ z (by omega))]; exact h2 i hi
  · rw [k.1 _ _ (fun z => hP _ _ z (by omega))]; exact h3 i hi
  · rw [k.1 _ _ (fun z => hP _ _ z (by omega))]; exact h4 i hi
  · rw [k.1 _ _ (fun z => hP _ _ z (by omega))]; exact h5
def PL (b a i : Nat) : Prop := a = b + 5 ∨ (a = b ∧ i = 6) ∨ PG a i
theorem run_c {W : Wd} (hW : okW W) {s : St} (hs : okS W.1 s) {M : Mem} {b : Nat} (hb : 36 ≤ b ∧ b ≤ 60) (hC : CW W M) (hV : VS W.1 b M (mid W s)) (hz : ∀ i, i < 36 → M.1 (b + 5) i = 0) : ∃ M1, fStreet_pass_L12 FU (wI M b 6 0) b 0 = some M1 ∧ Kp (PL b) M M1 ∧ (∀ c, c < 36 → M1.1 (b + 5) c = cm (out W s) (bl W) 36 c) ∧ M1.1 b 6 = rnn W s := by
  have hm := mid_ok hW hs
  obtain ⟨r, e, K, l1, l2⟩ := loop0 (σ := Mem × Int32) (fun n t => fStreet_pass_L12 n t.1 b t.2) (fun i t => t.2 = nI i ∧ Kp (PL b) M t.1 ∧ (∀ c, c < 36 → t.1.1 (b + 5) c = cm (out W s) (bl W) i c) ∧ t.1.1 b 6 = rn (out W s) i) (fun r => Kp (PL b) M r ∧ (∀ c, c < 36 → r.1 (b + 5) c = cm (out W s) (bl W) 36 c) ∧ r.1 b 6 = rn (out W s) 36) 36 (fu_lt (by omega)) (wI M b 6 0, 0)
    ⟨rfl, Kp.w M 0 (by unfold PL; omega), fun c hc => by dsimp only; rw [wI_1, if_neg (by omega)]; exact hz c hc, by dsimp only; rw [wI_1, if_pos rfl, upd_a, if_pos rfl]; rfl⟩
    (fun n i t hi hP => by
      obtain ⟨t1, t2⟩ := t
      obtain ⟨q1, K, l1, l2⟩ := hP
      dsimp only at q1 K l1 l2
      subst q1
      right
      have hC1 : CW W t1 := hC.kp K (fun a i h => by unfold PL PG at h; omega)
      have hV1 : VS W.1 b t1 (mid W s) := hV.kp K (fun a i h => by unfold PL PG at h; omega)
      obtain ⟨a, m, ha, hma, ea, em⟩ := out_ok hW hs hi
      have hlu : t1.1 (b + 1) i = nI a := (hV1.1 i hi).trans ea
      have F0 : fStreet_pass_L12 (n + 1) t1 b (nI i) = fStreet_pass_L12_F (fStreet_pass_L12 n) t1 b (nI i) := rfl
      have h36 := nI_lt36 hi
      have skip : ∀ (t' : Mem) (v : Int32), v = 0 → fStreet_pass_J46_12 (fStreet_pass_L12 n) t' b (nI i) v = fStreet_pass_L12 n t' b (nI (i + 1)) := fun t' v hv => by
        rw [fStreet_pass_J46_12, hv, if_pos (by decide), nI_1]
      have zero : out W s i = 0 → Kp (PL b) M t1 → (∃ s' : Mem × Int32, (s'.2 = nI (i + 1) ∧ Kp (PL b) M s'.1 ∧ (∀ c, c < 36 → s'.1.1 (b + 5) c = cm (out W s) (bl W) (i + 1) c) ∧ s'.1.1 b 6 = rn (out W s) (i + 1)) ∧ fStreet_pass_L12 n t1 b (nI (i + 1)) = fStreet_pass_L12 n s'.1 b s'.2) := fun h0 _ => by
        refine ⟨(t1, nI (i + 1)), ⟨rfl, K, ?_, ?_⟩, rfl⟩
        · rw [cm_z h0]; exact l1
        · rw [rn, h0, Int32.add_zero]; exact l2
      by_cases a0 : a = 0
      · have o0 : out W s i = 0 := out_dry (by rw [ea, a0]; rfl)
        obtain ⟨s', hs', es'⟩ := zero o0 K
        refine ⟨s', hs', ?_⟩
        dsimp only
        rw [F0]
        simp only [fStreet_pass_L12_F, h36, if_false, rdI_n hi (by omega : 36 ≤ 1000), Option.bind_some, hlu, a0]
        have : nI 0 ≤ 0 := by decide
        rw [if_pos this, fStreet_pass_J45_12, skip t1 0 rfl]
        exact es'
      · have l0 : ¬ nI a ≤ 0 := nI_nle (by omega) (by omega)
        by_cases sk : low4 W.2.1 i = i
        · have o0 : out W s i = 0 := out_sink sk
          obtain ⟨s', hs', es'⟩ := zero o0 K
          refine ⟨s', hs', ?_⟩
          dsimp only
          rw [F0]
          simp only [fStreet_pass_L12_F, h36, if_false, rdI_n hi (by omega : 36 ≤ 1000), Option.bind_some, hlu, l0, sink_c hC1 hi, sk, if_true]
          rw [if_pos (by decide), fStreet_pass_J45_12, skip t1 0 rfl]
          exact es'
        · obtain ⟨t2, g1, g2⟩ := out_c hW hm hC1 hV1 hi
          have K2 : Kp (PL b) M t2 := K.tr (g2.mono (fun a i h => Or.inr (Or.inr h)))
          have f5 : t2.1 (b + 5) = t1.1 (b + 5) := g2.f (fun i h => by unfold PG at h; omega)
          have f6 : t2.1 b = t1.1 b := g2.f (fun i h => by unfold PG at h; omega)
          have base : fStreet_pass_L12 (n + 1) t1 b (nI i) = fStreet_pass_J46_12 (fStreet_pass_L12 n) t2 b (nI i) (out W s i) := by
            rw [F0]
            simp only [fStreet_pass_L12_F, h36, if_false, rdI_n hi (by omega : 36 ≤ 1000), Option.bind_some, hlu, l0, sink_c hC1 hi, sk]
            rw [if_neg (by decide), g1]
            rfl
          by_cases m0 : m = 0
          · have o0 : out W s i = 0 := by rw [em, m0]; rfl
            refine ⟨(t2, nI (i + 1)), ⟨rfl, K2, ?_, ?_⟩, ?_⟩
            · dsimp only; rw [cm_z o0, f5]; exact l1
            · dsimp only; rw [rn, o0, Int32.add_zero, f6]; exact l2
            · dsimp only; rw [base, skip t2 _ o0]
          · have mp : ¬ nI m ≤ 0 := nI_nle (by omega) (by omega)
            have hlow := low4_lt (h := W.2.1) hi
            have e4 : t2.1 4 i = nI (low4 W.2.1 i) := by rw [g2.1 4 i (by unfold PG; omega), hC1.2.2.2.2.1 i hi, blw, if_neg sk]
            have nb1 : ¬ b = b + 5 := by omega
            have nb2 : ¬ b + 5 = b := by omega
            have nb3 : ¬ 4 = b + 5 := by omega
            refine ⟨(wI (wI (wI t2 (b + 5) i (t2.1 (b + 5) i - nI m)) (b + 5) (low4 W.2.1 i) ((wI t2 (b + 5) i (t2.1 (b + 5) i - nI m)).1 (b + 5) (low4 W.2.1 i) + nI m)) b 6 (t2.1 b 6 + nI m), nI (i + 1)), ⟨rfl, ((K2.tr (Kp.w _ _ (by unfold PL; omega))).tr (Kp.w _ _ (by unfold PL; omega))).tr (Kp.w _ _ (by unfold PL; omega)), fun c hc => ?_, ?_⟩, ?_⟩
            · dsimp only
              rw [wI_1, if_neg nb2, wI_1, if_pos rfl, wI_1, if_pos rfl, cm_s (B := bl W) sk, em, f5]
              simp only [upd_a]
              have nl : ¬ low4 W.2.1 i = i := sk
              by_cases q : c = low4 W.2.1 i
              · have q' : c = bl W i := q
                rw [if_pos q, if_pos q', if_neg nl, ← q, l1 c hc]
              · have q' : ¬ c = bl W i := q
                rw [if_neg q, if_neg q']
                by_cases r : c = i
                · rw [if_pos r, if_pos r, r, l1 i hi]
                · rw [if_neg r, if_neg r, l1 c hc]
            · dsimp only
              rw [wI_1, if_pos rfl, upd_a, if_pos rfl, rn, em, f6, l2]
            · dsimp only
              rw [base, em, fStreet_pass_J46_12, if_neg mp, rdI_n hi (by omega), Option.bind_some, stI_n hi (by omega), Option.bind_some, rdI_n hi (by omega), Option.bind_some]
              rw [wI_1, if_neg nb3, e4, rdI_n hlow (by omega), Option.bind_some, stI_n hlow (by omega), Option.bind_some, nI_1]
              rw [wI_1 (wI t2 (b + 5) i (t2.1 (b + 5) i - nI m)) (b + 5), if_neg nb1, wI_1 t2 (b + 5) i _ b, if_neg nb1])
    (fun n t hP => by
      obtain ⟨t1, t2⟩ := t
      obtain ⟨q1, K, l1, l2⟩ := hP
      dsimp only at q1 K l1 l2
      subst q1
      refine ⟨t1, ?_, K, l1, l2⟩
      show fStreet_pass_L12_F (fStreet_pass_L12 n) t1 b (nI 36) = _
      simp only [fStreet_pass_L12_F, nI_ge36, if_true])
  exact ⟨r, e, K, l1, l2⟩
