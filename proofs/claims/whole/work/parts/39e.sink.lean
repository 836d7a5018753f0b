/-! sink, basin: cells fall from one to the next -/
theorem lowr_le {h : Nat → Int32} {c low w : Nat} : lowr h c low w = low ∨ h (lowr h c low w) < h low := by
  unfold lowr
  split
  · split
    · right; assumption
    · left; rfl
  · left; rfl
theorem low4_fall {h : Nat → Int32} {c : Nat} : low4 h c = c ∨ h (low4 h c) < h c := by
  unfold low4
  have tr : ∀ a b d : Nat, (b = a ∨ h b < h a) → (d = b ∨ h d < h b) → (d = a ∨ h d < h a) := fun a b d h1 h2 => by
    rcases h1 with rfl | h1
    · exact h2
    · rcases h2 with rfl | h2
      · exact Or.inr h1
      · exact Or.inr (Int32.lt_trans h2 h1)
  exact tr _ _ _ (tr _ _ _ (tr _ _ _ lowr_le lowr_le) lowr_le) lowr_le
def okH (W : Wd) : Prop := ∀ i, i < 36 → rng (W.2.1 i) 9
def it (W : Wd) : Nat → Nat → Nat
  | 0, c => c
  | n + 1, c => bl W (it W n c)
theorem it_lt {W : Wd} {c : Nat} (hc : c < 36) : ∀ n, it W n c < 36 := by
  intro n
  induction n with
  | zero => exact hc
  | succ n ih => exact bl_lt ih
theorem it_s (W : Wd) (n c : Nat) : it W n (bl W c) = it W (n + 1) c := by
  induction n with
  | zero => rfl
  | succ n ih => show bl W (it W n (bl W c)) = _; rw [ih]; rfl
theorem r9 {x : Int32} : rng x 9 ↔ ∃ a : Nat, a ≤ 9 ∧ x = nI a := rngN 9 (by omega) rfl
theorem it_h {W : Wd} (hH : okH W) {c : Nat} (hc : c < 36) : ∀ n, bl W (it W n c) = it W n c ∨ ∃ a : Nat, W.2.1 (it W n c) = nI a ∧ a + n ≤ 9 := by
  intro n
  induction n with
  | zero =>
    obtain ⟨a, ha, ea⟩ := r9.mp (hH c hc)
    exact Or.inr ⟨a, ea, by omega⟩
  | succ n ih =>
    rcases ih with h | ⟨a, ea, ha⟩
    · left
      show bl W (bl W (it W n c)) = bl W (it W n c)
      rw [h, h]
    · rcases (low4_fall : low4 W.2.1 (it W n c) = it W n c ∨ _) with h | h
      · left
        have h' : bl W (it W n c) = it W n c := h
        show bl W (bl W (it W n c)) = bl W (it W n c)
        rw [h', h']
      · right
        obtain ⟨b, hb, eb⟩ := r9.mp (hH (bl W (it W n c)) (bl_lt (it_lt hc n)))
        have h' : W.2.1 (bl W (it W n c)) < W.2.1 (it W n c) := h
        rw [ea, eb, nI_ltI (by omega) (by omega)] at h'
        exact ⟨b, eb, by omega⟩
theorem it_10 {W : Wd} (hH : okH W) {c : Nat} (hc : c < 36) : bl W (it W 10 c) = it W 10 c := by
  rcases it_h hH hc 10 with h | ⟨a, -, h⟩
  · exact h
  · omega
theorem it_stay {W : Wd} {c n : Nat} (h : bl W (it W n c) = it W n c) : ∀ m, n ≤ m → it W m c = it W n c := by
  intro m hm
  induction m with
  | zero => have : n = 0 := by omega
            rw [this]
  | succ m ih =>
    rcases Nat.lt_or_ge m n with q | q
    · have : n = m + 1 := by omega
      rw [this]
    · show bl W (it W m c) = _
      rw [ih q, h]
/-- the number of steps to a SINK -/
theorem steps_ex {W : Wd} (hH : okH W) {c : Nat} (hc : c < 36) : ∃ n, n ≤ 10 ∧ bl W (it W n c) = it W n c ∧ ∀ m, m < n → ¬ bl W (it W m c) = it W m c := by
  obtain ⟨n, h1, h2, h3⟩ := least (P := fun n => bl W (it W n c) = it W n c) 11 ⟨10, by omega, it_10 hH hc⟩
  exact ⟨n, by omega, h2, h3⟩
theorem bel_c {W : Wd} {M : Mem} (hC : CW W M) {c : Nat} (hc : c < 36) (h : ¬ bl W c = c) : M.1 4 c = nI (bl W c) := by
  have h' : ¬ low4 W.2.1 c = c := h
  rw [hC.2.2.2.2.1 c hc, blw, if_neg h']
  rfl
theorem bel_m {W : Wd} {M : Mem} (hC : MW W M) {c : Nat} (hc : c < 36) : fMd_below M (nI c) = some (if bl W c = c then -1 else nI (bl W c)) := below_m M W.2.1 hC.2.1 c hc
theorem snk_c {W : Wd} {M : Mem} (hC : CW W M) {c : Nat} (hc : c < 36) : fTown_isSink M (nI c) = some (if bl W c = c then 1 else 0) := sink_c hC hc
theorem low_c {W : Wd} {M : Mem} (hC : CW W M) {c n : Nat} (hc : c < 36) (h10 : n ≤ 10) (h2 : bl W (it W n c) = it W n c) (h3 : ∀ m, m < n → ¬ bl W (it W m c) = it W m c) : fTown_lowestFrom M (nI c) = some (nI (it W n c)) ∧ fTown_stepsFrom M (nI c) = some (nI n) := by
  constructor
  · obtain ⟨r, e, hr⟩ := loop0 (σ := Int32 × Int32) (fun k t => fTown_lowestFrom_L4 k M t.1 t.2) (fun i t => t = (nI (it W i c), nI i)) (fun r => r = nI (it W n c)) n (fu_lt (by omega)) (nI c, 0) rfl
      (fun k i t hi hP => by
        subst hP
        right
        refine ⟨(nI (it W (i + 1) c), nI (i + 1)), rfl, ?_⟩
        have hx := it_lt hc i (W := W)
        have o : ¬ ¬ (0 : Int32) = 0 := by decide
        show fTown_lowestFrom_L4_F (fTown_lowestFrom_L4 k) M (nI (it W i c)) (nI i) = _
        simp only [fTown_lowestFrom_L4_F, nI_lt36 (show i < 36 by omega), if_false, snk_c hC hx, if_neg (h3 i hi), Option.bind_some, o, rdI_n hx (by omega : 36 ≤ 1000), bel_c hC hx (h3 i hi), nI_1]
        rfl)
      (fun k t hP => by
        subst hP
        refine ⟨nI (it W n c), ?_, rfl⟩
        have hx := it_lt hc n (W := W)
        have o : ¬ (1 : Int32) = 0 := by decide
        show fTown_lowestFrom_L4_F (fTown_lowestFrom_L4 k) M (nI (it W n c)) (nI n) = _
        simp only [fTown_lowestFrom_L4_F, nI_lt36 (show n < 36 by omega), if_false, snk_c hC hx, if_pos h2, Option.bind_some, o, not_false_eq_true, if_true])
    subst hr
    have e' : fTown_lowestFrom_L4 FU M (nI c) 0 = some (nI (it W n c)) := e
    rw [fTown_lowestFrom, e', Option.bind_some]
  · obtain ⟨r, e, hr⟩ := loop0 (σ := Int32 × Int32) (fun k t => fTown_stepsFrom_L4 k M t.1 t.2) (fun i t => t = (nI (it W i c), nI i)) (fun r => r = nI n) n (fu_lt (by omega)) (nI c, 0) rfl
      (fun k i t hi hP => by
        subst hP
        right
        refine ⟨(nI (it W (i + 1) c), nI (i + 1)), rfl, ?_⟩
        have hx := it_lt hc i (W := W)
        have o : ¬ ¬ (0 : Int32) = 0 := by decide
        show fTown_stepsFrom_L4_F (fTown_stepsFrom_L4 k) M (nI (it W i c)) (nI i) = _
        simp only [fTown_stepsFrom_L4_F, nI_lt36 (show i < 36 by omega), if_false, snk_c hC hx, if_neg (h3 i hi), Option.bind_some, o, rdI_n hx (by omega : 36 ≤ 1000), bel_c hC hx (h3 i hi), nI_1]
        rfl)
      (fun k t hP => by
        subst hP
        refine ⟨nI n, ?_, rfl⟩
        have hx := it_lt hc n (W := W)
        have o : ¬ (1 : Int32) = 0 := by decide
        show fTown_stepsFrom_L4_F (fTown_stepsFrom_L4 k) M (nI (it W n c)) (nI n) = _
        simp only [fTown_stepsFrom_L4_F, nI_lt36 (show n < 36 by omega), if_false, snk_c hC hx, if_pos h2, Option.bind_some, o, not_false_eq_true, if_true])
    subst hr
    have e' : fTown_stepsFrom_L4 FU M (nI c) 0 = some (nI n) := e
    rw [fTown_stepsFrom, e', Option.bind_some]
theorem low_m {W : Wd} {M : Mem} (hC : MW W M) {c n : Nat} (hc : c < 36) (h10 : n ≤ 10) (h2 : bl W (it W n c) = it W n c) (h3 : ∀ m, m < n → ¬ bl W (it W m c) = it W m c) : fMd_sink_L23 FU M (nI c) 0 = some (nI (it W n c), nI n) := by
  obtain ⟨r, e, hr⟩ := loop0 (σ := Int32 × Int32) (fun k t => fMd_sink_L23 k M t.1 t.2) (fun i t => t = (nI (it W i c), nI i)) (fun r => r = (nI (it W n c), nI n)) n (fu_lt (by omega)) (nI c, 0) rfl
    (fun k i t hi hP => by
      subst hP
      right
      refine ⟨(nI (it W (i + 1) c), nI (i + 1)), rfl, ?_⟩
      have hx := it_lt hc i (W := W)
      have hy := it_lt hc (i + 1) (W := W)
      have o : ¬ nI (bl W (it W i c)) < 0 := nI_pos (by have := bl_lt (W := W) hx; omega)
      show fMd_sink_L23_F (fMd_sink_L23 k) M (nI (it W i c)) (nI i) = _
      simp only [fMd_sink_L23_F, bel_m hC hx, if_neg (h3 i hi), Option.bind_some, o, if_false, nI_1]
      rfl)
    (fun k t hP => by
      subst hP
      refine ⟨_, ?_, rfl⟩
      have hx := it_lt hc n (W := W)
      have o : (-1 : Int32) < 0 := by decide
      show fMd_sink_L23_F (fMd_sink_L23 k) M (nI (it W n c)) (nI n) = _
      simp only [fMd_sink_L23_F, bel_m hC hx, if_pos h2, Option.bind_some, o, if_true])
  subst hr
  exact e
theorem inv_wh {p : Nat} {M : Mem} (hN : IvN p M) (hL : IvL M) : ∃ L, okW (nowW p L M) ∧ okH (nowW p L M) ∧ CW (nowW p L M) M ∧ MW (nowW p L M) M ∧ okS p (nowS M) ∧ VS p 36 M (nowS M) ∧ VM p M (nowS M) := by
  obtain ⟨L, h1, h2⟩ := inv_w hN hL
  exact ⟨L, h1, fun i hi => (hN.2.2.2.1 i hi).2, h2⟩
theorem s_sink (x z : Int32) : SimR (fun M => fSh_sink M x z) (fun M => fMd_sink M x z) := by
  rintro M ⟨p, n, hN, hT, hD, hIm, hC, hB, hS, hZ, hL⟩
  obtain ⟨L, w1, wh, w2, w3, w4, w5, w6⟩ := inv_wh hN hL
  have o1 : ¬ (1 : Int32) = 0 := by decide
  rcases cell_cases x with ⟨h1, h2⟩ | ⟨c, hc, rfl, h1, h2⟩
  · exact ⟨-1, by simp [fSh_sink, h1], by simp [fMd_sink, h2]⟩
  obtain ⟨k, k1, k2, k3⟩ := steps_ex wh hc
  obtain ⟨a1, a2⟩ := low_c w2 hc k1 k2 k3
  have a3 := low_m w3 hc k1 k2 k3
  rcases two_cases z with ⟨hz, w⟩ | ⟨rfl, w⟩ | ⟨rfl, w⟩
  · refine ⟨-1, ?_, by simp [fMd_sink, h2, w]⟩
    simp only [fSh_sink, h1, o1, if_false]
    by_cases q : z < 0
    · simp [q]
    · simp [q, hz.resolve_left q]
  · refine ⟨nI (it (nowW p L M) k c), ?_, ?_⟩
    · simp [fSh_sink, h1, a1]
    · simp [fMd_sink, h2, w, a3]
  · refine ⟨nI k, ?_, ?_⟩
    · simp [fSh_sink, h1, a2]
    · simp [fMd_sink, h2, w, a3]
/-- a drop from one cell comes to another, or through it -/
def Rch (W : Wd) (a b : Nat) : Prop := ∃ n, n ≤ 10 ∧ it W n a = b
theorem rch_any {W : Wd} (hH : okH W) {a b n : Nat} (ha : a < 36) (h : it W n a = b) : Rch W a b := by
  rcases Nat.lt_or_ge 10 n with q | q
  · refine ⟨10, Nat.le_refl _, ?_⟩
    rw [← h]
    exact (it_stay (it_10 hH ha) n (by omega)).symm
  · exact ⟨n, q, h⟩
/-- where the walk stops: at b, or at a SINK -/
theorem stop_ex {W : Wd} (hH : okH W) {a : Nat} (ha : a < 36) (b : Nat) : ∃ n, n ≤ 10 ∧ (it W n a = b ∨ bl W (it W n a) = it W n a) ∧ (∀ m, m < n → ¬ (it W m a = b ∨ bl W (it W m a) = it W m a)) ∧ (it W n a = b ↔ Rch W a b) := by
  obtain ⟨n, h1, h2, h3⟩ := least (P := fun n => it W n a = b ∨ bl W (it W n a) = it W n a) 11 ⟨10, by omega, Or.inr (it_10 hH ha)⟩
  refine ⟨n, by omega, h2, h3, fun h => ⟨n, by omega, h⟩, fun ⟨m, hm, e⟩ => ?_⟩
  rcases Nat.lt_or_ge m n with q | q
  · exact absurd (Or.inl e) (h3 m q)
  · rcases h2 with h2 | h2
    · exact h2
    · rw [← it_stay h2 m q]; exact e
theorem rch_c {W : Wd} (hH : okH W) {M : Mem} (hC : CW W M) {a b : Nat} (ha : a < 36) (hb : b < 36) : ∃ v, fTown_comesThrough M (nI a) (nI b) = some v ∧ (v = 1 ∧ Rch W a b ∨ v = 0 ∧ ¬ Rch W a b) := by
  obtain ⟨n, h1, h2, h3, h4⟩ := stop_ex hH ha b
  obtain ⟨r, e, hr⟩ := loop0 (σ := Int32 × Int32) (fun k t => fTown_comesThrough_L5 k M (nI b) t.1 t.2) (fun i t => t = (nI (it W i a), nI i)) (fun r => r = nI (it W n a)) n (fu_lt (by omega)) (nI a, 0) rfl
    (fun k i t hi hP => by
      subst hP
      right
      refine ⟨(nI (it W (i + 1) a), nI (i + 1)), rfl, ?_⟩
      have hx := it_lt ha i (W := W)
      have ns : ¬ bl W (it W i a) = it W i a := fun z => h3 i hi (Or.inr z)
      have nb : ¬ nI (it W i a) = nI b := fun z => h3 i hi (Or.inl ((nI_eq (by omega) (by omega)).mp z))
      have o : ¬ ¬ (0 : Int32) = 0 := by decide
      show fTown_comesThrough_L5_F (fTown_comesThrough_L5 k) M (nI b) (nI (it W i a)) (nI i) = _
      simp only [fTown_comesThrough_L5_F, nI_lt36 (show i < 36 by omega), if_false, nb, snk_c hC hx, if_neg ns, Option.bind_some, o, rdI_n hx (by omega : 36 ≤ 1000), bel_c hC hx ns, nI_1]
      rfl)
    (fun k t hP => by
      subst hP
      refine ⟨_, ?_, rfl⟩
      have hx := it_lt ha n (W := W)
      have o : ¬ (1 : Int32) = 0 := by decide
      show fTown_comesThrough_L5_F (fTown_comesThrough_L5 k) M (nI b) (nI (it W n a)) (nI n) = _
      simp only [fTown_comesThrough_L5_F, nI_lt36 (show n < 36 by omega), if_false]
      by_cases q : it W n a = b
      · rw [if_pos (by rw [q])]
      · rw [if_neg (fun z => q ((nI_eq (by omega) (by omega)).mp z)), snk_c hC hx, if_pos (h2.resolve_left q), Option.bind_some, if_pos o])
  subst hr
  have e' : fTown_comesThrough_L5 FU M (nI b) (nI a) 0 = some (nI (it W n a)) := e
  have hx := it_lt ha n (W := W)
  by_cases q : it W n a = b
  · refine ⟨1, ?_, Or.inl ⟨rfl, h4.mp q⟩⟩
    rw [fTown_comesThrough, e', Option.bind_some, fTown_comesThrough_J38, if_neg (fun z => z (by rw [q]))]
  · refine ⟨0, ?_, Or.inr ⟨rfl, fun z => q (h4.mpr z)⟩⟩
    rw [fTown_comesThrough, e', Option.bind_some, fTown_comesThrough_J38, if_pos (fun z => q ((nI_eq (by omega) (by omega)).mp z))]
theorem rch_m {W : Wd} (hH : okH W) {M : Mem} (hC : MW W M) {a b : Nat} (ha : a < 36) (hb : b < 36) : ∃ v, fMd_comesTo M (nI a) (nI b) = some v ∧ (v = 1 ∧ Rch W a b ∨ v = 0 ∧ ¬ Rch W a b) := by
  obtain ⟨n, h1, h2, h3, h4⟩ := stop_ex hH ha b
  obtain ⟨r, e, hr⟩ := loopG (σ := Int32) (fun k t => fMd_comesTo_L2 k M (nI b) t) (fun i t => (i ≤ n ∧ t = nI (it W i a)) ∨ (i = n + 1 ∧ t = -1 ∧ ¬ it W n a = b)) (fun r => (r = nI b ∧ it W n a = b) ∨ (r = -1 ∧ ¬ it W n a = b)) (n + 1)
    (fun k i t hi hP => by
      rcases hP with ⟨-, rfl⟩ | ⟨z, -⟩
      · have hx := it_lt ha i (W := W)
        have o : ¬ nI (it W i a) < 0 := nI_pos (by omega)
        have F0 : fMd_comesTo_L2 (k + 1) M (nI b) (nI (it W i a)) = if nI (it W i a) = nI b then some (nI (it W i a)) else fMd_comesTo_L2 k M (nI b) (if bl W (it W i a) = it W i a then -1 else nI (bl W (it W i a))) := by
          show fMd_comesTo_L2_F (fMd_comesTo_L2 k) M (nI b) (nI (it W i a)) = _
          simp only [fMd_comesTo_L2_F, o, if_false, bel_m hC hx, Option.bind_some]
        by_cases q : it W i a = b
        · left
          have : i = n := by
            rcases Nat.lt_or_ge i n with y | y
            · exact absurd (Or.inl q) (h3 i y)
            · omega
          subst this
          exact ⟨nI b, by rw [F0, if_pos (by rw [q]), q], Or.inl ⟨rfl, q⟩⟩
        · right
          have nb : ¬ nI (it W i a) = nI b := fun z => q ((nI_eq (by omega) (by omega)).mp z)
          by_cases y : i = n
          · subst y
            exact ⟨-1, Or.inr ⟨rfl, rfl, q⟩, by rw [F0, if_neg nb, if_pos (h2.resolve_left q)]⟩
          · exact ⟨nI (it W (i + 1) a), Or.inl ⟨by omega, rfl⟩, by rw [F0, if_neg nb, if_neg (fun z => h3 i (by omega) (Or.inr z))]; rfl⟩
      · omega)
    (fun k t hP => by
      rcases hP with ⟨z, -⟩ | ⟨-, rfl, z⟩
      · omega
      · refine ⟨-1, ?_, Or.inr ⟨rfl, z⟩⟩
        show fMd_comesTo_L2_F (fMd_comesTo_L2 k) M (nI b) (-1) = _
        have : (-1 : Int32) < 0 := by decide
        simp only [fMd_comesTo_L2_F, this, if_true]) (n + 1) 0 (nI a) FU rfl (Nat.zero_le _) (fu_lt (by omega)) (Or.inl ⟨Nat.zero_le _, rfl⟩)
  have e' : fMd_comesTo_L2 FU M (nI b) (nI a) = some r := e
  rcases hr with ⟨rfl, q⟩ | ⟨rfl, q⟩
  · refine ⟨1, ?_, Or.inl ⟨rfl, h4.mp q⟩⟩
    rw [fMd_comesTo, e', Option.bind_some, fMd_comesTo_J20, if_neg (fun z => z rfl)]
  · refine ⟨0, ?_, Or.inr ⟨rfl, fun z => q (h4.mpr z)⟩⟩
    rw [fMd_comesTo, e', Option.bind_some, fMd_comesTo_J20, if_pos (fun z => m1_ne (n := b) (by omega) z.symm)]
