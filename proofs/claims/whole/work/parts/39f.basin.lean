def bt (v : Nat → Int32) : Nat → Int64
  | 0 => 0
  | k + 1 => if v k = 0 then bt v k else bt v k ||| slL 1 (nI k)
theorem sinks_c {W : Wd} {M : Mem} (hC : CW W M) : fTown_sinks M = some (bt (fun k => if bl W k = k then 1 else 0) 36) := by
  obtain ⟨r, e, hr⟩ := loop0 (σ := Int64 × Int32) (fun k t => fTown_sinks_L4 k M t.1 t.2) (fun i t => t = (bt (fun k => if bl W k = k then 1 else 0) i, nI i)) (fun r => r = bt (fun k => if bl W k = k then 1 else 0) 36) 36 (fu_lt (by omega)) (0, 0) rfl
    (fun k i t hi hP => by
      subst hP
      right
      refine ⟨(bt (fun k => if bl W k = k then 1 else 0) (i + 1), nI (i + 1)), rfl, ?_⟩
      show fTown_sinks_L4_F (fTown_sinks_L4 k) M _ _ = _
      simp only [fTown_sinks_L4_F, nI_lt36 hi, if_false, snk_c hC hi, Option.bind_some, nI_1, bt]
      by_cases q : (if bl W i = i then (1 : Int32) else 0) = 0
      · rw [if_pos q, if_pos q]
      · rw [if_neg q, if_neg q])
    (fun k t hP => by
      subst hP
      exact ⟨_, rfl, rfl⟩)
  subst hr
  have e' : fTown_sinks_L4 FU M 0 0 = some (bt (fun k => if bl W k = k then 1 else 0) 36) := e
  rw [fTown_sinks, e', Option.bind_some]
theorem come_c {M : Mem} {b : Nat} (v : Nat → Int32) (hv : ∀ a, a < 36 → fTown_comesThrough M (nI a) (nI b) = some (v a)) : fTown_comeThrough M (nI b) = some (bt v 36) := by
  obtain ⟨r, e, hr⟩ := loop0 (σ := Int64 × Int32) (fun k t => fTown_comeThrough_L5 k M (nI b) t.1 t.2) (fun i t => t = (bt v i, nI i)) (fun r => r = bt v 36) 36 (fu_lt (by omega)) (0, 0) rfl
    (fun k i t hi hP => by
      subst hP
      right
      refine ⟨(bt v (i + 1), nI (i + 1)), rfl, ?_⟩
      show fTown_comeThrough_L5_F (fTown_comeThrough_L5 k) M (nI b) _ _ = _
      simp only [fTown_comeThrough_L5_F, nI_lt36 hi, if_false, hv i hi, Option.bind_some, nI_1, bt]
      by_cases q : v i = 0 <;> simp [q])
    (fun k t hP => by
      subst hP
      exact ⟨_, rfl, rfl⟩)
  subst hr
  have e' : fTown_comeThrough_L5 FU M (nI b) 0 0 = some (bt v 36) := e
  rw [fTown_comeThrough, e', Option.bind_some]
theorem basin_m {W : Wd} {M : Mem} (hC : MW W M) (x : Int32) (v : Nat → Int32) (hv : (x = -1 ∧ ∀ a, a < 36 → v a = if bl W a = a then 1 else 0) ∨ (¬ x = -1 ∧ ∀ a, a < 36 → fMd_comesTo M (nI a) x = some (v a))) : fMd_basin_J16 M x = some (bt v 36) := by
  obtain ⟨r, e, hr⟩ := loop0 (σ := Int64 × Int32) (fun k t => fMd_basin_L21 k M x t.1 t.2) (fun i t => t = (bt v i, nI i)) (fun r => r = bt v 36) 36 (fu_lt (by omega)) (0, 0) rfl
    (fun k i t hi hP => by
      subst hP
      right
      refine ⟨(bt v (i + 1), nI (i + 1)), rfl, ?_⟩
      show fMd_basin_L21_F (fMd_basin_L21 k) M x _ _ = _
      have h36 := nI_lt36 hi
      rcases hv with ⟨rfl, hv⟩ | ⟨hx, hv⟩
      · simp only [fMd_basin_L21_F, h36, if_false, not_true_eq_false, bel_m hC hi, Option.bind_some, fMd_basin_J55_21, nI_1, bt, hv i hi]
        by_cases q : bl W i = i
        · have n1 : ¬ (0 : Int32) ≤ -1 := by decide
          have n2 : ¬ (1 : Int32) = 0 := by decide
          rw [if_pos q, if_neg n1, if_pos q, if_neg n2]
        · have hx := bl_lt (W := W) hi
          rw [if_neg q, if_pos (nI_pos' (by omega)), if_neg q, if_pos rfl]
      · simp only [fMd_basin_L21_F, h36, if_false, hx, not_false_eq_true, if_true, hv i hi, Option.bind_some, fMd_basin_J55_21, nI_1, bt]
        by_cases q : v i = 0 <;> simp [q])
    (fun k t hP => by
      subst hP
      exact ⟨_, rfl, rfl⟩)
  subst hr
  have e' : fMd_basin_L21 FU M x 0 0 = some (bt v 36) := e
  rw [fMd_basin_J16, e', Option.bind_some]
theorem s_basin (x : Int32) : SimR (fun M => fSh_basin M x) (fun M => fMd_basin M x) := by
  rintro M ⟨p, n, hN, hT, hD, hIm, hC, hB, hS, hZ, hL⟩
  obtain ⟨L, w1, wh, w2, w3, w4, w5, w6⟩ := inv_wh hN hL
  by_cases hx : x = -1
  · subst hx
    refine ⟨bt (fun k => if bl (nowW p L M) k = k then 1 else 0) 36, ?_, ?_⟩
    · show fSh_basin M (-1) = _
      rw [fSh_basin, if_neg (fun z => z rfl), sinks_c w2, Option.bind_some]
    · show fMd_basin M (-1) = _
      rw [fMd_basin, if_pos rfl]
      exact basin_m w3 (-1) _ (Or.inl ⟨rfl, fun _ _ => rfl⟩)
  rcases cell_cases x with ⟨h1, h2⟩ | ⟨c, hc, rfl, h1, h2⟩
  · exact ⟨-9223372036854775808, by simp [fSh_basin, hx, h1], by simp [fMd_basin, hx, h2]⟩
  have hv : ∀ a, a < 36 → fTown_comesThrough M (nI a) (nI c) = some ((fTown_comesThrough M (nI a) (nI c)).getD 0) := fun a ha => by
    obtain ⟨v, e, -⟩ := rch_c wh w2 ha hc
    rw [e]; rfl
  have hv2 : ∀ a, a < 36 → fMd_comesTo M (nI a) (nI c) = some ((fTown_comesThrough M (nI a) (nI c)).getD 0) := fun a ha => by
    obtain ⟨v, e, h⟩ := rch_c wh w2 ha hc
    obtain ⟨v', e', h'⟩ := rch_m wh w3 ha hc
    rw [e, e']
    rcases h with ⟨rfl, h⟩ | ⟨rfl, h⟩
    · rcases h' with ⟨rfl, h'⟩ | ⟨rfl, h'⟩
      · rfl
      · exact absurd h h'
    · rcases h' with ⟨rfl, h'⟩ | ⟨rfl, h'⟩
      · exact absurd h' h
      · rfl
  refine ⟨bt (fun a => (fTown_comesThrough M (nI a) (nI c)).getD 0) 36, ?_, ?_⟩
  · show fSh_basin M (nI c) = _
    rw [fSh_basin, if_pos hx, h1, if_neg (by decide), come_c _ hv, Option.bind_some]
  · show fMd_basin M (nI c) = _
    rw [fMd_basin, if_neg hx, h2, if_pos (by decide)]
    exact basin_m w3 (nI c) _ (Or.inr ⟨hx, hv2⟩)
/-! WHAT COMES FROM ELSEWHERE: states that agree upstream agree there behind any hours -/
def Upst (W : Wd) (U : Nat → Prop) : Prop := ∀ c, c < 36 → U (bl W c) → U c
def Agr (W : Wd) (U : Nat → Prop) (s s' : St) : Prop := (∀ c, c < 36 → U c → s.1 c = s'.1 c) ∧ (∀ c, c < 36 → U c → ¬ bl W c = c → s.2.1 c = s'.2.1 c) ∧ (∀ q, q < W.1 → s.2.2.1 q = s'.2.2.1 q) ∧ (∀ q, q < W.1 → U (ix (s.2.2.1 q)) → s.2.2.2.1 q = s'.2.2.2.1 q) ∧ s.2.2.2.2 = s'.2.2.2.2
theorem dr_agr {W : Wd} {U : Nat → Prop} {s s' : St} (h : Agr W U s s') (hs : okS W.1 s) : ∀ k, k ≤ W.1 → (∀ c, c < 36 → U c → (dr W s.2.2.1 s.1 s.2.2.2.1 k).1 c = (dr W s'.2.2.1 s'.1 s'.2.2.2.1 k).1 c) ∧ ∀ q, q < W.1 → U (ix (s.2.2.1 q)) → (dr W s.2.2.1 s.1 s.2.2.2.1 k).2.1 q = (dr W s'.2.2.1 s'.1 s'.2.2.2.1 k).2.1 q := by
  intro k
  induction k with
  | zero => intro _; exact ⟨h.1, h.2.2.2.1⟩
  | succ k ih =>
    intro hk
    obtain ⟨i1, i2⟩ := ih (by omega)
    rw [dr, dr]
    by_cases z : W.2.2.2.1 k = 1
    · rw [if_pos z, if_pos z]; exact ⟨i1, i2⟩
    · rw [if_neg z, if_neg z]
      have ec := h.2.2.1 k (by omega)
      rw [← ec]
      obtain ⟨d, hd, ed⟩ := hs.2.2.1 k (by omega)
      have exd : ix (s.2.2.1 k) = d := by rw [ed]; exact ix_n (by omega)
      by_cases u : U d
      · have a1 : (dr W s.2.2.1 s.1 s.2.2.2.1 k).1 d = (dr W s'.2.2.1 s'.1 s'.2.2.2.1 k).1 d := i1 d hd u
        have a2 : (dr W s.2.2.1 s.1 s.2.2.2.1 k).2.1 k = (dr W s'.2.2.1 s'.1 s'.2.2.2.1 k).2.1 k := i2 k (by omega) (by rw [exd]; exact u)
        rw [exd, a1, a2]
        refine ⟨fun c hc uc => ?_, fun q hq uq => ?_⟩
        · dsimp only
          rw [upd_a, upd_a]
          by_cases y : c = d
          · rw [if_pos y, if_pos y]
          · rw [if_neg y, if_neg y]; exact i1 c hc uc
        · dsimp only
          rw [upd_a, upd_a]
          by_cases y : q = k
          · rw [if_pos y, if_pos y]
          · rw [if_neg y, if_neg y]; exact i2 q hq uq
      · rw [exd]
        refine ⟨fun c hc uc => ?_, fun q hq uq => ?_⟩
        · dsimp only
          have y : ¬ c = d := fun y => u (y ▸ uc)
          rw [upd_a, upd_a, if_neg y, if_neg y]; exact i1 c hc uc
        · dsimp only
          have y : ¬ q = k := fun y => by
            subst y
            rw [exd] at uq
            exact u uq
          rw [upd_a, upd_a, if_neg y, if_neg y]; exact i2 q hq uq
theorem sit_eq {f g : Nat → Int32} {c : Int32} : ∀ p, (∀ q, q < p → f q = g q) → sit f c p = sit g c p := by
  intro p
  induction p with
  | zero => intro _; rfl
  | succ p ih => intro h; rw [sit, sit, ih (fun q hq => h q (by omega)), h p (by omega)]
theorem out_agr {W : Wd} {U : Nat → Prop} {s s' : St} (h : Agr W U s s') (hs : okS W.1 s) {c : Nat} (hc : c < 36) (uc : U c) : out W s c = out W s' c := by
  unfold out ofn
  by_cases q : low4 W.2.1 c = c
  · rw [if_pos q, if_pos q]
  · rw [if_neg q, if_neg q]
    have e1 : (mid W s).1 c = (mid W s').1 c := (dr_agr h hs W.1 (Nat.le_refl _)).1 c hc uc
    have e2 : (mid W s).2.1 c = (mid W s').2.1 c := h.2.1 c hc uc q
    have e3 : sit (mid W s).2.2.1 (nI c) W.1 = sit (mid W s').2.2.1 (nI c) W.1 := sit_eq W.1 h.2.2.1
    have e4 : (mid W s).2.2.2.2 = (mid W s').2.2.2.2 := h.2.2.2.2
    rw [e1, e2, e3, e4]
theorem cm_agr {W : Wd} {U : Nat → Prop} (hU : Upst W U) {s s' : St} (h : Agr W U s s') (hs : okS W.1 s) : ∀ k, k ≤ 36 → ∀ c, c < 36 → U c → cm (out W s) (bl W) k c = cm (out W s') (bl W) k c := by
  intro k
  induction k with
  | zero => intro _ c _ _; simp only [cm]
  | succ k ih =>
    intro hk c hc uc
    have i1 := ih (by omega) c hc uc
    by_cases hB : bl W k = k
    · rw [cm_z (out_sink hB), cm_z (out_sink hB)]; exact i1
    · rw [cm_s hB, cm_s hB, i1]
      by_cases q : c = bl W k
      · have uk : U k := hU k (by omega) (q ▸ uc)
        rw [if_pos q, if_pos q, out_agr h hs (by omega) uk]
      · rw [if_neg q, if_neg q]
        by_cases r : c = k
        · rw [if_pos r, if_pos r, out_agr h hs (by omega) (r ▸ uc)]
        · rw [if_neg r, if_neg r]
theorem stp_agr {W : Wd} {U : Nat → Prop} (hU : Upst W U) {s s' : St} (h : Agr W U s s') (hs : okS W.1 s) : Agr W U (stp W s) (stp W s') := by
  obtain ⟨d1, d2⟩ := dr_agr h hs W.1 (Nat.le_refl _)
  refine ⟨fun c hc uc => ?_, h.2.1, h.2.2.1, d2, ?_⟩
  · show mnI ((mid W s).1 c + cm (out W s) (bl W) 36 c) 9999 = mnI ((mid W s').1 c + cm (out W s') (bl W) 36 c) 9999
    have e1 : (mid W s).1 c = (mid W s').1 c := d1 c hc uc
    rw [e1, cm_agr hU h hs 36 (Nat.le_refl _) c hc uc]
  · show hr1 s.2.2.2.2 = hr1 s'.2.2.2.2
    rw [h.2.2.2.2]
theorem stN_agr {W : Wd} (hW : okW W) {U : Nat → Prop} (hU : Upst W U) {s s' : St} (h : Agr W U s s') (hs : okS W.1 s) : ∀ n, Agr W U (stN W n s) (stN W n s') := by
  intro n
  induction n with
  | zero => exact h
  | succ n ih => exact stp_agr hU ih (stN_ok hW hs n)
/-- all that comes to a cell -/
theorem up_rch {W : Wd} (hH : okH W) (b : Nat) : Upst W (fun c => Rch W c b) := fun c hc ⟨n, hn, e⟩ => rch_any hH hc (n := n + 1) (by rw [← it_s]; exact e)
