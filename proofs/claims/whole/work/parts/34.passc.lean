/-! the class's hour, whole -/
theorem upd_ge {f : Nat → Int32} {k j : Nat} {x : Int32} : upd f k x j = if j = k then x else f j := rfl
/-- whether luck changed when it was laid down -/
def Chg (W : Wd) (s : St) (n : Nat) : Prop := ∃ c, c < n ∧ lk W s c ≠ (mid W s).1 c
def PY (b a i : Nat) : Prop := a = b + 1 ∨ a = b + 5 ∨ (a = b ∧ i = 7)
theorem lay_c {W : Wd} (hW : okW W) {s : St} (hs : okS W.1 s) {M : Mem} {b : Nat} (hb : 36 ≤ b ∧ b ≤ 60) (h1 : ∀ c, c < 36 → M.1 (b + 1) c = (mid W s).1 c) (h5 : ∀ c, c < 36 → M.1 (b + 5) c = cm (out W s) (bl W) 36 c) (D : Prop) (h7 : M.1 b 7 = 0 ∧ ¬ D ∨ M.1 b 7 = 1 ∧ D) : ∃ M1, fStreet_layDown M b = some M1 ∧ Kp (PY b) M M1 ∧ (∀ c, c < 36 → M1.1 (b + 1) c = lk W s c) ∧ (∀ c, c < 36 → M1.1 (b + 5) c = 0) ∧ (M1.1 b 7 = 0 ∧ ¬ D ∧ ¬ Chg W s 36 ∨ M1.1 b 7 = 1 ∧ (D ∨ Chg W s 36)) := by
  have hm := mid_ok hW hs
  obtain ⟨r, e, K, l1, l2, l3⟩ := loop0 (σ := Mem × Int32) (fun n t => fStreet_layDown_L2 n t.1 b t.2) (fun i t => t.2 = nI i ∧ Kp (PY b) M t.1 ∧ (∀ c, c < 36 → t.1.1 (b + 1) c = if c < i then lk W s c else (mid W s).1 c) ∧ (∀ c, c < 36 → t.1.1 (b + 5) c = if c < i then 0 else cm (out W s) (bl W) 36 c) ∧ (t.1.1 b 7 = 0 ∧ ¬ D ∧ ¬ Chg W s i ∨ t.1.1 b 7 = 1 ∧ (D ∨ Chg W s i))) (fun r => Kp (PY b) M r ∧ (∀ c, c < 36 → r.1 (b + 1) c = lk W s c) ∧ (∀ c, c < 36 → r.1 (b + 5) c = 0) ∧ (r.1 b 7 = 0 ∧ ¬ D ∧ ¬ Chg W s 36 ∨ r.1 b 7 = 1 ∧ (D ∨ Chg W s 36))) 36 (fu_lt (by omega)) (M, 0)
    ⟨rfl, Kp.rf _ _, fun c hc => by rw [if_neg (Nat.not_lt_zero c)]; exact h1 c hc, fun c hc => by rw [if_neg (Nat.not_lt_zero c)]; exact h5 c hc, by
      have n0 : ¬ Chg W s 0 := fun ⟨c, hc, _⟩ => Nat.not_lt_zero c hc
      rcases h7 with ⟨a, d⟩ | ⟨a, d⟩
      · exact Or.inl ⟨a, d, n0⟩
      · exact Or.inr ⟨a, Or.inl d⟩⟩
    (fun n i t hi hP => by
      obtain ⟨t1, t2⟩ := t
      obtain ⟨q1, K, l1, l2, l3⟩ := hP
      dsimp only at q1 K l1 l2 l3
      subst q1
      right
      have F0 : fStreet_layDown_L2 (n + 1) t1 b (nI i) = fStreet_layDown_L2_F (fStreet_layDown_L2 n) t1 b (nI i) := rfl
      have h36 := nI_lt36 hi
      have e5 : t1.1 (b + 5) i = cm (out W s) (bl W) 36 i := by rw [l2 i hi, if_neg (by omega)]
      have e1 : t1.1 (b + 1) i = (mid W s).1 i := by rw [l1 i hi, if_neg (by omega)]
      have ch : Chg W s (i + 1) ↔ (Chg W s i ∨ lk W s i ≠ (mid W s).1 i) := by
        constructor
        · rintro ⟨c, hc, hne⟩
          rcases Nat.lt_or_ge c i with z | z
          · exact Or.inl ⟨c, z, hne⟩
          · obtain rfl : c = i := by omega
            exact Or.inr hne
        · rintro (⟨c, hc, hne⟩ | hne)
          · exact ⟨c, by omega, hne⟩
          · exact ⟨i, by omega, hne⟩
      have lki : lk W s i = mnI ((mid W s).1 i + cm (out W s) (bl W) 36 i) 9999 := rfl
      by_cases z : cm (out W s) (bl W) 36 i = 0
      · have same : lk W s i = (mid W s).1 i := by
          obtain ⟨a, ha, ea⟩ := r9999.mp (hm.1 i hi)
          rw [lki, z, Int32.add_zero, ea]
          have : (9999 : Int32) = nI 9999 := rfl
          rw [this, mnI_n (by omega) (by omega), Nat.min_eq_left ha]
        refine ⟨(t1, nI (i + 1)), ⟨rfl, K, fun c hc => ?_, fun c hc => ?_, ?_⟩, ?_⟩
        · dsimp only
          rw [l1 c hc]
          by_cases y : c = i
          · rw [y, if_neg (by omega), if_pos (by omega), same]
          · have : (c < i + 1) ↔ (c < i) := by omega
            simp only [this]
        · dsimp only
          rw [l2 c hc]
          by_cases y : c = i
          · rw [y, if_neg (by omega), if_pos (by omega), z]
          · have : (c < i + 1) ↔ (c < i) := by omega
            simp only [this]
        · dsimp only
          have : Chg W s (i + 1) ↔ Chg W s i := by rw [ch]; exact ⟨fun h => h.resolve_right (fun y => y same), Or.inl⟩
          rw [this]
          exact l3
        · dsimp only
          rw [F0]
          simp only [fStreet_layDown_L2_F, h36, if_false, rdI_n hi (by omega : 36 ≤ 1000), Option.bind_some, e5, z, if_true, nI_1]
      · have nb1 : ¬ b + 1 = b + 5 := by omega
        have nb2 : ¬ b + 5 = b + 1 := by omega
        have nb3 : ¬ b + 1 = b := by omega
        have nb4 : ¬ b + 5 = b := by omega
        have nb5 : ¬ b = b + 1 := by omega
        have nb6 : ¬ b = b + 5 := by omega
        have fin : ∀ f : Int32, (f = 0 ∧ ¬ D ∧ ¬ Chg W s (i + 1) ∨ f = 1 ∧ (D ∨ Chg W s (i + 1))) → (∃ s' : Mem × Int32, (s'.2 = nI (i + 1) ∧ Kp (PY b) M s'.1 ∧ (∀ c, c < 36 → s'.1.1 (b + 1) c = if c < i + 1 then lk W s c else (mid W s).1 c) ∧ (∀ c, c < 36 → s'.1.1 (b + 5) c = if c < i + 1 then 0 else cm (out W s) (bl W) 36 c) ∧ (s'.1.1 b 7 = 0 ∧ ¬ D ∧ ¬ Chg W s (i + 1) ∨ s'.1.1 b 7 = 1 ∧ (D ∨ Chg W s (i + 1)))) ∧ Option.bind (stZ b 7 t1 f) (fun M8 => Option.bind (stI 36 (b + 1) M8 (nI i) (lk W s i)) fun M9 => Option.bind (stI 36 (b + 5) M9 (nI i) 0) fun M10 => fStreet_layDown_L2 n M10 b (nI i + 1)) = fStreet_layDown_L2 n s'.1 b s'.2) := fun f hf => by
          refine ⟨(wI (wI (wI t1 b 7 f) (b + 1) i (lk W s i)) (b + 5) i 0, nI (i + 1)), ⟨rfl, ((K.tr (Kp.w _ _ (by unfold PY; omega))).tr (Kp.w _ _ (by unfold PY; omega))).tr (Kp.w _ _ (by unfold PY; omega)), fun c hc => ?_, fun c hc => ?_, ?_⟩, ?_⟩
          · dsimp only
            rw [wI_1, if_neg nb1, wI_1, if_pos rfl, upd_a, wI_1, if_neg nb3, l1 c hc]
            by_cases y : c = i
            · rw [if_pos y, if_pos (by omega), y]
            · have : (c < i + 1) ↔ (c < i) := by omega
              rw [if_neg y]
              simp only [this]
          · dsimp only
            rw [wI_1, if_pos rfl, upd_a, wI_1, if_neg nb2, wI_1, if_neg nb4, l2 c hc]
            by_cases y : c = i
            · rw [if_pos y, if_pos (by omega)]
            · have : (c < i + 1) ↔ (c < i) := by omega
              rw [if_neg y]
              simp only [this]
          · dsimp only
            rw [wI_1, if_neg nb6, wI_1, if_neg nb5, wI_1, if_pos rfl, upd_a, if_pos rfl]
            exact hf
          · have hz : stZ b 7 t1 f = some (wI t1 b 7 f) := by
              unfold stZ
              rw [if_pos]
              rcases hf with ⟨y, -⟩ | ⟨y, -⟩
              · exact Or.inl y
              · exact Or.inr y
            dsimp only
            rw [hz, Option.bind_some, stI_n hi (by omega), Option.bind_some, stI_n hi (by omega), Option.bind_some, nI_1]
        have step1 : fStreet_layDown_L2 (n + 1) t1 b (nI i) = if lk W s i = (mid W s).1 i then fStreet_layDown_J57_2 (fStreet_layDown_L2 n) t1 b (nI i) (lk W s i) (t1.1 b 7) 0 else fStreet_layDown_J57_2 (fStreet_layDown_L2 n) t1 b (nI i) (lk W s i) (t1.1 b 7) 1 := by
          rw [F0]
          simp only [fStreet_layDown_L2_F, h36, if_false, rdI_n hi (by omega : 36 ≤ 1000), Option.bind_some, e5, z, e1]
          rfl
        by_cases y : lk W s i = (mid W s).1 i
        · have c1 : Chg W s (i + 1) ↔ Chg W s i := by rw [ch]; exact ⟨fun h => h.resolve_right (fun w => w y), Or.inl⟩
          obtain ⟨s', g1, g2⟩ := fin (t1.1 b 7) (by rw [c1]; exact l3)
          refine ⟨s', g1, ?_⟩
          dsimp only
          rw [step1, if_pos y, fStreet_layDown_J57_2, Int32.or_zero]
          exact g2
        · have c1 : Chg W s (i + 1) := ch.mpr (Or.inr y)
          obtain ⟨s', g1, g2⟩ := fin 1 (Or.inr ⟨rfl, Or.inr c1⟩)
          refine ⟨s', g1, ?_⟩
          have o1 : t1.1 b 7 ||| 1 = 1 := by
            rcases l3 with ⟨w, -⟩ | ⟨w, -⟩ <;> rw [w] <;> decide
          dsimp only
          rw [step1, if_neg y, fStreet_layDown_J57_2, o1]
          exact g2)
    (fun n t hP => by
      obtain ⟨t1, t2⟩ := t
      obtain ⟨q1, K, l1, l2, l3⟩ := hP
      dsimp only at q1 K l1 l2 l3
      subst q1
      refine ⟨t1, ?_, K, fun c hc => by rw [l1 c hc, if_pos hc], fun c hc => by rw [l2 c hc, if_pos hc], l3⟩
      show fStreet_layDown_L2_F (fStreet_layDown_L2 n) t1 b (nI 36) = _
      simp only [fStreet_layDown_L2_F, nI_ge36, if_true])
  refine ⟨r, ?_, K, l1, l2, l3⟩
  have e' : fStreet_layDown_L2 FU M b 0 = some r := e
  rw [fStreet_layDown, e', Option.bind_some]
def PC (p b a i : Nat) : Prop := a = b + 1 ∨ (a = b + 4 ∧ i < p) ∨ a = b + 5 ∨ (a = b ∧ 4 ≤ i ∧ i ≤ 7) ∨ PG a i
theorem pass_c {W : Wd} (hW : okW W) {s : St} (hs : okS W.1 s) {M : Mem} {b : Nat} (hb : 36 ≤ b ∧ b ≤ 60) (hC : CW W M) (hV : VS W.1 b M s) (hz : ∀ i, i < 36 → M.1 (b + 5) i = 0) : ∃ M1, fStreet_pass M b = some M1 ∧ Kp (PC W.1 b) M M1 ∧ VS W.1 b M1 (stp W s) ∧ (∀ i, i < 36 → M1.1 (b + 5) i = 0) ∧ M1.1 b 5 = drk W s ∧ M1.1 b 6 = rnn W s ∧ (M1.1 b 7 = 0 ∧ ¬ 0 < drk W s ∧ ¬ Chg W s 36 ∨ M1.1 b 7 = 1 ∧ (0 < drk W s ∨ Chg W s 36)) := by
  have hm := mid_ok hW hs
  obtain ⟨M1, d1, d2, d3, d4, d5⟩ := drink_c hW hs hb hC hV
  have C1 : CW W M1 := hC.kp d2 (fun a i h => by unfold PD at h; omega)
  have z1 : ∀ i, i < 36 → M1.1 (b + 5) i = 0 := fun i hi => by rw [d2.1 _ _ (by unfold PD; omega)]; exact hz i hi
  obtain ⟨M2, r1, r2, r3, r4⟩ := run_c hW hs hb C1 d3 z1
  have V2 : VS W.1 b M2 (mid W s) := d3.kp r2 (fun a i h => by unfold PL PG at h; omega)
  have f5 : M2.1 b 5 = drk W s := by rw [r2.1 _ _ (by unfold PL PG; omega)]; exact d4
  have f7 : M2.1 b 7 = M1.1 b 7 := r2.1 _ _ (by unfold PL PG; omega)
  have K12 : Kp (PC W.1 b) M M2 := (d2.mono (fun a i h => by unfold PD at h; unfold PC; omega)).tr (r2.mono (fun a i h => by unfold PL PG at h; unfold PC PG; omega))
  have hour : ∀ M' : Mem, fStreet_pass_J108 M' b = some (wI M' b 4 (hr1 (M'.1 b 4))) := fun M' => by
    unfold fStreet_pass_J108 hr1
    by_cases z : 24 ≤ M'.1 b 4 + 1
    · rw [if_pos z, if_pos z]
    · rw [if_neg z, if_neg z]
  have fin : ∀ M3 : Mem, Kp (PC W.1 b) M M3 → (∀ c, c < 36 → M3.1 (b + 1) c = lk W s c) → (∀ c, c < 36 → M3.1 (b + 2) c = s.2.1 c) → (∀ q, q < W.1 → M3.1 (b + 3) q = s.2.2.1 q) → (∀ q, q < W.1 → M3.1 (b + 4) q = (mid W s).2.2.2.1 q) → M3.1 b 4 = s.2.2.2.2 → (∀ c, c < 36 → M3.1 (b + 5) c = 0) → M3.1 b 5 = drk W s → M3.1 b 6 = rnn W s → (M3.1 b 7 = 0 ∧ ¬ 0 < drk W s ∧ ¬ Chg W s 36 ∨ M3.1 b 7 = 1 ∧ (0 < drk W s ∨ Chg W s 36)) → (Kp (PC W.1 b) M (wI M3 b 4 (hr1 (M3.1 b 4))) ∧ VS W.1 b (wI M3 b 4 (hr1 (M3.1 b 4))) (stp W s) ∧ (∀ i, i < 36 → (wI M3 b 4 (hr1 (M3.1 b 4))).1 (b + 5) i = 0) ∧ (wI M3 b 4 (hr1 (M3.1 b 4))).1 b 5 = drk W s ∧ (wI M3 b 4 (hr1 (M3.1 b 4))).1 b 6 = rnn W s ∧ ((wI M3 b 4 (hr1 (M3.1 b 4))).1 b 7 = 0 ∧ ¬ 0 < drk W s ∧ ¬ Chg W s 36 ∨ (wI M3 b 4 (hr1 (M3.1 b 4))).1 b 7 = 1 ∧ (0 < drk W s ∨ Chg W s 36))) := fun M3 K g1 g2 g3 g4 g5 g6 g7 g8 g9 => by
    refine ⟨K.tr (Kp.w _ _ (by unfold PC; omega)), ⟨fun c hc => ?_, fun c hc => ?_, fun q hq => ?_, fun q hq => ?_, ?_⟩, fun c hc => ?_, ?_, ?_, ?_⟩
    · rw [wI_1, if_neg (by omega)]; exact g1 c hc
    · rw [wI_1, if_neg (by omega)]; exact g2 c hc
    · rw [wI_1, if_neg (by omega)]; exact g3 q hq
    · rw [wI_1, if_neg (by omega)]; exact g4 q hq
    · rw [wI_1, if_pos rfl, upd_a, if_pos rfl, g5]; rfl
    · rw [wI_1, if_neg (by omega)]; exact g6 c hc
    · rw [wI_1, if_pos rfl, upd_a, if_neg (by omega)]; exact g7
    · rw [wI_1, if_pos rfl, upd_a, if_neg (by omega)]; exact g8
    · rw [wI_1, if_pos rfl, upd_a, if_neg (by omega)]; exact g9
  obtain ⟨r, hr1_, hr2, hr3⟩ := rn_ok hW hs 36 (Nat.le_refl _)
  by_cases r0 : r = 0
  · have o0 := hr3 r0
    have c0 := cm_all0 (B := bl W) 36 o0
    have same : ∀ c, c < 36 → lk W s c = (mid W s).1 c := fun c hc => by
      obtain ⟨a, ha, ea⟩ := r9999.mp (hm.1 c hc)
      show mnI ((mid W s).1 c + cm (out W s) (bl W) 36 c) 9999 = _
      rw [c0, Int32.add_zero, ea]
      have : (9999 : Int32) = nI 9999 := rfl
      rw [this, mnI_n (by omega) (by omega), Nat.min_eq_left ha]
    have nc : ¬ Chg W s 36 := fun ⟨c, hc, hne⟩ => hne (same c hc)
    have := fin M2 K12 (fun c hc => by rw [same c hc]; exact V2.1 c hc) V2.2.1 V2.2.2.1 V2.2.2.2.1 V2.2.2.2.2 (fun c hc => by rw [r3 c hc, c0]) f5 r4 (by
      rw [f7]
      rcases d5 with ⟨w1, w2⟩ | ⟨w1, w2⟩
      · exact Or.inl ⟨w1, w2, nc⟩
      · exact Or.inr ⟨w1, Or.inl w2⟩)
    refine ⟨_, ?_, this⟩
    have r4' : M2.1 b 6 = 0 := by rw [r4]; show rn (out W s) 36 = 0; rw [hr2, r0]; rfl
    rw [fStreet_pass, d1, Option.bind_some, r1, Option.bind_some, r4', if_pos (by decide), hour]
  · obtain ⟨M3, y1, y2, y3, y4, y5⟩ := lay_c hW hs hb V2.1 r3 (0 < drk W s) (by rw [f7]; exact d5)
    have := fin M3 (K12.tr (y2.mono (fun a i h => by unfold PY at h; unfold PC; omega))) y3 (fun c hc => by rw [y2.1 _ _ (by unfold PY; omega)]; exact V2.2.1 c hc) (fun c hc => by rw [y2.1 _ _ (by unfold PY; omega)]; exact V2.2.2.1 c hc) (fun c hc => by rw [y2.1 _ _ (by unfold PY; omega)]; exact V2.2.2.2.1 c hc) (by rw [y2.1 _ _ (by unfold PY; omega)]; exact V2.2.2.2.2) y4 (by rw [y2.1 _ _ (by unfold PY; omega)]; exact f5) (by rw [y2.1 _ _ (by unfold PY; omega)]; exact r4) y5
    refine ⟨_, ?_, this⟩
    have r4' : M2.1 b 6 = nI r := r4.trans hr2
    rw [fStreet_pass, d1, Option.bind_some, r1, Option.bind_some, r4', if_neg (nI_nle (by omega) (by omega)), y1, Option.bind_some, hour]
