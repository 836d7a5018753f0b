/-! AN HOUR, as a function of what stands -/
abbrev St : Type := (Nat → Int32) × (Nat → Int32) × (Nat → Int32) × (Nat → Int32) × Int32
abbrev Wd : Type := Nat × (Nat → Int32) × (Nat → Int32) × (Nat → Int32) × Lines
def okS (p : Nat) (s : St) : Prop := (∀ i, i < 36 → rng (s.1 i) 9999) ∧ (∀ i, i < 36 → rng (s.2.1 i) 2) ∧ (∀ q, q < p → ∃ c, c < 36 ∧ s.2.2.1 q = nI c) ∧ (∀ q, q < p → rng (s.2.2.2.1 q) 9999) ∧ rng s.2.2.2.2 23
def VS (p b : Nat) (M : Mem) (s : St) : Prop := (∀ i, i < 36 → M.1 (b + 1) i = s.1 i) ∧ (∀ i, i < 36 → M.1 (b + 2) i = s.2.1 i) ∧ (∀ q, q < p → M.1 (b + 3) q = s.2.2.1 q) ∧ (∀ q, q < p → M.1 (b + 4) q = s.2.2.2.1 q) ∧ M.1 b 4 = s.2.2.2.2
def VM (p : Nat) (M : Mem) (s : St) : Prop := (∀ i, i < 36 → M.1 68 i = s.1 i) ∧ (∀ i, i < 36 → M.1 69 i = s.2.1 i) ∧ (∀ q, q < p → M.1 70 q = s.2.2.1 q) ∧ (∀ q, q < p → M.1 70 (24 + q) = s.2.2.2.1 q) ∧ M.1 66 5 = s.2.2.2.2
def CW (W : Wd) (M : Mem) : Prop := M.1 2 4 = nI W.1 ∧ (∀ i, i < 36 → M.1 3 i = W.2.1 i) ∧ (∀ q, q < W.1 → M.1 5 q = W.2.2.1 q) ∧ (∀ q, q < W.1 → M.1 6 q = W.2.2.2.1 q) ∧ (∀ c, c < 36 → M.1 4 c = blw W.2.1 c) ∧ LawCl W.2.2.2.2 M
def MW (W : Wd) (M : Mem) : Prop := M.1 66 3 = nI W.1 ∧ (∀ i, i < 36 → M.1 67 i = W.2.1 i) ∧ (∀ q, q < W.1 → M.1 70 (8 + q) = W.2.2.1 q) ∧ (∀ q, q < W.1 → M.1 70 (16 + q) = W.2.2.2.1 q) ∧ LawMd W.2.2.2.2 M
def okW (W : Wd) : Prop := W.1 ≤ 8 ∧ (∀ q, q < W.1 → rng (W.2.2.1 q) 99) ∧ okL W.2.2.2.2
theorem CW.kp {P : Nat → Nat → Prop} {W : Wd} {M M1 : Mem} (h : CW W M) (k : Kp P M M1) (hP : ∀ a i, P a i → ¬ ((2 ≤ a ∧ a ≤ 6) ∨ (a = 7 ∧ i = 6) ∨ a = 9 ∨ a = 10)) : CW W M1 := by
  obtain ⟨h1, h2, h3, h4, h5, h6, h7, h8⟩ := h
  have f : ∀ a, ((2 ≤ a ∧ a ≤ 6) ∨ a = 9 ∨ a = 10) → M1.1 a = M.1 a := fun a ha => k.f (fun i z => hP a i z (by omega))
  have hA : M.2.2.2 = 9 ∨ M.2.2.2 = 10 := by rcases h6 with z | z <;> simp [z]
  refine ⟨by rw [f 2 (by omega)]; exact h1, by rw [f 3 (by omega)]; exact h2, by rw [f 5 (by omega)]; exact h3, by rw [f 6 (by omega)]; exact h4, by rw [f 4 (by omega)]; exact h5, by rw [k.2]; exact h6, ?_, ?_⟩
  · rw [k.1 7 6 (fun z => hP 7 6 z (by omega))]; exact h7
  · rw [k.2, f _ (by omega)]; exact h8
theorem MW.kp {P : Nat → Nat → Prop} {W : Wd} {M M1 : Mem} (h : MW W M) (k : Kp P M M1) (hP : ∀ a i, P a i → ¬ ((a = 66 ∧ (i = 3 ∨ i = 8 ∨ i = 9)) ∨ a = 67 ∨ (a = 70 ∧ 8 ≤ i ∧ i < 24) ∨ (72 ≤ a ∧ a ≤ 75))) (hp : W.1 ≤ 8) : MW W M1 := by
  obtain ⟨h1, h2, h3, h4, h5, h6⟩ := h
  have f : ∀ a, (a = 67 ∨ (72 ≤ a ∧ a ≤ 75)) → M1.1 a = M.1 a := fun a ha => k.f (fun i z => hP a i z (by omega))
  have g : ∀ a i, (a = 66 ∧ (i = 3 ∨ i = 8 ∨ i = 9)) ∨ (a = 70 ∧ 8 ≤ i ∧ i < 24) → M1.1 a i = M.1 a i := fun a i ha => k.1 a i (fun z => hP a i z (by omega))
  refine ⟨by rw [g 66 3 (by omega)]; exact h1, by rw [f 67 (by omega)]; exact h2, fun q hq => by rw [g 70 (8 + q) (by omega)]; exact h3 q hq, fun q hq => by rw [g 70 (16 + q) (by omega)]; exact h4 q hq, by rw [g 66 8 (by omega)]; exact h5, ?_⟩
  rw [g 66 9 (by omega), f 72 (by omega), f 73 (by omega), f 74 (by omega), f 75 (by omega)]
  exact h6
/-! people drink -/
def dr (W : Wd) (ce l h : Nat → Int32) : Nat → (Nat → Int32) × (Nat → Int32) × Int32
  | 0 => (l, h, 0)
  | k + 1 => if W.2.2.2.1 k = 1 then dr W ce l h k else (upd (dr W ce l h k).1 (ix (ce k)) ((dr W ce l h k).1 (ix (ce k)) - mnI (W.2.2.1 k) (mnI ((dr W ce l h k).1 (ix (ce k))) (9999 - (dr W ce l h k).2.1 k))), upd (dr W ce l h k).2.1 k ((dr W ce l h k).2.1 k + mnI (W.2.2.1 k) (mnI ((dr W ce l h k).1 (ix (ce k))) (9999 - (dr W ce l h k).2.1 k))), (dr W ce l h k).2.2 + mnI (W.2.2.1 k) (mnI ((dr W ce l h k).1 (ix (ce k))) (9999 - (dr W ce l h k).2.1 k)))
theorem mnI_n {a b : Nat} (ha : a < 2 ^ 31) (hb : b < 2 ^ 31) : mnI (nI a) (nI b) = nI (min a b) := by
  unfold mnI
  by_cases q : b < a
  · rw [if_pos ((nI_ltI hb ha).mpr q), Nat.min_eq_right (by omega)]
  · rw [if_neg (fun z => q ((nI_ltI hb ha).mp z)), Nat.min_eq_left (by omega)]
theorem rngN {x m : Int32} (n : Nat) (hn : n < 2 ^ 31) (e : nI n = m) : rng x m ↔ ∃ a : Nat, a ≤ n ∧ x = nI a := by
  subst e
  constructor
  · rintro ⟨h1, h2⟩
    obtain ⟨j, hj, rfl⟩ := nI_of (Int32.not_lt.mpr h1)
    exact ⟨j, (nI_leI hj hn).mp h2, rfl⟩
  · rintro ⟨a, ha, rfl⟩
    exact ⟨nI_pos' (by omega), nI_le ha hn⟩
theorem r9999 {x : Int32} : rng x 9999 ↔ ∃ a : Nat, a ≤ 9999 ∧ x = nI a := rngN 9999 (by omega) rfl
theorem r99 {x : Int32} : rng x 99 ↔ ∃ a : Nat, a ≤ 99 ∧ x = nI a := rngN 99 (by omega) rfl
theorem sub9999 {a : Nat} (h : a ≤ 9999) : 9999 - nI a = nI (9999 - a) := by
  have : (9999 : Int32) = nI 9999 := rfl
  rw [this, nI_sub h]
theorem dr_ok {W : Wd} (hW : okW W) {s : St} (hs : okS W.1 s) : ∀ k, k ≤ W.1 → (∀ i, i < 36 → rng ((dr W s.2.2.1 s.1 s.2.2.2.1 k).1 i) 9999) ∧ (∀ q, q < W.1 → rng ((dr W s.2.2.1 s.1 s.2.2.2.1 k).2.1 q) 9999) ∧ ∃ d : Nat, d ≤ 99 * k ∧ (dr W s.2.2.1 s.1 s.2.2.2.1 k).2.2 = nI d := by
  intro k
  induction k with
  | zero => intro _; exact ⟨hs.1, hs.2.2.2.1, 0, Nat.zero_le _, rfl⟩
  | succ k ih =>
    intro hk
    obtain ⟨i1, i2, d, i3, i4⟩ := ih (by omega)
    rw [dr]
    by_cases q : W.2.2.2.1 k = 1
    · rw [if_pos q]; exact ⟨i1, i2, d, by omega, i4⟩
    · rw [if_neg q]
      obtain ⟨c, hc, ec⟩ := hs.2.2.1 k (by omega)
      obtain ⟨e, he, ee⟩ := r99.mp (hW.2.1 k (by omega))
      obtain ⟨a, ha, ea⟩ := r9999.mp (i1 c hc)
      obtain ⟨g, hg, eg⟩ := r9999.mp (i2 k (by omega))
      rw [ec, ix_n (by omega), ee, ea, eg, sub9999 hg, mnI_n (by omega) (by omega), mnI_n (by omega) (by omega), i4]
      have t1 : min e (min a (9999 - g)) ≤ a := by omega
      have t2 : min e (min a (9999 - g)) ≤ 9999 - g := by omega
      have t3 : min e (min a (9999 - g)) ≤ 99 := by omega
      rw [nI_sub t1, nI_add, nI_add]
      refine ⟨fun i hi => ?_, fun j hj => ?_, _, ?_, rfl⟩
      · dsimp only
        rw [upd_a]
        by_cases z : i = c
        · rw [if_pos z]; exact r9999.mpr ⟨_, by omega, rfl⟩
        · rw [if_neg z]; exact i1 i hi
      · dsimp only
        rw [upd_a]
        by_cases z : j = k
        · rw [if_pos z]; exact r9999.mpr ⟨_, by omega, rfl⟩
        · rw [if_neg z]; exact i2 j hj
      · omega
/-- the middle of an hour: all have drunk -/
def mid (W : Wd) (s : St) : St := ((dr W s.2.2.1 s.1 s.2.2.2.1 W.1).1, s.2.1, s.2.2.1, (dr W s.2.2.1 s.1 s.2.2.2.1 W.1).2.1, s.2.2.2.2)
def drk (W : Wd) (s : St) : Int32 := (dr W s.2.2.1 s.1 s.2.2.2.1 W.1).2.2
theorem mid_ok {W : Wd} (hW : okW W) {s : St} (hs : okS W.1 s) : okS W.1 (mid W s) := by
  obtain ⟨h1, h2, -⟩ := dr_ok hW hs W.1 (Nat.le_refl _)
  exact ⟨h1, hs.2.1, hs.2.2.1, h2, hs.2.2.2.2⟩
def PD (p b a i : Nat) : Prop := a = b + 1 ∨ (a = b + 4 ∧ i < p) ∨ (a = b ∧ 5 ≤ i ∧ i ≤ 7)
theorem drink_c {W : Wd} (hW : okW W) {s : St} (hs : okS W.1 s) {M : Mem} {b : Nat} (hb : 36 ≤ b ∧ b ≤ 60) (hC : CW W M) (hV : VS W.1 b M s) : ∃ M1, fStreet_drink M b = some M1 ∧ Kp (PD W.1 b) M M1 ∧ VS W.1 b M1 (mid W s) ∧ M1.1 b 5 = drk W s ∧ (M1.1 b 7 = 0 ∧ ¬ 0 < drk W s ∨ M1.1 b 7 = 1 ∧ 0 < drk W s) := by
  have p8 := hW.1
  obtain ⟨r, e, K, l1, l2, l3⟩ := loop0 (σ := Mem × Int32) (fun n t => fStreet_drink_L7 n t.1 b t.2) (fun i t => t.2 = nI i ∧ Kp (PD W.1 b) M t.1 ∧ (∀ j, j < 36 → t.1.1 (b + 1) j = (dr W s.2.2.1 s.1 s.2.2.2.1 i).1 j) ∧ (∀ q, q < W.1 → t.1.1 (b + 4) q = (dr W s.2.2.1 s.1 s.2.2.2.1 i).2.1 q) ∧ t.1.1 b 5 = (dr W s.2.2.1 s.1 s.2.2.2.1 i).2.2) (fun r => Kp (PD W.1 b) M r ∧ (∀ j, j < 36 → r.1 (b + 1) j = (dr W s.2.2.1 s.1 s.2.2.2.1 W.1).1 j) ∧ (∀ q, q < W.1 → r.1 (b + 4) q = (dr W s.2.2.1 s.1 s.2.2.2.1 W.1).2.1 q) ∧ r.1 b 5 = (dr W s.2.2.1 s.1 s.2.2.2.1 W.1).2.2) W.1 (fu_lt (by omega)) (wI M b 5 0, 0)
    ⟨rfl, Kp.w M 0 (by unfold PD; omega), fun j hj => by rw [wI_1, if_neg (by omega)]; exact hV.1 j hj, fun q hq => by rw [wI_1, if_neg (by omega)]; exact hV.2.2.2.1 q hq, by rw [wI_1, if_pos rfl, upd_a, if_pos rfl]; rfl⟩
    (fun n i t hi hP => by
      obtain ⟨t1, t2⟩ := t
      obtain ⟨q1, K, l1, l2, l3⟩ := hP
      dsimp only at q1 K l1 l2 l3
      subst q1
      right
      have hp : t1.1 2 4 = nI W.1 := by rw [K.1 2 4 (by unfold PD; omega)]; exact hC.1
      have h0 : ¬ nI W.1 ≤ nI i := nI_ge hi (by omega)
      have hsk : t1.1 6 i = W.2.2.2.1 i := by rw [K.1 6 i (by unfold PD; omega)]; exact hC.2.2.2.1 i hi
      have hth : t1.1 5 i = W.2.2.1 i := by rw [K.1 5 i (by unfold PD; omega)]; exact hC.2.2.1 i hi
      have hce : t1.1 (b + 3) i = s.2.2.1 i := by rw [K.1 (b + 3) i (by unfold PD; omega)]; exact hV.2.2.1 i hi
      have i8 : i < 8 := by omega
      obtain ⟨c, hc, ec⟩ := hs.2.2.1 i hi
      have F0 : fStreet_drink_L7 (n + 1) t1 b (nI i) = fStreet_drink_L7_F (fStreet_drink_L7 n) t1 b (nI i) := rfl
      by_cases z : W.2.2.2.1 i = 1
      · refine ⟨(t1, nI (i + 1)), ⟨rfl, K, ?_, ?_, ?_⟩, ?_⟩
        · rw [dr, if_pos z]; exact l1
        · rw [dr, if_pos z]; exact l2
        · rw [dr, if_pos z]; exact l3
        · dsimp only
          rw [F0]
          simp only [fStreet_drink_L7_F, hp, h0, if_false, rdI_n i8 (by omega : 8 ≤ 1000), Option.bind_some, hsk, z, if_true, nI_1]
      · generalize et : mnI (W.2.2.1 i) (mnI ((dr W s.2.2.1 s.1 s.2.2.2.1 i).1 c) (9999 - (dr W s.2.2.1 s.1 s.2.2.2.1 i).2.1 i)) = t
        have hdr : dr W s.2.2.1 s.1 s.2.2.2.1 (i + 1) = (upd (dr W s.2.2.1 s.1 s.2.2.2.1 i).1 c ((dr W s.2.2.1 s.1 s.2.2.2.1 i).1 c - t), upd (dr W s.2.2.1 s.1 s.2.2.2.1 i).2.1 i ((dr W s.2.2.1 s.1 s.2.2.2.1 i).2.1 i + t), (dr W s.2.2.1 s.1 s.2.2.2.1 i).2.2 + t) := by
          rw [dr, if_neg z, ec, ix_n (by omega), et]
        have nb1 : ¬ b + 1 = b + 4 := by omega
        have nb2 : ¬ b + 4 = b + 1 := by omega
        have nb3 : ¬ b = b + 1 := by omega
        have nb4 : ¬ b = b + 4 := by omega
        have nb5 : ¬ b + 1 = b := by omega
        have nb6 : ¬ b + 4 = b := by omega
        refine ⟨(wI (wI (wI t1 (b + 1) c (t1.1 (b + 1) c - t)) (b + 4) i (t1.1 (b + 4) i + t)) b 5 (t1.1 b 5 + t), nI (i + 1)), ⟨rfl, ((K.tr (Kp.w _ _ (by unfold PD; omega))).tr (Kp.w _ _ (by unfold PD; omega))).tr (Kp.w _ _ (by unfold PD; omega)), fun j hj => ?_, fun q hq => ?_, ?_⟩, ?_⟩
        · dsimp only
          rw [hdr, wI_1, if_neg nb5, wI_1, if_neg nb1, wI_1, if_pos rfl, upd_a, l1 c hc, l1 j hj]
          rfl
        · dsimp only
          rw [hdr, wI_1, if_neg nb6, wI_1, if_pos rfl, wI_1, if_neg nb2, upd_a, l2 i hi, l2 q hq]
          rfl
        · dsimp only
          rw [hdr, wI_1, if_pos rfl, upd_a, if_pos rfl, l3]
        · dsimp only
          rw [F0]
          simp only [fStreet_drink_L7_F, hp, h0, if_false, rdI_n i8 (by omega : 8 ≤ 1000), Option.bind_some, hsk, z, hce, ec, hth, rdI_n hc (by omega : 36 ≤ 1000), l1 c hc, l2 i hi, et, stI_n hc (by omega : 36 ≤ 1000), stI_n i8 (by omega : 8 ≤ 1000), nI_1]
          rw [wI_1, if_neg nb2, l2 i hi, wI_1, if_neg nb4, wI_1, if_neg nb3])
    (fun n t hP => by
      obtain ⟨t1, t2⟩ := t
      obtain ⟨q1, K, l1, l2, l3⟩ := hP
      dsimp only at q1 K l1 l2 l3
      subst q1
      have hp : t1.1 2 4 = nI W.1 := by rw [K.1 2 4 (by unfold PD; omega)]; exact hC.1
      refine ⟨t1, ?_, K, l1, l2, l3⟩
      show fStreet_drink_L7_F (fStreet_drink_L7 n) t1 b (nI W.1) = _
      simp only [fStreet_drink_L7_F, hp, Int32.le_refl, if_true])
  have V : ∀ x : Int32, VS W.1 b (wI r b 7 x) (mid W s) := fun x => by
    refine ⟨fun j hj => ?_, fun j hj => ?_, fun q hq => ?_, fun q hq => ?_, ?_⟩
    · rw [wI_1, if_neg (by omega)]; exact l1 j hj
    · rw [wI_1, if_neg (by omega), K.1 _ _ (by unfold PD; omega)]; exact hV.2.1 j hj
    · rw [wI_1, if_neg (by omega), K.1 _ _ (by unfold PD; omega)]; exact hV.2.2.1 q hq
    · rw [wI_1, if_neg (by omega)]; exact l2 q hq
    · rw [wI_1, if_pos rfl, upd_a, if_neg (by omega), K.1 _ _ (by unfold PD; omega)]; exact hV.2.2.2.2
  have e' : fStreet_drink_L7 FU (wI M b 5 0) b 0 = some r := e
  have l3' : r.1 b 5 = drk W s := l3
  by_cases z : drk W s ≤ 0
  · refine ⟨wI r b 7 0, ?_, K.tr (Kp.w _ _ (by unfold PD; omega)), V 0, ?_, Or.inl ⟨?_, Int32.not_lt.mpr z⟩⟩
    · rw [fStreet_drink, e', Option.bind_some, l3', if_pos z]
      rfl
    · rw [wI_1, if_pos rfl, upd_a, if_neg (by omega)]; exact l3
    · rw [wI_1, if_pos rfl, upd_a, if_pos rfl]
  · refine ⟨wI r b 7 1, ?_, K.tr (Kp.w _ _ (by unfold PD; omega)), V 1, ?_, Or.inr ⟨?_, Int32.not_le.mp z⟩⟩
    · rw [fStreet_drink, e', Option.bind_some, l3', if_neg z]
      rfl
    · rw [wI_1, if_pos rfl, upd_a, if_neg (by omega)]; exact l3
    · rw [wI_1, if_pos rfl, upd_a, if_pos rfl]
/-! what runs out -/
def sit (ce : Nat → Int32) (c : Int32) : Nat → Int32
  | 0 => 0
  | n + 1 => if ce n = c then sit ce c n + 1 else sit ce c n
def outf (L : Lines) (l s f n o c : Int32) : Int32 := mxI 0 (mnI l (if L = [] then (if s = 1 then l - 20 else if s = 2 then l else l / 2) else lawV (nms l s f n o c) L))
def ofn (W : Wd) (s : St) (c : Nat) : Int32 := if low4 W.2.1 c = c then 0 else outf W.2.2.2.2 (s.1 c) (s.2.1 c) (W.2.1 c - W.2.1 (low4 W.2.1 c)) (sit s.2.2.1 (nI c) W.1) s.2.2.2.2 (nI c)
theorem mx_mn (a : Nat) (ha : a < 2 ^ 31) (x : Int32) : ∃ m : Nat, m ≤ a ∧ mxI 0 (mnI (nI a) x) = nI m := by
  by_cases q : x < 0
  · refine ⟨0, Nat.zero_le _, ?_⟩
    have h1 : x < nI a := Int32.lt_of_lt_of_le q (nI_pos' ha)
    have h2 : ¬ 0 < x := fun z => by grind
    unfold mxI mnI
    rw [if_pos h1, if_neg h2]
    rfl
  · obtain ⟨y, hy, rfl⟩ := nI_of q
    rw [mnI_n ha hy]
    refine ⟨min a y, Nat.min_le_left _ _, ?_⟩
    unfold mxI
    by_cases z : 0 < nI (min a y)
    · rw [if_pos z]
    · rw [if_neg z]
      have := Int32.not_lt.mp z
      have h2 : nI (min a y) ≤ nI 0 := this
      have h3 := (nI_leI (by omega) (by omega)).mp h2
      have : min a y = 0 := by omega
      rw [this]
      rfl
theorem ofn_ok {W : Wd} {s : St} (hs : okS W.1 s) {c a : Nat} (hc : c < 36) (ha : s.1 c = nI a) (h9 : a ≤ 9999) : ∃ m : Nat, m ≤ a ∧ ofn W s c = nI m := by
  unfold ofn outf
  by_cases q : low4 W.2.1 c = c
  · rw [if_pos q]; exact ⟨0, Nat.zero_le _, rfl⟩
  · rw [if_neg q, ha]
    exact mx_mn a (by omega) _
theorem sink_c {W : Wd} {M : Mem} (hC : CW W M) {c : Nat} (hc : c < 36) : fTown_isSink M (nI c) = some (if low4 W.2.1 c = c then 1 else 0) := by
  unfold fTown_isSink
  rw [rdI_n hc (by omega), Option.bind_some, hC.2.2.2.2.1 c hc, blw]
  by_cases q : low4 W.2.1 c = c
  · rw [if_pos q, if_pos q]; rfl
  · have := low4_lt (h := W.2.1) hc
    rw [if_neg q, if_neg q, if_pos (nI_pos' (by omega))]
theorem sit_c {p b : Nat} {M : Mem} (ce : Nat → Int32) (hp : p ≤ 8) (h : ∀ q, q < p → M.1 (b + 3) q = ce q) (c : Int32) : fStreet_sitting M b (nI p) c = some (sit ce c p) := by
  obtain ⟨r, e, hr⟩ := loop0 (σ := Int32 × Int32) (fun n t => fStreet_sitting_L5 n M b (nI p) c t.1 t.2) (fun i t => t = (sit ce c i, nI i)) (fun r => r = sit ce c p) p (fu_lt (by omega)) (0, 0) rfl
    (fun n i t hi hP => by
      subst hP
      right
      refine ⟨(sit ce c (i + 1), nI (i + 1)), rfl, ?_⟩
      show fStreet_sitting_L5_F (fStreet_sitting_L5 n) M b (nI p) c _ _ = _
      have h0 : ¬ nI p ≤ nI i := nI_ge hi (by omega)
      simp only [fStreet_sitting_L5_F, h0, if_false, rdI_n (show i < 8 by omega) (by omega : 8 ≤ 1000), Option.bind_some, h i hi, nI_1, sit]
      by_cases z : ce i = c <;> simp [z])
    (fun n t hP => by
      subst hP
      refine ⟨_, ?_, rfl⟩
      show fStreet_sitting_L5_F (fStreet_sitting_L5 n) M b (nI p) c _ _ = _
      simp only [fStreet_sitting_L5_F, Int32.le_refl, if_true])
  subst hr
  have e' : fStreet_sitting_L5 FU M b (nI p) c 0 0 = some (sit ce c p) := e
  rw [fStreet_sitting, e', Option.bind_some]
theorem out_c {W : Wd} (hW : okW W) {s : St} (hs : okS W.1 s) {M : Mem} {b : Nat} (hC : CW W M) (hV : VS W.1 b M s) {c : Nat} (hc : c < 36) : ∃ M1, fStreet_outOf M b (nI c) = some (ofn W s c, M1) ∧ Kp PG M M1 := by
  have k36 : (36 : Nat) ≤ 1000 := by omega
  have e1 : M.1 (b + 1) c = s.1 c := hV.1 c hc
  have e2 : M.1 (b + 2) c = s.2.1 c := hV.2.1 c hc
  obtain ⟨a, ha, ea⟩ := r9999.mp (hs.1 c hc)
  unfold fStreet_outOf ofn
  rw [rdI_n hc k36, Option.bind_some, sink_c hC hc, Option.bind_some, e1]
  by_cases q : low4 W.2.1 c = c
  · rw [if_pos q, if_pos q]
    exact ⟨M, rfl, Kp.rf _ _⟩
  · rw [if_neg q, if_neg q, if_pos rfl]
    have hlow := low4_lt (h := W.2.1) hc
    by_cases hL : W.2.2.2.2 = []
    · have z : fLaw_isTold M = 0 := by
        unfold fLaw_isTold
        rw [hC.2.2.2.2.2.2.1, hL, flC_nil]
        rfl
      rw [z, if_neg (by decide), rdI_n hc k36, Option.bind_some, e2]
      refine ⟨M, ?_, Kp.rf _ _⟩
      congr 2
      unfold outf fStreet_withoutText
      rw [if_pos hL, ea]
      by_cases s1 : s.2.1 c = 1
      · rw [if_neg (fun y => y s1), if_pos s1]
        congr 1
        unfold mnI
        rw [if_pos]
        have : nI a ≤ 9999 := (leR (b := 9999) 9999 rfl (by omega) (by omega)).mpr ha
        have h0 : 0 ≤ nI a := nI_pos' (by omega)
        grind
      · rw [if_pos s1, if_neg s1]
        by_cases s2 : s.2.1 c = 2
        · rw [if_neg (fun y => y s2), if_pos s2, mnI_n (by omega) (by omega), Nat.min_self]
          obtain ⟨m, hm, em⟩ := mx_mn a (by omega) (nI a)
          unfold mxI
          by_cases y : 0 < nI a
          · rw [if_pos y]
          · rw [if_neg y]
            have h2 : nI a ≤ nI 0 := Int32.not_lt.mp y
            have h3 := (nI_leI (by omega) (by omega)).mp h2
            have : a = 0 := by omega
            rw [this]
            rfl
        · rw [if_pos s2, if_neg s2]
          have d2 : nI a / 2 = nI (a / 2) := pk_div (d := 2) (by omega) (by omega) (by omega)
          rw [d2, mnI_n (by omega) (by omega), Nat.min_eq_right (Nat.div_le_self a 2)]
          unfold mxI
          by_cases y : 0 < nI (a / 2)
          · rw [if_pos y]
          · rw [if_neg y]
            have h2 : nI (a / 2) ≤ nI 0 := Int32.not_lt.mp y
            have h3 := (nI_leI (by omega) (by omega)).mp h2
            have : a / 2 = 0 := by omega
            rw [this]
            rfl
    · have z : fLaw_isTold M = 1 := by
        unfold fLaw_isTold
        rw [hC.2.2.2.2.2.2.1]
        rw [if_neg (nI_nle (flC_pos hL 0) (by have := hW.2.2.2.2.1; omega))]
      have e4 : M.1 4 c = nI (low4 W.2.1 c) := by rw [hC.2.2.2.2.1 c hc, blw, if_neg q]
      rw [z, if_pos (by decide), rdI_n hc k36, Option.bind_some, rdI_n hc k36, Option.bind_some, e4, rdI_n hlow k36, Option.bind_some, rdI_n hc k36, Option.bind_some, hC.2.1 c hc, hC.2.1 _ hlow, e2, hC.1, sit_c s.2.2.1 hW.1 hV.2.2.1 (nI c), Option.bind_some, hV.2.2.2.2]
      obtain ⟨M1, g1, g2⟩ := gives_ok W.2.2.2.2 hW.2.2 M hC.2.2.2.2.2 (s.1 c) (s.2.1 c) (W.2.1 c - W.2.1 (low4 W.2.1 c)) (sit s.2.2.1 (nI c) W.1) s.2.2.2.2 (nI c)
      refine ⟨M1, ?_, g2⟩
      rw [g1, Option.bind_some]
      congr 2
      unfold outf
      rw [if_neg hL, mnI_c]
