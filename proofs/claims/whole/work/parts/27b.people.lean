/-! PEOPLE FROM A ROW -/
theorem nI_sub {a b : Nat} (h : b ≤ a) : nI a - nI b = nI (a - b) := by
  have : nI a = nI (a - b) + nI b := by rw [nI_add, Nat.sub_add_cancel h]
  rw [this, Int32.add_sub_cancel]
theorem nI_mul (a b : Nat) : nI a * nI b = nI (a * b) := (Int32.ofNat_mul a b).symm
theorem part_n (M : Mem) (s k a m : Nat) (hs : s < 6) (h : M.1 25 s = nI k) (hk : k ≤ 60) (ha : a < 2 ^ 31) (hm : m < 2 ^ 31) : fShelves_hasPart M (nI s) (nI a) (nI m) = some (if a + m ≤ k then 1 else 0) := by
  simp only [fShelves_hasPart, nI_pos ha, nI_pos hm, if_false, rdI_n hs (by omega : 6 ≤ 1000), h, Option.bind_some, nI_ltI (show k < 2 ^ 31 by omega) ha]
  by_cases q : k < a
  · have : ¬ a + m ≤ k := by omega
    simp [q, this]
  · rw [if_neg q, nI_sub (by omega)]
    simp only [nI_ltI (show k - a < 2 ^ 31 by omega) hm]
    by_cases r : k - a < m
    · have : ¬ a + m ≤ k := by omega
      simp [r, this]
    · have : a + m ≤ k := by omega
      simp [r, this]
theorem part_neg (M : Mem) (s : Nat) (x y : Int32) (h : x < 0) : fShelves_hasPart M (nI s) x y = some 0 := by
  simp only [fShelves_hasPart, h, if_true]
def ent (row : Nat → Int64) (a : Nat) : Ent := fun j => ((row (a + 3 * j)).toInt32, (row (a + 3 * j + 1)).toInt32, (row (a + 3 * j + 2)).toInt32)
def good (row : Nat → Int64) (a k : Nat) (j : Nat) : Prop := a + 3 * j + 3 ≤ k ∧ okE (ent row a j)
theorem cell_same (x : Int32) : (fSh_isCell x = 0) ↔ (fMd_isCell x = 0) := by
  rcases cell_cases x with ⟨h1, h2⟩ | ⟨c, _, _, h1, h2⟩ <;> rw [h1, h2]
theorem admit_yes {M M2 : Mem} {a1 p a : Nat} {r : Int32} (h : M.1 2 4 = nI p) (hp : p < 8) (ha : a + 3 ≤ 60) (hE : okE ((M.2.1 a1 a).toInt32, (M.2.1 a1 (a + 1)).toInt32, (M.2.1 a1 (a + 2)).toInt32)) (hs : fWorld_seated M (M.2.1 a1 a).toInt32 (M.2.1 a1 (a + 1)).toInt32 (M.2.1 a1 (a + 2)).toInt32 = some (r, M2)) : fWorld_admits M a1 (nI a) = some (1, M2) := by
  obtain ⟨o1, o2, o3⟩ := hE
  have o1' : ¬ fSh_isCell (M.2.1 a1 a).toInt32 = 0 := fun q => o1 ((cell_same _).mp q)
  have l8 : nI p < 8 := (nI_ltI (b := 8) (by omega) (by omega)).mpr hp
  have e1 : nI a + 1 = nI (a + 1) := nI_1 a
  have e2 : nI a + 2 = nI (a + 2) := nI_add a 2
  have f4 : ∀ v, fWorld_isWithin M v 4 = some (fMd_within v 0 99) := fun v => (fit_ok M v 4 (by omega)).1
  have f5 : ∀ v, fWorld_isWithin M v 5 = some (fMd_within v 0 1) := fun v => (fit_ok M v 5 (by omega)).1
  have z : fWorld_isCrowded M = 0 := by unfold fWorld_isCrowded; rw [h, if_pos l8]
  have o2' : ¬ fMd_within (M.2.1 a1 (a + 1)).toInt32 0 99 = 0 := o2
  have o3' : ¬ fMd_within (M.2.1 a1 (a + 2)).toInt32 0 1 = 0 := o3
  simp only [fWorld_admits, e1, e2, rdL_n (show a < 60 by omega) (by omega : 60 ≤ 1000), rdL_n (show a + 1 < 60 by omega) (by omega : 60 ≤ 1000), rdL_n (show a + 2 < 60 by omega) (by omega : 60 ≤ 1000), Option.bind_some, z, f4, f5, o1', o2', o3', not_true_eq_false, not_false_eq_true, if_false, if_true, hs]
theorem admit_no {M : Mem} {a1 p a : Nat} (h : M.1 2 4 = nI p) (hp : p ≤ 8) (ha : a + 3 ≤ 60) (hE : p = 8 ∨ ¬ okE ((M.2.1 a1 a).toInt32, (M.2.1 a1 (a + 1)).toInt32, (M.2.1 a1 (a + 2)).toInt32)) : fWorld_admits M a1 (nI a) = some (0, M) := by
  have e1 : nI a + 1 = nI (a + 1) := nI_1 a
  have e2 : nI a + 2 = nI (a + 2) := nI_add a 2
  have f4 : ∀ v, fWorld_isWithin M v 4 = some (fMd_within v 0 99) := fun v => (fit_ok M v 4 (by omega)).1
  have f5 : ∀ v, fWorld_isWithin M v 5 = some (fMd_within v 0 1) := fun v => (fit_ok M v 5 (by omega)).1
  simp only [fWorld_admits, e1, e2, rdL_n (show a < 60 by omega) (by omega : 60 ≤ 1000), rdL_n (show a + 1 < 60 by omega) (by omega : 60 ≤ 1000), rdL_n (show a + 2 < 60 by omega) (by omega : 60 ≤ 1000), Option.bind_some, f4, f5, cell_same]
  by_cases c : p = 8
  · have z : fWorld_isCrowded M = 1 := by
      unfold fWorld_isCrowded
      rw [h, c, if_neg (by decide)]
    simp [z]
  · have l8 : nI p < 8 := (nI_ltI (b := 8) (by omega) (by omega)).mpr (by omega)
    have z : fWorld_isCrowded M = 0 := by unfold fWorld_isCrowded; rw [h, if_pos l8]
    have hE2 := hE.resolve_left c
    unfold okE at hE2
    dsimp only at hE2
    simp only [z, not_true_eq_false, if_false]
    by_cases q1 : fMd_isCell (M.2.1 a1 a).toInt32 = 0
    · simp [q1]
    · by_cases q2 : fMd_within (M.2.1 a1 (a + 1)).toInt32 0 99 = 0
      · simp [q1, q2]
      · by_cases q3 : fMd_within (M.2.1 a1 (a + 2)).toInt32 0 1 = 0
        · simp [q1, q2, q3]
        · exact absurd ⟨q1, q2, q3⟩ hE2
/-- how many come -/
def cameQ (row : Nat → Int64) (a k p N m : Nat) : Prop := (∀ j, j < m → good row a k j) ∧ p + m ≤ 8 ∧ m ≤ N ∧ (m = N ∨ p + m = 8 ∨ ¬ good row a k m)
theorem came_uniq {row : Nat → Int64} {a k p N m m' : Nat} (h : cameQ row a k p N m) (h' : cameQ row a k p N m') : m = m' := by
  obtain ⟨a1, a2, a3, a4⟩ := h
  obtain ⟨b1, b2, b3, b4⟩ := h'
  rcases Nat.lt_trichotomy m m' with q | q | q
  · rcases a4 with z | z | z
    · omega
    · omega
    · exact absurd (b1 m q) z
  · exact q
  · rcases b4 with z | z | z
    · omega
    · omega
    · exact absurd (a1 m' q) z
theorem came_c (M : Mem) (s k a p N : Nat) (hs : s < 6) (hk : M.1 25 s = nI k) (k60 : k ≤ 60) (ha : a ≤ 60) (hN : N ≤ 8) (hp : M.1 2 4 = nI p) (p8 : p ≤ 8) : ∃ (m : Nat) (M1 : Mem), cameQ (M.2.1 (27 + s)) a k p N m ∧ fSh_people_L54 FU M (nI s) (nI N) 0 (nI a) = some (M1, nI m) ∧ ClsP p m (ent (M.2.1 (27 + s)) a) M M1 := by
  obtain ⟨r, e, m, M1, rfl, h1, h2⟩ := loop0 (σ := Mem × Int32 × Int32) (fun n t => fSh_people_L54 n t.1 (nI s) (nI N) t.2.1 t.2.2) (fun i t => t.2.1 = nI i ∧ t.2.2 = nI (a + 3 * i) ∧ ClsP p i (ent (M.2.1 (27 + s)) a) M t.1 ∧ (∀ j, j < i → good (M.2.1 (27 + s)) a k j) ∧ p + i ≤ 8) (fun r => ∃ (m : Nat) (M1 : Mem), r = (M1, nI m) ∧ cameQ (M.2.1 (27 + s)) a k p N m ∧ ClsP p m (ent (M.2.1 (27 + s)) a) M M1) N (fu_lt (by omega)) (M, 0, nI a)
    ⟨rfl, rfl, ClsP.z _ hp, fun j hj => absurd hj (Nat.not_lt_zero j), p8⟩
    (fun n i t hi hP => by
      obtain ⟨t1, t2, t3⟩ := t
      obtain ⟨q1, q2, hC, hg, hpi⟩ := hP
      dsimp only at q1 q2 hC
      subst q1
      subst q2
      have h0 : ¬ nI N ≤ nI i := nI_ge hi (by omega)
      have hk1 : t1.1 25 s = nI k := by rw [hC.1.c 25 rfl (by decide)]; exact hk
      have e3 : nI (a + 3 * i) + 3 = nI (a + 3 * (i + 1)) := nI_add (a + 3 * i) 3
      have hpp : fShelves_hasPart t1 (nI s) (nI (a + 3 * i)) 3 = some (if a + 3 * i + 3 ≤ k then 1 else 0) := part_n t1 s k (a + 3 * i) 3 hs hk1 k60 (by omega) (by omega)
      have stop : fSh_people_L54_F (fSh_people_L54 n) t1 (nI s) (nI N) (nI i) (nI (a + 3 * i)) = some (t1, nI i) → ¬ (good (M.2.1 (27 + s)) a k i ∧ p + i ≠ 8) → (∃ r, fSh_people_L54 (n + 1) t1 (nI s) (nI N) (nI i) (nI (a + 3 * i)) = some r ∧ ∃ (m : Nat) (M1 : Mem), r = (M1, nI m) ∧ cameQ (M.2.1 (27 + s)) a k p N m ∧ ClsP p m (ent (M.2.1 (27 + s)) a) M M1) := fun h z => by
        refine ⟨_, h, i, t1, rfl, ⟨hg, hpi, by omega, ?_⟩, hC⟩
        by_cases y : p + i = 8
        · exact Or.inr (Or.inl y)
        · exact Or.inr (Or.inr (fun w => z ⟨w, y⟩))
      have hL : t1.2.1 (27 + s) = M.2.1 (27 + s) := by rw [hC.1.2.2]
      by_cases c1 : a + 3 * i + 3 ≤ k
      · rw [if_pos c1] at hpp
        have ho : (¬ (1 : Int32) = 0) := by decide
        by_cases c2 : okE (ent (M.2.1 (27 + s)) a i) ∧ p + i ≠ 8
        · right
          obtain ⟨M2, w1, w2⟩ := hC.s (by omega)
          have ya := admit_yes (M := t1) (M2 := M2) (a1 := 27 + s) (a := a + 3 * i) hC.2.1 (by omega) (by omega) (by rw [hL]; exact c2.1) (by rw [hL]; exact w1)
          refine ⟨(M2, nI (i + 1), nI (a + 3 * (i + 1))), ⟨rfl, rfl, w2, fun j hj => ?_, by omega⟩, ?_⟩
          · rcases Nat.lt_or_ge j i with z | z
            · exact hg j z
            · obtain rfl : j = i := by omega
              exact ⟨c1, c2.1⟩
          · show fSh_people_L54_F (fSh_people_L54 n) t1 (nI s) (nI N) (nI i) (nI (a + 3 * i)) = _
            simp only [fSh_people_L54_F, h0, if_false, hpp, Option.bind_some, ho, rdR_n hs, ya, e3, nI_1]
        · left
          have na := admit_no (M := t1) (a1 := 27 + s) (a := a + 3 * i) hC.2.1 hpi (by omega) (by
            rw [hL]
            by_cases y : p + i = 8
            · exact Or.inl y
            · exact Or.inr (fun w => c2 ⟨w, y⟩))
          refine stop ?_ (fun w => c2 ⟨w.1.2, w.2⟩)
          simp only [fSh_people_L54_F, h0, if_false, hpp, Option.bind_some, ho, rdR_n hs, na, if_true]
      · rw [if_neg c1] at hpp
        left
        refine stop ?_ (fun w => c1 w.1.1)
        simp only [fSh_people_L54_F, h0, if_false, hpp, Option.bind_some, if_true])
    (fun n t hP => by
      obtain ⟨t1, t2, t3⟩ := t
      obtain ⟨q1, q2, hC, hg, hpi⟩ := hP
      dsimp only at q1 q2 hC
      subst q1
      subst q2
      refine ⟨(t1, nI N), ?_, N, t1, rfl, ⟨hg, hpi, by omega, Or.inl rfl⟩, hC⟩
      show fSh_people_L54_F (fSh_people_L54 n) t1 (nI s) (nI N) (nI N) (nI (a + 3 * N)) = _
      simp only [fSh_people_L54_F, Int32.le_refl, if_true])
  exact ⟨m, M1, h1, e, h2⟩
theorem told_n (M : Mem) (s j : Nat) (hs : s < 6) (hj : j < 60) : fMd_toldAt M (nI s) (nI j) = some (M.2.1 90 (60 * s + j)).toInt32 := by
  have e : (60 : Int32) * nI s + nI j = nI (60 * s + j) := by
    have : (60 : Int32) = nI 60 := rfl
    rw [this, nI_mul, nI_add]
  unfold fMd_toldAt
  rw [e, rdL_n (by omega) (by omega), Option.bind_some]
theorem came_m (M : Mem) (row : Nat → Int64) (s k a p N : Nat) (hs : s < 6) (hk : M.1 89 s = nI k) (k60 : k ≤ 60) (ha : a ≤ 60) (hN : N ≤ 8) (hp : M.1 66 3 = nI p) (p8 : p ≤ 8) (hr : ∀ j, j < 60 → M.2.1 90 (60 * s + j) = row j) : ∃ (m : Nat) (M1 : Mem), cameQ row a k p N m ∧ fMd_people_L49 FU M (nI s) (nI a) (nI N) 0 0 = some (nI m, M1) ∧ MdlP p m (ent row a) M M1 := by
  obtain ⟨r, e, m, M1, rfl, h1, h2⟩ := loop0 (σ := Mem × Int32) (fun n t => fMd_people_L49 n t.1 (nI s) (nI a) (nI N) t.2 t.2) (fun i t => t.2 = nI i ∧ MdlP p i (ent row a) M t.1 ∧ (∀ j, j < i → good row a k j) ∧ p + i ≤ 8) (fun r => ∃ (m : Nat) (M1 : Mem), r = (nI m, M1) ∧ cameQ row a k p N m ∧ MdlP p m (ent row a) M M1) N (fu_lt (by omega)) (M, 0)
    ⟨rfl, MdlP.z _ hp, fun j hj => absurd hj (Nat.not_lt_zero j), p8⟩
    (fun n i t hi hP => by
      obtain ⟨t1, t2⟩ := t
      obtain ⟨q1, hC, hg, hpi⟩ := hP
      dsimp only at q1 hC
      subst q1
      have h0 : ¬ nI N ≤ nI i := nI_ge hi (by omega)
      have hk1 : t1.1 89 s = nI k := by rw [hC.1.c 89 rfl (by decide)]; exact hk
      have hL : t1.2.1 90 = M.2.1 90 := by rw [hC.1.2.2]
      have l3 : (3 : Int64) = lN 3 := rfl
      have l0 : (0 : Int64) = lN 0 := rfl
      have fe : (nI a).toInt64 + 3 * (nI i).toInt64 = lN (a + 3 * i) := by rw [nI_l (by omega), nI_l (by omega), l3, lN_mul, lN_add]
      have fe3 : lN (a + 3 * i) + 3 = lN (a + 3 * i + 3) := lN_add _ 3
      have c0 : ¬ lg_cmp (lN (a + 3 * i)) 0 < 0 := by rw [lg_cmp_lt, l0, pk_lLT (by omega) (by omega)]; omega
      have ck : (0 < lg_cmp (lN (a + 3 * i + 3)) (nI k).toInt64) ↔ k < a + 3 * i + 3 := by rw [lg_cmp_gt, nI_l (by omega), pk_lLT (by omega) (by omega)]
      have e1 : nI (a + 3 * i) + 1 = nI (a + 3 * i + 1) := nI_1 _
      have e2 : nI (a + 3 * i) + 2 = nI (a + 3 * i + 2) := nI_add _ 2
      have stop : fMd_people_L49_F (fMd_people_L49 n) t1 (nI s) (nI a) (nI N) (nI i) (nI i) = some (nI i, t1) → ¬ (good row a k i ∧ p + i ≠ 8) → (∃ r, fMd_people_L49 (n + 1) t1 (nI s) (nI a) (nI N) (nI i) (nI i) = some r ∧ ∃ (m : Nat) (M1 : Mem), r = (nI m, M1) ∧ cameQ row a k p N m ∧ MdlP p m (ent row a) M M1) := fun h z => by
        refine ⟨_, h, i, t1, rfl, ⟨hg, hpi, by omega, ?_⟩, hC⟩
        by_cases y : p + i = 8
        · exact Or.inr (Or.inl y)
        · exact Or.inr (Or.inr (fun w => z ⟨w, y⟩))
      by_cases c1 : k < a + 3 * i + 3
      · left
        refine stop ?_ (fun w => by have := w.1.1; omega)
        simp only [fMd_people_L49_F, h0, if_false, fe, fe3, c0, rdI_n hs (by omega : 6 ≤ 1000), Option.bind_some, hk1, ck, c1, if_true]
      by_cases c8 : p + i = 8
      · left
        refine stop ?_ (fun w => w.2 c8)
        have h3 : t1.1 66 3 = 8 := by rw [hC.2.1, c8]; rfl
        simp only [fMd_people_L49_F, h0, if_false, fe, fe3, c0, rdI_n hs (by omega : 6 ≤ 1000), Option.bind_some, hk1, ck, c1, h3, not_true_eq_false]
      have h3 : ¬ t1.1 66 3 = 8 := fun w => c8 ((nI_eq (b := 8) (by omega) (by omega)).mp (hC.2.1.symm.trans w))
      have ta : fMd_toldAt t1 (nI s) (nI (a + 3 * i)) = some (row (a + 3 * i)).toInt32 := by rw [told_n t1 s _ hs (by omega), hL, hr _ (by omega)]
      have tb : fMd_toldAt t1 (nI s) (nI (a + 3 * i + 1)) = some (row (a + 3 * i + 1)).toInt32 := by rw [told_n t1 s _ hs (by omega), hL, hr _ (by omega)]
      have tc : fMd_toldAt t1 (nI s) (nI (a + 3 * i + 2)) = some (row (a + 3 * i + 2)).toInt32 := by rw [told_n t1 s _ hs (by omega), hL, hr _ (by omega)]
      have base : fMd_people_L49_F (fMd_people_L49 n) t1 (nI s) (nI a) (nI N) (nI i) (nI i) = if fMd_isCell (ent row a i).1 = 0 then some (nI i, t1) else if fMd_within (ent row a i).2.1 0 99 = 0 then some (nI i, t1) else if ¬ fMd_within (ent row a i).2.2 0 1 = 0 then Option.bind (fMd_newOne t1 (ent row a i).1 (ent row a i).2.1 (ent row a i).2.2) fun q32 => fMd_people_L49 n q32.2 (nI s) (nI a) (nI N) (nI i + 1) (nI i + 1) else some (nI i, t1) := by
        simp only [fMd_people_L49_F, h0, if_false, fe, fe3, c0, rdI_n hs (by omega : 6 ≤ 1000), Option.bind_some, hk1, ck, c1, h3, not_false_eq_true, if_true, lN_i, e1, e2, ta, tb, tc, ent]
        rfl
      by_cases ok : okE (ent row a i)
      · right
        obtain ⟨M2, w1, w2⟩ := hC.s (by omega)
        refine ⟨(M2, nI (i + 1)), ⟨rfl, w2, fun j hj => ?_, by omega⟩, ?_⟩
        · rcases Nat.lt_or_ge j i with z | z
          · exact hg j z
          · obtain rfl : j = i := by omega
            exact ⟨by omega, ok⟩
        · show fMd_people_L49_F (fMd_people_L49 n) t1 (nI s) (nI a) (nI N) (nI i) (nI i) = _
          rw [base, if_neg ok.1, if_neg ok.2.1, if_pos ok.2.2, w1, Option.bind_some, nI_1]
      · left
        refine stop ?_ (fun w => ok w.1.2)
        rw [base]
        by_cases y1 : fMd_isCell (ent row a i).1 = 0
        · rw [if_pos y1]
        · by_cases y2 : fMd_within (ent row a i).2.1 0 99 = 0
          · rw [if_neg y1, if_pos y2]
          · by_cases y3 : fMd_within (ent row a i).2.2 0 1 = 0
            · rw [if_neg y1, if_neg y2, if_neg (fun z => z y3)]
            · exact absurd ⟨y1, y2, y3⟩ ok)
    (fun n t hP => by
      obtain ⟨t1, t2⟩ := t
      obtain ⟨q1, hC, hg, hpi⟩ := hP
      dsimp only at q1 hC
      subst q1
      refine ⟨(nI N, t1), ?_, N, t1, rfl, ⟨hg, hpi, by omega, Or.inl rfl⟩, hC⟩
      show fMd_people_L49_F (fMd_people_L49 n) t1 (nI s) (nI a) (nI N) (nI N) (nI N) = _
      simp only [fMd_people_L49_F, Int32.le_refl, if_true])
  exact ⟨m, M1, h1, e, h2⟩
theorem s_people (x i N : Int32) : Sim (fun M => fSh_people M x i N) (fun M => fMd_people M x i N) := by
  rintro M hI
  rcases shelf_cases x with ⟨h1, h2⟩ | ⟨s, hs, rfl, h1, h2⟩
  · exact ⟨-1, M, M, by simp [fSh_people, h1], by simp [fMd_people, h2], hI⟩
  by_cases hn : N < 1 ∨ 8 < N
  · refine ⟨-1, M, M, ?_, ?_, hI⟩
    · simp only [fSh_people, h1]; grind
    · simp only [fMd_people, h2, fMd_within]; grind
  obtain ⟨n1, n2, n3, n4⟩ : ¬ N < 1 ∧ N ≤ 8 ∧ ¬ 8 < N ∧ ¬ N < 0 := by grind
  obtain ⟨m, hm, rfl⟩ := in_lit (x := N) (b := 9) 9 (by omega) rfl n4 (by grind)
  have hm1 : 1 ≤ m := Nat.pos_of_ne_zero (fun q => n1 (by rw [q]; decide))
  have hw : fMd_within (nI m) 1 8 = 1 := by simp only [fMd_within, n1, n3, if_false]
  have hI0 := hI
  obtain ⟨p, n, hN, hT, hD, hIm, hC, hB, hS, hZ, hL⟩ := hI
  have o1 : ¬ (1 : Int32) = 0 := by decide
  have base1 : fSh_people M (nI s) i (nI m) = if ¬ M.1 24 s = -1 then if ¬ M.1 24 s = 0 then some (-12, M) else Option.bind (fSh_people_L54 FU M (nI s) (nI m) 0 i) fun o19 => some (o19.2, o19.1) else some (0, M) := by
    simp only [fSh_people, h1, o1, if_false, n1, n2, if_true, fShelves_isEmpty, fShelves_isRowOf, rdI_n hs (by omega : 6 ≤ 1000), Option.bind_some]
    by_cases y : M.1 24 s = -1
    · simp [y]
    · by_cases z : M.1 24 s = 0 <;> simp [y, z]
  have base2 : ∀ M1 : Mem, fMd_people M1 (nI s) i (nI m) = if ¬ M1.1 88 s = -1 then if M1.1 88 s = 0 then fMd_people_L49 FU M1 (nI s) i (nI m) 0 0 else some (-12, M1) else some (0, M1) := fun M1 => by
    simp only [fMd_people, h2, o1, if_false, hw, not_false_eq_true, if_true, rdI_n hs (by omega : 6 ≤ 1000), Option.bind_some]
  rcases hS s hs with ⟨z1, z2⟩ | ⟨b, hb, z1, z2, z3⟩ | ⟨t, k, ht, hk, z1, z2, z3, z4, z5⟩
  · exact ⟨0, M, M, by simp [base1, z1], by simp [base2, z2], hI0⟩
  · have b50 : b < 50 := by have := hB.1; omega
    have y1 : ¬ nI (10 + b) = -1 := fun q => nI_pos (n := 10 + b) (by omega) (by rw [q]; decide)
    have y2 : ¬ nI (10 + b) = 0 := nI_ne0 (by omega) (by omega)
    exact ⟨-12, M, M, by simp [base1, z1], by simp [base2, z3, y1, y2], hI0⟩
  · have y1 : ¬ nI t = -1 := fun q => nI_pos (n := t) (by omega) (by rw [q]; decide)
    by_cases t0 : t = 0
    · subst t0
      have e0 : nI 0 = 0 := rfl
      rw [e0] at z1 z2
      have o2 : ¬ (0 : Int32) = -1 := by decide
      by_cases ci : ∃ a : Nat, a ≤ 60 ∧ i = nI a
      · obtain ⟨a, ha, rfl⟩ := ci
        obtain ⟨m1, M1, q1, q2, q3⟩ := came_c M s k a p m hs z3 hk ha (by omega) hN.2.1 hN.1
        obtain ⟨m2, M2, r1, r2, r3⟩ := came_m M1 (M.2.1 (27 + s)) s k a p m hs (by rw [q3.1.c 89 rfl (by decide)]; exact z4) hk ha (by omega) (by rw [q3.1.i66 3 rfl]; exact hN.2.2.1) hN.1 (fun j hj => by rw [q3.1.2.2]; exact (z5 j hj).1)
        obtain rfl := came_uniq q1 r1
        refine ⟨nI m1, M1, M2, ?_, ?_, Inv_sit hN hT hD hIm hC hB hS hZ hL q3 r3 q1.2.1 (fun j hj => (q1.1 j hj).2)⟩
        · simp [base1, z1, q2]
        · have k88 : M1.1 88 s = 0 := by rw [q3.1.c 88 rfl (by decide)]; exact z2
          simp [base2, k88, r2]
      · -- a place outside
        have g1 : ¬ nI m ≤ 0 := nI_nle (by omega) (by omega)
        have hcase : i < 0 ∨ ∃ a : Nat, a < 2 ^ 31 ∧ 60 < a ∧ i = nI a := by
          by_cases q : i < 0
          · exact Or.inl q
          · obtain ⟨j, hj, rfl⟩ := nI_of q
            exact Or.inr ⟨j, hj, Nat.lt_of_not_le (fun w => ci ⟨j, w, rfl⟩), rfl⟩
        refine ⟨0, M, M, ?_, ?_, hI0⟩
        · have hp : fShelves_hasPart M (nI s) i 3 = some 0 := by
            rcases hcase with q | ⟨a, ha, ha2, rfl⟩
            · exact part_neg M s i 3 q
            · have := part_n M s k a 3 hs z3 hk ha (by omega)
              rw [if_neg (by omega)] at this
              exact this
          have e : fSh_people_L54 FU M (nI s) (nI m) 0 i = some (M, 0) := by
            show fSh_people_L54_F (fSh_people_L54 1999) M (nI s) (nI m) 0 i = _
            simp only [fSh_people_L54_F, g1, if_false, hp, Option.bind_some, if_true]
          simp [base1, z1, e]
        · have e : fMd_people_L49 FU M (nI s) i (nI m) 0 0 = some (0, M) := by
            show fMd_people_L49_F (fMd_people_L49 1999) M (nI s) i (nI m) 0 0 = _
            have l0 : (0 : Int64) = lN 0 := rfl
            have m0 : (3 : Int64) * (0 : Int32).toInt64 = 0 := by decide
            rcases hcase with q | ⟨a, ha, ha2, rfl⟩
            · have : lg_cmp (i.toInt64 + 0) 0 < 0 := by
                rw [lg_cmp_lt, Int64.add_zero, Int64.lt_iff_toInt_lt, Int32.toInt_toInt64]
                exact Int32.lt_iff_toInt_lt.mp q
              simp only [fMd_people_L49_F, g1, if_false, m0, this, if_true]
            · have c0 : ¬ lg_cmp ((nI a).toInt64 + 0) 0 < 0 := by rw [lg_cmp_lt, Int64.add_zero, nI_l ha, l0, pk_lLT (by omega) (by omega)]; omega
              have ck : 0 < lg_cmp ((nI a).toInt64 + 0 + 3) (nI k).toInt64 := by
                have : lN a + 3 = lN (a + 3) := lN_add _ 3
                rw [lg_cmp_gt, Int64.add_zero, nI_l ha, nI_l (by omega), this, pk_lLT (by omega) (by omega)]
                omega
              simp only [fMd_people_L49_F, g1, if_false, m0, c0, rdI_n hs (by omega : 6 ≤ 1000), Option.bind_some, z4, ck, if_true]
          simp [base2, z2, e]
    · have y2 : ¬ nI t = 0 := nI_ne0 (by omega) (by omega)
      exact ⟨-12, M, M, by simp [base1, z1, y1, y2], by simp [base2, z2, y1, y2], hI0⟩
