theorem low_okEl (t : Nat) (ht : t < 5) (v : Int64) : okEl t (fShelves_lowest (nI t) v) := by
  have e : t = 0 ∨ t = 1 ∨ t = 2 ∨ t = 3 ∨ t = 4 := by omega
  have i8 : ∀ z : Int8, (-128 : Int64) ≤ z.toInt32.toInt64 ∧ z.toInt32.toInt64 ≤ 127 := fun z => by
    have a := Int8.toInt_lt z
    have b := Int8.le_toInt z
    have c1 : (-128 : Int64).toInt = -128 := by decide
    have c2 : (127 : Int64).toInt = 127 := by decide
    rw [Int64.le_iff_toInt_le, Int64.le_iff_toInt_le, Int32.toInt_toInt64, Int8.toInt_toInt32, c1, c2]
    omega
  have i16 : ∀ z : Int16, (-32768 : Int64) ≤ z.toInt32.toInt64 ∧ z.toInt32.toInt64 ≤ 32767 := fun z => by
    have a := Int16.toInt_lt z
    have b := Int16.le_toInt z
    have c1 : (-32768 : Int64).toInt = -32768 := by decide
    have c2 : (32767 : Int64).toInt = 32767 := by decide
    rw [Int64.le_iff_toInt_le, Int64.le_iff_toInt_le, Int32.toInt_toInt64, Int16.toInt_toInt32, c1, c2]
    omega
  have i32 : ∀ z : Int32, (-2147483648 : Int64) ≤ z.toInt64 ∧ z.toInt64 ≤ 2147483647 := fun z => by
    have a := Int32.toInt_lt z
    have b := Int32.le_toInt z
    have c1 : (-2147483648 : Int64).toInt = -2147483648 := by decide
    have c2 : (2147483647 : Int64).toInt = 2147483647 := by decide
    rw [Int64.le_iff_toInt_le, Int64.le_iff_toInt_le, Int32.toInt_toInt64, c1, c2]
    omega
  rcases e with rfl | rfl | rfl | rfl | rfl
  · exact i8 _
  · exact i16 _
  · exact i32 _
  · trivial
  · show (if lg_cmp v 0 = 0 then (0 : Int64) else 1) = 0 ∨ (if lg_cmp v 0 = 0 then (0 : Int64) else 1) = 1
    by_cases q : lg_cmp v 0 = 0
    · left; rw [if_pos q]
    · right; rw [if_neg q]
theorem low_kept (x : Int32) (v : Int64) : fMd_kept x v = fShelves_lowest x v := rfl
theorem sort_n {t : Nat} (ht : t < 5) : fShelves_isSort (nI t) = 1 ∧ fMd_within (nI t) 0 4 = 1 := by
  have a : ¬ nI t < 0 := nI_pos (by omega)
  have b : ¬ 4 < nI t := fun q => by have := (ltL (b := 4) 4 rfl (by omega) (by omega)).mp q; omega
  unfold fShelves_isSort fMd_within
  simp [a, b]
theorem shoe_n {b : Nat} (hb : b < 50) : fMd_within (nI (10 + b)) 0 4 = 0 ∧ fShelves_isSort (-2) = 0 := by
  have a : ¬ nI (10 + b) < 0 := nI_pos (by omega)
  have c : 4 < nI (10 + b) := (ltL (b := 4) 4 rfl (by omega) (by omega)).mpr (by omega)
  exact ⟨by unfold fMd_within; simp [a, c], by decide⟩
/-- a place of a row of k -/
theorem place_cases (k : Nat) (hk : k ≤ 60) (i : Int32) : ((i < 0 ∨ nI k ≤ i) ∧ fMd_within i 0 (nI k - 1) = 0) ∨ ∃ a : Nat, a < k ∧ i = nI a ∧ ¬ i < 0 ∧ ¬ nI k ≤ i ∧ fMd_within i 0 (nI k - 1) = 1 := by
  have l : nI k - 1 < i ↔ nI k ≤ i := by
    have : ∃ z : Int32, nI k = z ∧ 0 ≤ z ∧ z ≤ 60 := ⟨_, rfl, nI_pos' (by omega), (leR (b := 60) 60 rfl (by omega) (by omega)).mpr hk⟩
    obtain ⟨z, e, h1, h2⟩ := this
    rw [e]
    grind
  by_cases q : i < 0 ∨ nI k ≤ i
  · left
    refine ⟨q, ?_⟩
    simp only [fMd_within, l]
    grind
  · right
    obtain ⟨c, hc, rfl⟩ := in_n (x := i) k (by omega) (by grind) (by grind)
    refine ⟨c, hc, rfl, by grind, by grind, ?_⟩
    simp only [fMd_within, l]
    grind
theorem s_put (x i : Int32) (v : Int64) : Sim (fun M => fSh_put M x i v) (fun M => fMd_put M x i v) := by
  rintro M hI
  rcases shelf_cases x with ⟨h1, h2⟩ | ⟨s, hs, rfl, h1, h2⟩
  · exact ⟨-1, M, M, by simp [fSh_put, h1], by simp [fMd_put, h2], hI⟩
  have hI0 := hI
  obtain ⟨p, n, hN, hT, hD, hIm, hC, hB, hS, hZ, hL⟩ := hI
  rcases hS s hs with ⟨z1, z2⟩ | ⟨b, hb, z1, z2, z3⟩ | ⟨t, k, ht, hk, z1, z2, z3, z4, z5⟩
  · exact ⟨-11, M, M, by simp [fSh_put, h1, fShelves_refusalAt, fShelves_isEmpty, rdI_n hs (by omega : 6 ≤ 1000), z1], by simp [fMd_put, h2, rdI_n hs (by omega : 6 ≤ 1000), z2], hI0⟩
  · have b50 : b < 50 := by have := hB.1; omega
    have y1 := m1_ne (n := 10 + b) (by omega)
    obtain ⟨y2, y3⟩ := shoe_n b50
    exact ⟨-12, M, M, by simp [fSh_put, h1, fShelves_refusalAt, fShelves_isEmpty, fShelves_isRow, rdI_n hs (by omega : 6 ≤ 1000), z1, y3], by simp [fMd_put, h2, rdI_n hs (by omega : 6 ≤ 1000), z3, y1, fMd_isRow, y2], hI0⟩
  · have y1 := m1_ne (n := t) (by omega)
    obtain ⟨y2, y3⟩ := sort_n ht
    rcases place_cases k hk i with ⟨q1, q2⟩ | ⟨a, ha, rfl, q1, q2, q3⟩
    · refine ⟨-13, M, M, ?_, ?_, hI0⟩
      · simp only [fSh_put, h1, fShelves_refusalAt, fShelves_isEmpty, fShelves_isRow, rdI_n hs (by omega : 6 ≤ 1000), z1, y1, y2, z3, Option.bind_some]
        by_cases w : i < 0
        · simp [w]
        · simp [w, q1.resolve_left w]
      · simp [fMd_put, h2, rdI_n hs (by omega : 6 ≤ 1000), z2, y1, fMd_isRow, y3, z4, q2]
    · refine ⟨1, wL M (27 + s) a (fShelves_lowest (nI t) v), wL (wL M (27 + s) a (fShelves_lowest (nI t) v)) 90 (60 * s + a) (fShelves_lowest (nI t) v), ?_, ?_, shelf_fin hN hT hD hIm hC hB hZ hL ((Keep.rf M).sub rfl rfl) rfl (fun q hq => ?_)⟩
      · simp [fSh_put, h1, fShelves_refusalAt, fShelves_isEmpty, fShelves_isRow, rdI_n hs (by omega : 6 ≤ 1000), z1, y1, y2, z3, q1, q2, rdR_n hs, stL_n (show a < 60 by omega) (by omega : 60 ≤ 1000)]
      · simp [fMd_put, h2, rdI_n hs (by omega : 6 ≤ 1000), wL_1, z2, y1, fMd_isRow, y3, z4, q3, n60, stL_n (show 60 * s + a < 360 by omega) (by omega : 360 ≤ 1000), low_kept]
      · have c1 : ∀ i, i < 60 → (wL (wL M (27 + s) a (fShelves_lowest (nI t) v)) 90 (60 * s + a) (fShelves_lowest (nI t) v)).2.1 90 (60 * q + i) = if q = s ∧ i = a then fShelves_lowest (nI t) v else M.2.1 90 (60 * q + i) := fun i hi => by
          have ne : ¬ 90 = 27 + s := by omega
          rw [wL_2, if_pos rfl, updL_a, wL_2, if_neg ne]
          by_cases w : q = s ∧ i = a
          · have w2 : 60 * q + i = 60 * s + a := by omega
            rw [if_pos w, if_pos w2]
          · have w2 : ¬ 60 * q + i = 60 * s + a := by omega
            rw [if_neg w, if_neg w2]
        have c2 : ∀ i, i < 60 → (wL (wL M (27 + s) a (fShelves_lowest (nI t) v)) 90 (60 * s + a) (fShelves_lowest (nI t) v)).2.1 (27 + q) i = if q = s ∧ i = a then fShelves_lowest (nI t) v else M.2.1 (27 + q) i := fun i hi => by
          have ne : ¬ 27 + q = 90 := by omega
          rw [wL_2, if_neg ne, wL_2]
          by_cases w : q = s
          · subst w
            rw [if_pos rfl, updL_a]
            by_cases w2 : i = a
            · rw [if_pos w2, if_pos ⟨rfl, w2⟩]
            · rw [if_neg w2, if_neg (fun z => w2 z.2)]
          · have w2 : ¬ 27 + q = 27 + s := by omega
            rw [if_neg w2, if_neg (fun z => w z.1)]
        rcases hS q hq with r | r | ⟨t', k', r1, r2, r3, r4, r5, r6, r7⟩
        · exact Or.inl r
        · exact Or.inr (Or.inl r)
        · refine Or.inr (Or.inr ⟨t', k', r1, r2, r3, r4, r5, r6, fun i hi => ?_⟩)
          rw [c1 i hi, c2 i hi]
          by_cases w : q = s ∧ i = a
          · simp only [if_pos w]
            refine ⟨trivial, ?_⟩
            obtain ⟨rfl, rfl⟩ := w
            have : nI t = nI t' := z1.symm.trans r3
            rw [this]
            exact low_okEl t' r1 v
          · simp only [if_neg w]
            exact r7 i hi
theorem s_element (x i : Int32) : SimR (fun M => fSh_element M x i) (fun M => fMd_element M x i) := by
  rintro M hI
  rcases shelf_cases x with ⟨h1, h2⟩ | ⟨s, hs, rfl, h1, h2⟩
  · exact ⟨-9223372036854775808, by simp only [fSh_element, h1, if_true], by simp only [fMd_element, h2, if_true]⟩
  obtain ⟨p, n, hN, hT, hD, hIm, hC, hB, hS, hZ, hL⟩ := hI
  have o1 : ¬ (1 : Int32) = 0 := by decide
  rcases hS s hs with ⟨z1, z2⟩ | ⟨b, hb, z1, z2, z3⟩ | ⟨t, k, ht, hk, z1, z2, z3, z4, z5⟩
  · have w : fMd_within (-1) 0 4 = 0 := by decide
    refine ⟨-9223372036854775808, ?_, ?_⟩
    · simp [fSh_element, h1, fShelves_refusalAt, fShelves_isEmpty, rdI_n hs (by omega : 6 ≤ 1000), z1]
    · simp [fMd_element, h2, fMd_isRow, rdI_n hs (by omega : 6 ≤ 1000), z2, w]
  · have b50 : b < 50 := by have := hB.1; omega
    obtain ⟨y2, y3⟩ := shoe_n b50
    refine ⟨-9223372036854775808, ?_, ?_⟩
    · simp [fSh_element, h1, fShelves_refusalAt, fShelves_isEmpty, fShelves_isRow, rdI_n hs (by omega : 6 ≤ 1000), z1, y3]
    · simp [fMd_element, h2, fMd_isRow, rdI_n hs (by omega : 6 ≤ 1000), z3, y2]
  · have y1 := m1_ne (n := t) (by omega)
    obtain ⟨y2, y3⟩ := sort_n ht
    rcases place_cases k hk i with ⟨q1, q2⟩ | ⟨a, ha, rfl, q1, q2, q3⟩
    · refine ⟨-9223372036854775808, ?_, ?_⟩
      · simp only [fSh_element, h1, fShelves_refusalAt, fShelves_isEmpty, fShelves_isRow, rdI_n hs (by omega : 6 ≤ 1000), z1, y1, y2, z3, Option.bind_some]
        by_cases w : i < 0
        · simp [w]
        · simp [w, q1.resolve_left w]
      · simp [fMd_element, h2, rdI_n hs (by omega : 6 ≤ 1000), z2, fMd_isRow, y3, z4, q2]
    · refine ⟨M.2.1 (27 + s) a, ?_, ?_⟩
      · simp [fSh_element, h1, fShelves_refusalAt, fShelves_isEmpty, fShelves_isRow, rdI_n hs (by omega : 6 ≤ 1000), z1, y1, y2, z3, q1, q2, rdR_n hs, rdL_n (show a < 60 by omega) (by omega : 60 ≤ 1000)]
      · simp [fMd_element, h2, rdI_n hs (by omega : 6 ≤ 1000), z2, fMd_isRow, y3, z4, q3, n60, rdL_n (show 60 * s + a < 360 by omega) (by omega : 360 ≤ 1000), (z5 a (by omega)).1]
theorem c8 {P : Nat → Prop} (h0 : P 0) (h1 : P 1) (h2 : P 2) (h3 : P 3) (h4 : P 4) (h5 : P 5) (h6 : P 6) (h7 : P 7) : ∀ a, a < 8 → P a := by
  intro a ha
  have e : a = 0 ∨ a = 1 ∨ a = 2 ∨ a = 3 ∨ a = 4 ∨ a = 5 ∨ a = 6 ∨ a = 7 := by omega
  rcases e with rfl | rfl | rfl | rfl | rfl | rfl | rfl | rfl <;> assumption
def und (M : Mem) (a b : Nat) : Prop := fBodies_isUnder M (nI a) (nI b) = Option.bind (fMd_taken_L61 FU M (nI b) (nI a)) fun o => some (if o = nI b then 1 else 0)
theorem under_ok (M : Mem) : ∀ a, a < 8 → ∀ b, b < 8 → und M a b := c8 (c8 rfl rfl rfl rfl rfl rfl rfl rfl) (c8 rfl rfl rfl rfl rfl rfl rfl rfl) (c8 rfl rfl rfl rfl rfl rfl rfl rfl) (c8 rfl rfl rfl rfl rfl rfl rfl rfl) (c8 rfl rfl rfl rfl rfl rfl rfl rfl) (c8 rfl rfl rfl rfl rfl rfl rfl rfl) (c8 rfl rfl rfl rfl rfl rfl rfl rfl) (c8 rfl rfl rfl rfl rfl rfl rfl rfl)
theorem under_some (M : Mem) : ∀ a, a < 8 → ∀ b, b < 8 → (fMd_taken_L61 FU M (nI b) (nI a)).isSome = true := c8 (c8 rfl rfl rfl rfl rfl rfl rfl rfl) (c8 rfl rfl rfl rfl rfl rfl rfl rfl) (c8 rfl rfl rfl rfl rfl rfl rfl rfl) (c8 rfl rfl rfl rfl rfl rfl rfl rfl) (c8 rfl rfl rfl rfl rfl rfl rfl rfl) (c8 rfl rfl rfl rfl rfl rfl rfl rfl) (c8 rfl rfl rfl rfl rfl rfl rfl rfl) (c8 rfl rfl rfl rfl rfl rfl rfl rfl)
theorem s_taken (x y : Int32) : SimR (fun M => fSh_taken M x y) (fun M => fMd_taken M x y) := by
  rintro M hI
  rcases shelf_cases x with ⟨h1, h2⟩ | ⟨s, hs, rfl, h1, h2⟩
  · exact ⟨-1, by simp only [fSh_taken, h1, if_true], by simp only [fMd_taken, h2, if_true]⟩
  by_cases hy : y < 0 ∨ 7 < y
  · refine ⟨-1, ?_, ?_⟩
    · simp only [fSh_taken, h1, fBodies_isKind]; grind
    · simp only [fMd_taken, h2, fMd_within]; grind
  obtain ⟨b, hb, rfl⟩ := in_lit (x := y) (b := 8) 8 (by omega) rfl (by grind) (by grind)
  have w1 : fBodies_isKind (nI b) = 1 := by unfold fBodies_isKind; grind
  have w2 : fMd_within (nI b) 0 7 = 1 := by unfold fMd_within; grind
  obtain ⟨p, n, hN, hT, hD, hIm, hC, hB, hS, hZ, hL⟩ := hI
  rcases hS s hs with ⟨z1, z2⟩ | ⟨d, hd, z1, z2, z3⟩ | ⟨t, k, ht, hk, z1, z2, z3, z4, z5⟩
  · refine ⟨-11, ?_, ?_⟩
    · simp [fSh_taken, h1, w1, fShelves_isEmpty, rdI_n hs (by omega : 6 ≤ 1000), z1]
    · simp [fMd_taken, h2, w2, rdI_n hs (by omega : 6 ≤ 1000), z2]
  · have b50 : d < 50 := by have := hB.1; omega
    have y1 := m1_ne (n := 10 + d) (by omega)
    obtain ⟨y2, y3⟩ := shoe_n b50
    obtain ⟨q1, a, ha, q2⟩ := hB.2.2.2.1 d hd
    have e10 : nI (10 + d) - 10 = nI d := by
      have : (10 : Int32) = nI 10 := rfl
      rw [this, nI_sub (by omega)]
      congr 1
      omega
    have hbd : fBodies_isBody M (nI d) = 1 := by
      rcases body_cases M n hB.1 hB.2.1 (nI d) with ⟨r1, r2⟩ | ⟨_, _, _, r⟩
      · rcases r2 with r2 | r2
        · exact absurd r2 (nI_pos (by omega))
        · exact absurd r2 (nI_ge hd (by have := hB.1; omega))
      · exact r
    have hu := under_ok M a ha b hb
    have hs2 := under_some M a ha b hb
    unfold und at hu
    obtain ⟨o, ho⟩ := Option.isSome_iff_exists.mp hs2
    rw [ho, Option.bind_some] at hu
    refine ⟨if o = nI b then nI a else -12, ?_, ?_⟩
    · simp only [fSh_taken, h1, w1, fShelves_isEmpty, fShelves_isRow, rdI_n hs (by omega : 6 ≤ 1000), z1, z2, Option.bind_some, y3, fBodies_kindOf, hbd, rdI_n b50 (by omega : 50 ≤ 1000), q2, hu]
      by_cases w : o = nI b <;> simp [w, hu]
    · simp only [fMd_taken, h2, w2, rdI_n hs (by omega : 6 ≤ 1000), z3, y1, Option.bind_some, fMd_isRow, y2, e10, rdI_n b50 (by omega : 50 ≤ 1000), q1, q2, ho, fMd_taken_J82]
      by_cases w : o = nI b <;> simp [w]
  · have y1 := m1_ne (n := t) (by omega)
    obtain ⟨y2, y3⟩ := sort_n ht
    refine ⟨-12, ?_, ?_⟩
    · simp [fSh_taken, h1, w1, fShelves_isEmpty, fShelves_isRow, rdI_n hs (by omega : 6 ≤ 1000), z1, y1, y2]
    · simp [fMd_taken, h2, w2, rdI_n hs (by omega : 6 ≤ 1000), z2, y1, fMd_isRow, y3]
