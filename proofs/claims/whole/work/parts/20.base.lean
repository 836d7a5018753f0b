/-! PURE: reads and writes of Mem -/
theorem nI_lt0 {c : Nat} (h : c < 2 ^ 31) : ¬ nI c < 0 := nI_pos h
theorem rdI_n {n a c : Nat} {M : Mem} (h : c < n) (hn : n ≤ 1000) : rdI n a M (nI c) = some (M.1 a c) := by
  unfold rdI
  rw [if_neg, ix, nI_clamp (by omega)]
  rintro (q | q)
  · exact nI_pos (by omega) q
  · rw [nI_clamp (by omega)] at q; omega
theorem rdL_n {n a c : Nat} {M : Mem} (h : c < n) (hn : n ≤ 1000) : rdL n a M (nI c) = some (M.2.1 a c) := by
  unfold rdL
  rw [if_neg, ix, nI_clamp (by omega)]
  rintro (q | q)
  · exact nI_pos (by omega) q
  · rw [nI_clamp (by omega)] at q; omega
theorem stI_n {n a c : Nat} {M : Mem} {x : Int32} (h : c < n) (hn : n ≤ 1000) : stI n a M (nI c) x = some (wI M a c x) := by
  unfold stI
  rw [if_neg, ix, nI_clamp (by omega)]
  rintro (q | q)
  · exact nI_pos (by omega) q
  · rw [nI_clamp (by omega)] at q; omega
theorem stL_n {n a c : Nat} {M : Mem} {x : Int64} (h : c < n) (hn : n ≤ 1000) : stL n a M (nI c) x = some (wL M a c x) := by
  unfold stL
  rw [if_neg, ix, nI_clamp (by omega)]
  rintro (q | q)
  · exact nI_pos (by omega) q
  · rw [nI_clamp (by omega)] at q; omega
theorem wI_1 (M : Mem) (a i : Nat) (x : Int32) (b : Nat) : (wI M a i x).1 b = if b = a then upd (M.1 a) i x else M.1 b := rfl
theorem wI_2 (M : Mem) (a i : Nat) (x : Int32) : (wI M a i x).2 = M.2 := rfl
theorem upA_1 (M : Mem) (a : Nat) (f : Nat → Int32) (b : Nat) : (upA M a f).1 b = if b = a then f else M.1 b := rfl
theorem upA_2 (M : Mem) (a : Nat) (f : Nat → Int32) : (upA M a f).2 = M.2 := rfl
theorem wL_1 (M : Mem) (a i : Nat) (x : Int64) : (wL M a i x).1 = M.1 := rfl
theorem wL_2 (M : Mem) (a i : Nat) (x : Int64) (b : Nat) : (wL M a i x).2.1 b = if b = a then vp_updL (M.2.1 a) i x else M.2.1 b := rfl
theorem wL_3 (M : Mem) (a i : Nat) (x : Int64) : (wL M a i x).2.2 = M.2.2 := rfl
theorem upL_1 (M : Mem) (a : Nat) (f : Nat → Int64) : (upL M a f).1 = M.1 := rfl
theorem upL_2 (M : Mem) (a : Nat) (f : Nat → Int64) (b : Nat) : (upL M a f).2.1 b = if b = a then f else M.2.1 b := rfl
theorem upL_3 (M : Mem) (a : Nat) (f : Nat → Int64) : (upL M a f).2.2 = M.2.2 := rfl
theorem upd_a (f : Nat → Int32) (k : Nat) (x : Int32) (j : Nat) : upd f k x j = if j = k then x else f j := rfl
theorem updL_a (f : Nat → Int64) (k : Nat) (x : Int64) (j : Nat) : vp_updL f k x j = if j = k then x else f j := rfl
/-- a number within is one of so many -/
theorem in_n {x : Int32} (n : Nat) (hn : n ≤ 100000) (h0 : ¬ x < 0) (h : x < nI n) : ∃ c : Nat, c < n ∧ x = nI c := by
  obtain ⟨j, hj, rfl⟩ := nI_of h0
  exact ⟨j, (nI_ltI hj (by omega)).mp h, rfl⟩
theorem in_lit {x b : Int32} (n : Nat) (hn : n ≤ 100000) (hb : nI n = b) (h0 : ¬ x < 0) (h : x < b) : ∃ c : Nat, c < n ∧ x = nI c := in_n n hn h0 (hb ▸ h)
theorem cell_cases (x : Int32) : (fSh_isCell x = 0 ∧ fMd_isCell x = 0) ∨ ∃ c : Nat, c < 36 ∧ x = nI c ∧ fSh_isCell x = 1 ∧ fMd_isCell x = 1 := by
  by_cases h : x < 0 ∨ 36 ≤ x
  · left
    unfold fSh_isCell fMd_isCell fMd_within
    grind
  · right
    obtain ⟨c, hc, rfl⟩ := in_lit (x := x) (b := 36) 36 (by omega) rfl (by grind) (by grind)
    refine ⟨c, hc, rfl, ?_⟩
    unfold fSh_isCell fMd_isCell fMd_within
    grind
