/-! person, of, mend, undo, redo -/
def okN (p k j : Nat) : Prop := (j < 3 ∧ k < 36) ∨ (3 ≤ j ∧ j < 7 ∧ k < p) ∨ (j = 7 ∧ k = 0)
set_option maxRecDepth 100000 in
theorem num_cases (p : Nat) (hp : p ≤ 8) (M : Mem) (h1 : M.1 2 4 = nI p) (h2 : M.1 66 3 = nI p) (x w : Int32) : (fWorld_isNumber M x w = 0 ∧ fMd_isOf M x w = 0) ∨ ∃ k j : Nat, okN p k j ∧ x = nI k ∧ w = nI j ∧ fWorld_isNumber M x w = 1 ∧ fMd_isOf M x w = 1 := by
  by_cases hw : w < 0 ∨ 7 < w
  · left
    simp only [fWorld_isNumber, fMd_isOf, fMd_within]
    grind
  obtain ⟨j, hj, rfl⟩ := in_lit (x := w) (b := 8) 8 (by omega) rfl (by grind) (by grind)
  have b0 : ¬ nI j < 0 := nI_pos (by omega)
  have b7 : nI j ≤ 7 := (leR (b := 7) 7 rfl (by omega) (by omega)).mpr (by omega)
  have b3 : nI j < 3 ↔ j < 3 := ltR (b := 3) 3 rfl (by omega) (by omega)
  have e7 : nI j = 7 ↔ j = 7 := eqR (b := 7) 7 rfl (by omega) (by omega)
  have l2 : 2 < nI j ↔ 2 < j := ltL (b := 2) 2 rfl (by omega) (by omega)
  have l6 : 6 < nI j ↔ 6 < j := ltL (b := 6) 6 rfl (by omega) (by omega)
  have w2 : fMd_within (nI j) 0 2 = if j < 3 then 1 else 0 := by
    unfold fMd_within
    rw [if_neg b0]
    by_cases q : j < 3
    · rw [if_neg (fun z => by have := l2.mp z; omega), if_pos q]
    · rw [if_pos (l2.mpr (by omega)), if_neg q]
  have w3 : fMd_within (nI j) 3 6 = if 3 ≤ j ∧ j < 7 then 1 else 0 := by
    unfold fMd_within
    by_cases q : j < 3
    · rw [if_pos (b3.mpr q), if_neg (by omega)]
    · rw [if_neg (fun z => q (b3.mp z))]
      by_cases r : j < 7
      · rw [if_neg (fun z => by have := l6.mp z; omega), if_pos (by omega)]
      · rw [if_pos (l6.mpr (by omega)), if_neg (by omega)]
  have c1 : fWorld_isNumber M x (nI j) = if ¬ j = 7 then if j < 3 then fSh_isCell x else fWorld_isPerson M x else if ¬ x = 0 then 0 else 1 := by
    simp only [fWorld_isNumber, b0, b7, if_false, if_true, e7, b3]
  have o1 : ((1 : Int32) = 0) = False := by simp
  have c2 : fMd_isOf M x (nI j) = if j < 3 then fMd_isCell x else if 3 ≤ j ∧ j < 7 then fMd_isOne M x else if ¬ j = 7 then 0 else if ¬ x = 0 then 0 else 1 := by
    simp only [fMd_isOf, w2, w3, e7]
    by_cases q : j < 3
    · simp only [q, if_true, o1, if_false]
    · simp only [q, if_false, if_true]
      by_cases r : 3 ≤ j ∧ j < 7
      · simp only [r, and_self, if_true, o1, if_false]
      · simp only [r, if_false, if_true]
  rw [c1, c2]
  rcases Nat.lt_or_ge j 3 with h3 | h3
  · rw [if_pos (by omega), if_pos h3, if_pos h3]
    rcases cell_cases x with h | ⟨c, hc, rfl, g1, g2⟩
    · exact Or.inl h
    · exact Or.inr ⟨c, j, Or.inl ⟨h3, hc⟩, rfl, rfl, g1, g2⟩
  rcases Nat.lt_or_ge j 7 with h7 | h7
  · rw [if_pos (by omega), if_neg (by omega), if_neg (by omega), if_pos (by omega)]
    rcases one_cases p hp M h1 h2 x with h | ⟨c, hc, rfl, g1, g2⟩
    · exact Or.inl h
    · exact Or.inr ⟨c, j, Or.inr (Or.inl ⟨h3, h7, hc⟩), rfl, rfl, g1, g2⟩
  · have : j = 7 := by omega
    subst this
    by_cases hx : x = 0
    · subst hx
      exact Or.inr ⟨0, 7, Or.inr (Or.inr ⟨rfl, rfl⟩), rfl, rfl, rfl, rfl⟩
    · left
      simp [hx]
/-- what is told: the same number, and fit -/
theorem told_ok {p : Nat} {M : Mem} (hN : IvN p M) {k j : Nat} (h : okN p k j) : ∃ v, fWorld_told M (nI k) (nI j) = some v ∧ fMd_get M (nI k) (nI j) = some v ∧ rng v (tbG j) := by
  obtain ⟨g1, g2, g3, g4, g5, g6, g7, g8, g9, g10⟩ := hN
  rcases h with ⟨hj, hk⟩ | ⟨h3, h7, hk⟩ | ⟨rfl, rfl⟩
  · have e : j = 0 ∨ j = 1 ∨ j = 2 := by omega
    rcases e with rfl | rfl | rfl
    · refine ⟨M.1 3 k, ?_, ?_, (g4 k hk).2⟩
      · show Option.bind (rdI 36 3 M (nI k)) _ = _
        rw [rdI_n hk (by omega)]; rfl
      · show Option.bind (rdI 36 67 M (nI k)) _ = _
        rw [rdI_n hk (by omega), (g4 k hk).1]; rfl
    · refine ⟨M.1 37 k, ?_, ?_, (g5 k hk).2⟩
      · show Option.bind (rdI 36 37 M (nI k)) _ = _
        rw [rdI_n hk (by omega)]; rfl
      · show Option.bind (rdI 36 68 M (nI k)) _ = _
        rw [rdI_n hk (by omega), (g5 k hk).1]; rfl
    · refine ⟨M.1 38 k, ?_, ?_, (g6 k hk).2⟩
      · show Option.bind (rdI 36 38 M (nI k)) _ = _
        rw [rdI_n hk (by omega)]; rfl
      · show Option.bind (rdI 36 69 M (nI k)) _ = _
        rw [rdI_n hk (by omega), (g6 k hk).1]; rfl
  · have hk8 : k < 8 := by omega
    have e : j = 3 ∨ j = 4 ∨ j = 5 ∨ j = 6 := by omega
    have q := g7 k hk
    have i0 : 8 * (nI 3 - 3) + nI k = nI (0 + k) := by rw [← nI_add]; rfl
    have i1 : 8 * (nI 4 - 3) + nI k = nI (8 + k) := by rw [← nI_add]; rfl
    have i2 : 8 * (nI 5 - 3) + nI k = nI (16 + k) := by rw [← nI_add]; rfl
    have i3 : 8 * (nI 6 - 3) + nI k = nI (24 + k) := by rw [← nI_add]; rfl
    rcases e with rfl | rfl | rfl | rfl
    · refine ⟨M.1 39 k, ?_, ?_, ?_⟩
      · show Option.bind (rdI 8 39 M (nI k)) _ = _
        rw [rdI_n hk8 (by omega)]; rfl
      · show Option.bind (rdI 32 70 M (8 * (nI 3 - 3) + nI k)) _ = _
        rw [i0, rdI_n (by omega) (by omega), Nat.zero_add, q.1.1]; rfl
      · obtain ⟨c, hc, e⟩ := q.1.2
        rw [e]
        exact ⟨nI_pos' (by omega), (leR (b := 35) 35 rfl (by omega) (by omega)).mpr (by omega)⟩
    · refine ⟨M.1 5 k, ?_, ?_, q.2.1.2⟩
      · show Option.bind (rdI 8 5 M (nI k)) _ = _
        rw [rdI_n hk8 (by omega)]; rfl
      · show Option.bind (rdI 32 70 M (8 * (nI 4 - 3) + nI k)) _ = _
        rw [i1, rdI_n (by omega) (by omega), q.2.1.1]; rfl
    · refine ⟨M.1 6 k, ?_, ?_, q.2.2.1.2⟩
      · show Option.bind (rdI 8 6 M (nI k)) _ = _
        rw [rdI_n hk8 (by omega)]; rfl
      · show Option.bind (rdI 32 70 M (8 * (nI 5 - 3) + nI k)) _ = _
        rw [i2, rdI_n (by omega) (by omega), q.2.2.1.1]; rfl
    · refine ⟨M.1 40 k, ?_, ?_, q.2.2.2.2⟩
      · show Option.bind (rdI 8 40 M (nI k)) _ = _
        rw [rdI_n hk8 (by omega)]; rfl
      · show Option.bind (rdI 32 70 M (8 * (nI 6 - 3) + nI k)) _ = _
        rw [i3, rdI_n (by omega) (by omega), q.2.2.2.1]; rfl
  · refine ⟨M.1 36 4, rfl, ?_, g9.2⟩
    show some (M.1 66 5) = _
    rw [g9.1]
theorem s_of (x y : Int32) : SimR (fun M => fSh_of M x y) (fun M => fMd_of M x y) := by
  rintro M ⟨p, n, hN, -⟩
  rcases num_cases p hN.1 M hN.2.1 hN.2.2.1 x y with ⟨h1, h2⟩ | ⟨k, j, hk, rfl, rfl, h1, h2⟩
  · exact ⟨-1, by simp [fSh_of, h1], by simp [fMd_of, h2]⟩
  · obtain ⟨v, e1, e2, -⟩ := told_ok hN hk
    exact ⟨v, by simp [fSh_of, h1, e1], by simp [fMd_of, h2, e2]⟩
/-- what becomes: both sides -/
def Tl (M M1 : Mem) (k j : Nat) (v : Int32) : Prop := (j = 0 ∧ ∃ g, M1 = upA (wI M 3 k v) 4 g ∧ ∀ c, c < 36 → g c = blw (upd (M.1 3) k v) c) ∨ (j = 1 ∧ M1 = wI M 37 k v) ∨ (j = 2 ∧ M1 = wI M 38 k v) ∨ (j = 3 ∧ M1 = wI M 39 k v) ∨ (j = 4 ∧ M1 = wI M 5 k v) ∨ (j = 5 ∧ M1 = wI M 6 k v) ∨ (j = 6 ∧ M1 = wI M 40 k v) ∨ (j = 7 ∧ M1 = wI M 36 4 v)
def Bc (M M2 : Mem) (k j : Nat) (v : Int32) : Prop := (j = 0 ∧ M2 = wI M 67 k v) ∨ (j = 1 ∧ M2 = wI M 68 k v) ∨ (j = 2 ∧ M2 = wI M 69 k v) ∨ (j = 3 ∧ M2 = wI M 70 k v) ∨ (j = 4 ∧ M2 = wI M 70 (8 + k) v) ∨ (j = 5 ∧ M2 = wI M 70 (16 + k) v) ∨ (j = 6 ∧ M2 = wI M 70 (24 + k) v) ∨ (j = 7 ∧ M2 = wI M 66 5 v)
theorem tell_ok {p : Nat} {M : Mem} (hp : p ≤ 8) (hB : ∀ c, c < 36 → M.1 4 c = blw (M.1 3) c) {k j : Nat} (v : Int32) (h : okN p k j) : ∃ M1, fWorld_tell M (nI k) (nI j) v = some M1 ∧ Tl M M1 k j v := by
  rcases h with ⟨hj, hk⟩ | ⟨h3, h7, hk⟩ | ⟨rfl, rfl⟩
  · have e : j = 0 ∨ j = 1 ∨ j = 2 := by omega
    rcases e with rfl | rfl | rfl
    · obtain ⟨g, e, hg⟩ := e_raise M k v hk hB
      refine ⟨_, ?_, Or.inl ⟨rfl, g, rfl, hg⟩⟩
      show Option.bind (fTown_raise M (nI k) v) _ = _
      rw [e]; rfl
    · refine ⟨_, ?_, Or.inr (Or.inl ⟨rfl, rfl⟩)⟩
      show Option.bind (stI 36 37 M (nI k) v) _ = _
      rw [stI_n hk (by omega)]; rfl
    · refine ⟨_, ?_, Or.inr (Or.inr (Or.inl ⟨rfl, rfl⟩))⟩
      show Option.bind (stI 36 38 M (nI k) v) _ = _
      rw [stI_n hk (by omega)]; rfl
  · have hk8 : k < 8 := by omega
    have e : j = 3 ∨ j = 4 ∨ j = 5 ∨ j = 6 := by omega
    rcases e with rfl | rfl | rfl | rfl
    · refine ⟨_, ?_, Or.inr (Or.inr (Or.inr (Or.inl ⟨rfl, rfl⟩)))⟩
      show Option.bind (stI 8 39 M (nI k) v) _ = _
      rw [stI_n hk8 (by omega)]; rfl
    · refine ⟨_, ?_, Or.inr (Or.inr (Or.inr (Or.inr (Or.inl ⟨rfl, rfl⟩))))⟩
      show Option.bind (stI 8 5 M (nI k) v) _ = _
      rw [stI_n hk8 (by omega)]; rfl
    · refine ⟨_, ?_, Or.inr (Or.inr (Or.inr (Or.inr (Or.inr (Or.inl ⟨rfl, rfl⟩)))))⟩
      show Option.bind (stI 8 6 M (nI k) v) _ = _
      rw [stI_n hk8 (by omega)]; rfl
    · refine ⟨_, ?_, Or.inr (Or.inr (Or.inr (Or.inr (Or.inr (Or.inr (Or.inl ⟨rfl, rfl⟩))))))⟩
      show Option.bind (stI 8 40 M (nI k) v) _ = _
      rw [stI_n hk8 (by omega)]; rfl
  · exact ⟨_, rfl, Or.inr (Or.inr (Or.inr (Or.inr (Or.inr (Or.inr (Or.inr ⟨rfl, rfl⟩))))))⟩
theorem bec_ok {p : Nat} {M : Mem} (hp : p ≤ 8) {k j : Nat} (v : Int32) (h : okN p k j) : ∃ M2, fMd_becomes M (nI k) (nI j) v = some M2 ∧ Bc M M2 k j v := by
  rcases h with ⟨hj, hk⟩ | ⟨h3, h7, hk⟩ | ⟨rfl, rfl⟩
  · have e : j = 0 ∨ j = 1 ∨ j = 2 := by omega
    rcases e with rfl | rfl | rfl
    · refine ⟨_, ?_, Or.inl ⟨rfl, rfl⟩⟩
      show Option.bind (stI 36 67 M (nI k) v) _ = _
      rw [stI_n hk (by omega)]; rfl
    · refine ⟨_, ?_, Or.inr (Or.inl ⟨rfl, rfl⟩)⟩
      show Option.bind (stI 36 68 M (nI k) v) _ = _
      rw [stI_n hk (by omega)]; rfl
    · refine ⟨_, ?_, Or.inr (Or.inr (Or.inl ⟨rfl, rfl⟩))⟩
      show Option.bind (stI 36 69 M (nI k) v) _ = _
      rw [stI_n hk (by omega)]; rfl
  · have hk8 : k < 8 := by omega
    have i0 : 8 * (nI 3 - 3) + nI k = nI (0 + k) := by rw [← nI_add]; rfl
    have i1 : 8 * (nI 4 - 3) + nI k = nI (8 + k) := by rw [← nI_add]; rfl
    have i2 : 8 * (nI 5 - 3) + nI k = nI (16 + k) := by rw [← nI_add]; rfl
    have i3 : 8 * (nI 6 - 3) + nI k = nI (24 + k) := by rw [← nI_add]; rfl
    have e : j = 3 ∨ j = 4 ∨ j = 5 ∨ j = 6 := by omega
    rcases e with rfl | rfl | rfl | rfl
    · refine ⟨_, ?_, Or.inr (Or.inr (Or.inr (Or.inl ⟨rfl, rfl⟩)))⟩
      show Option.bind (stI 32 70 M (8 * (nI 3 - 3) + nI k) v) _ = _
      rw [i0, stI_n (by omega) (by omega), Nat.zero_add]; rfl
    · refine ⟨_, ?_, Or.inr (Or.inr (Or.inr (Or.inr (Or.inl ⟨rfl, rfl⟩))))⟩
      show Option.bind (stI 32 70 M (8 * (nI 4 - 3) + nI k) v) _ = _
      rw [i1, stI_n (by omega) (by omega)]; rfl
    · refine ⟨_, ?_, Or.inr (Or.inr (Or.inr (Or.inr (Or.inr (Or.inl ⟨rfl, rfl⟩)))))⟩
      show Option.bind (stI 32 70 M (8 * (nI 5 - 3) + nI k) v) _ = _
      rw [i2, stI_n (by omega) (by omega)]; rfl
    · refine ⟨_, ?_, Or.inr (Or.inr (Or.inr (Or.inr (Or.inr (Or.inr (Or.inl ⟨rfl, rfl⟩))))))⟩
      show Option.bind (stI 32 70 M (8 * (nI 6 - 3) + nI k) v) _ = _
      rw [i3, stI_n (by omega) (by omega)]; rfl
  · exact ⟨_, rfl, Or.inr (Or.inr (Or.inr (Or.inr (Or.inr (Or.inr (Or.inr ⟨rfl, rfl⟩))))))⟩
theorem Tl.keep {M M1 : Mem} {k j : Nat} {v : Int32} (h : Tl M M1 k j v) : Keep [3, 4, 5, 6, 36, 37, 38, 39, 40] [] M M1 := by
  rcases h with ⟨-, g, rfl, -⟩ | ⟨-, rfl⟩ | ⟨-, rfl⟩ | ⟨-, rfl⟩ | ⟨-, rfl⟩ | ⟨-, rfl⟩ | ⟨-, rfl⟩ | ⟨-, rfl⟩
  · exact ((Keep.w M 3 k v (by decide)).tr (Keep.up _ 4 g (by decide))).sub rfl rfl
  all_goals exact (Keep.w M _ _ v (by decide)).sub rfl rfl
theorem Bc.keep {M M1 : Mem} {k j : Nat} {v : Int32} (h : Bc M M1 k j v) : Keep [67, 68, 69, 70] [5] M M1 := by
  rcases h with ⟨-, rfl⟩ | ⟨-, rfl⟩ | ⟨-, rfl⟩ | ⟨-, rfl⟩ | ⟨-, rfl⟩ | ⟨-, rfl⟩ | ⟨-, rfl⟩ | ⟨-, rfl⟩
  case inr.inr.inr.inr.inr.inr.inr => exact (Keep.w66 M 5 v).sub rfl rfl
  all_goals exact (Keep.w M _ _ v (by decide)).sub rfl rfl
theorem IvN_tb {p : Nat} {M M1 M2 : Mem} {k j : Nat} {v : Int32} (hN : IvN p M) (h : okN p k j) (hv : rng v (tbG j)) (hT : Tl M M1 k j v) (hB : Bc M1 M2 k j v) : IvN p M2 := by
  obtain ⟨g1, g2, g3, g4, g5, g6, g7, g8, g9, g10⟩ := hN
  have ec : j = 0 ∨ j = 1 ∨ j = 2 ∨ j = 3 ∨ j = 4 ∨ j = 5 ∨ j = 6 ∨ j = 7 := by rcases h with h | h | h <;> omega
  rcases ec with rfl | rfl | rfl | rfl | rfl | rfl | rfl | rfl
  · have hk : k < 36 := by rcases h with h | h | h <;> omega
    obtain ⟨-, g, rfl, hg⟩ := hT.resolve_right (by omega)
    obtain ⟨-, rfl⟩ := hB.resolve_right (by omega)
    refine ⟨g1, g2, g3, fun i hi => ?_, g5, g6, g7, g8, g9, fun c hc => hg c hc⟩
    simp [wI_1, upA_1, upd_a]
    by_cases e : i = k
    · simp [e]; exact hv
    · simp [e]; exact g4 i hi
  · have hk : k < 36 := by rcases h with h | h | h <;> omega
    obtain ⟨-, rfl⟩ := (hT.resolve_left (by omega)).resolve_right (by omega)
    obtain ⟨-, rfl⟩ := (hB.resolve_left (by omega)).resolve_right (by omega)
    refine ⟨g1, g2, g3, g4, fun i hi => ?_, g6, g7, g8, g9, g10⟩
    simp [wI_1, upA_1, upd_a]
    by_cases e : i = k
    · simp [e]; exact hv
    · simp [e]; exact g5 i hi
  · have hk : k < 36 := by rcases h with h | h | h <;> omega
    obtain ⟨-, rfl⟩ := ((hT.resolve_left (by omega)).resolve_left (by omega)).resolve_right (by omega)
    obtain ⟨-, rfl⟩ := ((hB.resolve_left (by omega)).resolve_left (by omega)).resolve_right (by omega)
    refine ⟨g1, g2, g3, g4, g5, fun i hi => ?_, g7, g8, g9, g10⟩
    simp [wI_1, upA_1, upd_a]
    by_cases e : i = k
    · simp [e]; exact hv
    · simp [e]; exact g6 i hi
  · have hk : k < p := by rcases h with h | h | h <;> omega
    obtain ⟨-, rfl⟩ := (((hT.resolve_left (by omega)).resolve_left (by omega)).resolve_left (by omega)).resolve_right (by omega)
    obtain ⟨-, rfl⟩ := (((hB.resolve_left (by omega)).resolve_left (by omega)).resolve_left (by omega)).resolve_right (by omega)
    refine ⟨g1, g2, g3, g4, g5, g6, fun i hi => ?_, g8, g9, g10⟩
    have e1 : ¬ 8 + i = k := by omega
    have e2 : ¬ 16 + i = k := by omega
    have e3 : ¬ 24 + i = k := by omega
    simp [wI_1, upA_1, upd_a, e1, e2, e3]
    have hi2 := g7 i hi
    by_cases e : i = k
    · simp [e]
      obtain ⟨c, hc, rfl⟩ := in_lit (x := v) (b := 36) 36 (by omega) rfl (Int32.not_lt.mpr hv.1) (by have h9 : v ≤ 35 := hv.2; grind)
      rw [e] at hi2
      exact ⟨⟨c, hc, rfl⟩, hi2.2⟩
    · simp [e]; exact hi2
  · have hk : k < p := by rcases h with h | h | h <;> omega
    obtain ⟨-, rfl⟩ := ((((hT.resolve_left (by omega)).resolve_left (by omega)).resolve_left (by omega)).resolve_left (by omega)).resolve_right (by omega)
    obtain ⟨-, rfl⟩ := ((((hB.resolve_left (by omega)).resolve_left (by omega)).resolve_left (by omega)).resolve_left (by omega)).resolve_right (by omega)
    refine ⟨g1, g2, g3, g4, g5, g6, fun i hi => ?_, g8, g9, g10⟩
    have e0 : ¬ i = 8 + k := by omega
    have e2 : ¬ 16 + i = 8 + k := by omega
    have e3 : ¬ 24 + i = 8 + k := by omega
    simp [wI_1, upA_1, upd_a, e0, e2, e3]
    have hi2 := g7 i hi
    by_cases e : i = k
    · rw [e] at hi2
      simp [e]; exact ⟨hi2.1, hv, hi2.2.2⟩
    · simp [e]; exact hi2
  · have hk : k < p := by rcases h with h | h | h <;> omega
    obtain ⟨-, rfl⟩ := (((((hT.resolve_left (by omega)).resolve_left (by omega)).resolve_left (by omega)).resolve_left (by omega)).resolve_left (by omega)).resolve_right (by omega)
    obtain ⟨-, rfl⟩ := (((((hB.resolve_left (by omega)).resolve_left (by omega)).resolve_left (by omega)).resolve_left (by omega)).resolve_left (by omega)).resolve_right (by omega)
    refine ⟨g1, g2, g3, g4, g5, g6, fun i hi => ?_, g8, g9, g10⟩
    have e0 : ¬ i = 16 + k := by omega
    have e1 : ¬ 8 + i = 16 + k := by omega
    have e3 : ¬ 24 + i = 16 + k := by omega
    simp [wI_1, upA_1, upd_a, e0, e1, e3]
    have hi2 := g7 i hi
    by_cases e : i = k
    · rw [e] at hi2
      simp [e]; exact ⟨hi2.1, hi2.2.1, hv, hi2.2.2.2⟩
    · simp [e]; exact hi2
  · have hk : k < p := by rcases h with h | h | h <;> omega
    obtain ⟨-, rfl⟩ := ((((((hT.resolve_left (by omega)).resolve_left (by omega)).resolve_left (by omega)).resolve_left (by omega)).resolve_left (by omega)).resolve_left (by omega)).resolve_right (by omega)
    obtain ⟨-, rfl⟩ := ((((((hB.resolve_left (by omega)).resolve_left (by omega)).resolve_left (by omega)).resolve_left (by omega)).resolve_left (by omega)).resolve_left (by omega)).resolve_right (by omega)
    refine ⟨g1, g2, g3, g4, g5, g6, fun i hi => ?_, fun q h1 h2 => ?_, g9, g10⟩
    · have e0 : ¬ i = 24 + k := by omega
      have e1 : ¬ 8 + i = 24 + k := by omega
      have e2 : ¬ 16 + i = 24 + k := by omega
      simp [wI_1, upA_1, upd_a, e0, e1, e2]
      have hi2 := g7 i hi
      by_cases e : i = k
      · rw [e] at hi2
        simp [e]; exact ⟨hi2.1, hi2.2.1, hi2.2.2.1, hv⟩
      · simp [e]; exact hi2
    · have : ¬ q = k := by omega
      simp [wI_1, upd_a, this]
      exact g8 q h1 h2
  · obtain ⟨-, rfl⟩ := ((((((hT.resolve_left (by omega)).resolve_left (by omega)).resolve_left (by omega)).resolve_left (by omega)).resolve_left (by omega)).resolve_left (by omega)).resolve_left (by omega)
    obtain ⟨-, rfl⟩ := ((((((hB.resolve_left (by omega)).resolve_left (by omega)).resolve_left (by omega)).resolve_left (by omega)).resolve_left (by omega)).resolve_left (by omega)).resolve_left (by omega)
    exact ⟨g1, g2, g3, g4, g5, g6, g7, g8, ⟨rfl, hv⟩, g10⟩
