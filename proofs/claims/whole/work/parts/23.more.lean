/-- loops, by what holds at the i-th round -/
theorem loopG {σ ρ : Type} (L : Nat → σ → Option ρ) (P : Nat → σ → Prop) (Q : ρ → Prop) (N : Nat) (hstep : ∀ n i s, i < N → P i s → (∃ r, L (n + 1) s = some r ∧ Q r) ∨ ∃ s', P (i + 1) s' ∧ L (n + 1) s = L n s') (hend : ∀ n s, P N s → ∃ r, L (n + 1) s = some r ∧ Q r) : ∀ (k i : Nat) (s : σ) (fuel : Nat), N - i = k → i ≤ N → N - i < fuel → P i s → ∃ r, L fuel s = some r ∧ Q r := by
  intro k
  induction k with
  | zero =>
    intro i s fuel h1 h2 h3 hP
    have : i = N := by omega
    subst this
    obtain ⟨n, rfl⟩ : ∃ n, fuel = n + 1 := ⟨fuel - 1, by omega⟩
    exact hend n s hP
  | succ k ih =>
    intro i s fuel h1 h2 h3 hP
    obtain ⟨n, rfl⟩ : ∃ n, fuel = n + 1 := ⟨fuel - 1, by omega⟩
    rcases hstep n i s (by omega) hP with h | ⟨s', hP', e⟩
    · exact h
    · rw [e]
      exact ih (i + 1) s' n (by omega) (by omega) (by omega) hP'
theorem loop0 {σ ρ : Type} (L : Nat → σ → Option ρ) (P : Nat → σ → Prop) (Q : ρ → Prop) (N : Nat) (hN : N < FU) (s : σ) (h0 : P 0 s) (hstep : ∀ n i s, i < N → P i s → (∃ r, L (n + 1) s = some r ∧ Q r) ∨ ∃ s', P (i + 1) s' ∧ L (n + 1) s = L n s') (hend : ∀ n s, P N s → ∃ r, L (n + 1) s = some r ∧ Q r) : ∃ r, L FU s = some r ∧ Q r := loopG L P Q N hstep hend N 0 s FU rfl (Nat.zero_le _) hN h0
theorem fu_lt {n : Nat} (h : n < 2000) : n < FU := h
theorem nI_ge36 : (36 : Int32) ≤ nI 36 := by decide
theorem nI_lt36 {i : Nat} (h : i < 36) : ¬ (36 : Int32) ≤ nI i := nI_ge (b := 36) h (by omega)
theorem nI_geL {b : Int32} (n : Nat) {i : Nat} (hb : nI n = b) (h : i < n) (hn : n < 2 ^ 31) : ¬ b ≤ nI i := hb ▸ nI_ge h hn
theorem ltL {b : Int32} (n : Nat) {t : Nat} (hb : nI n = b) (hn : n < 2 ^ 31) (ht : t < 2 ^ 31) : b < nI t ↔ n < t := hb ▸ nI_ltI hn ht
theorem ltR {b : Int32} (n : Nat) {t : Nat} (hb : nI n = b) (hn : n < 2 ^ 31) (ht : t < 2 ^ 31) : nI t < b ↔ t < n := hb ▸ nI_ltI ht hn
theorem leL {b : Int32} (n : Nat) {t : Nat} (hb : nI n = b) (hn : n < 2 ^ 31) (ht : t < 2 ^ 31) : b ≤ nI t ↔ n ≤ t := hb ▸ nI_leI hn ht
theorem leR {b : Int32} (n : Nat) {t : Nat} (hb : nI n = b) (hn : n < 2 ^ 31) (ht : t < 2 ^ 31) : nI t ≤ b ↔ t ≤ n := hb ▸ nI_leI ht hn
theorem eqR {b : Int32} (n : Nat) {t : Nat} (hb : nI n = b) (hn : n < 2 ^ 31) (ht : t < 2 ^ 31) : nI t = b ↔ t = n := hb ▸ nI_eq ht hn
def cnt (f : Nat → Int32) : Nat → Int32
  | 0 => 0
  | n + 1 => if f n ≤ 0 then cnt f n else cnt f n + 1
theorem e_lucky (M : Mem) (b : Nat) : fStreet_luckyCells M b = some (cnt (M.1 (b + 1)) 36) := by
  unfold fStreet_luckyCells
  obtain ⟨r, e, hr⟩ := loop0 (σ := Int32 × Int32) (fun n s => fStreet_luckyCells_L4 n M b s.1 s.2) (fun i s => s = (cnt (M.1 (b + 1)) i, nI i)) (fun r => r = cnt (M.1 (b + 1)) 36) 36 (fu_lt (by omega)) (0, 0) rfl
    (fun n i s hi hP => by
      subst hP
      right
      refine ⟨(cnt (M.1 (b + 1)) (i + 1), nI (i + 1)), rfl, ?_⟩
      show fStreet_luckyCells_L4_F (fStreet_luckyCells_L4 n) M b _ _ = _
      simp only [fStreet_luckyCells_L4_F, nI_lt36 hi, if_false, rdI_n hi (by omega : 36 ≤ 1000), Option.bind_some, nI_1, cnt]
      split <;> rfl)
    (fun n s hP => by
      subst hP
      exact ⟨_, rfl, rfl⟩)
  subst hr
  simp only [e, Option.bind_some]
theorem e_cntM (M : Mem) : fMd_count_L47 FU M 0 0 = some (cnt (M.1 68) 36) := by
  obtain ⟨r, e, hr⟩ := loop0 (σ := Int32 × Int32) (fun n s => fMd_count_L47 n M s.1 s.2) (fun i s => s = (cnt (M.1 68) i, nI i)) (fun r => r = cnt (M.1 68) 36) 36 (fu_lt (by omega)) (0, 0) rfl
    (fun n i s hi hP => by
      subst hP
      right
      refine ⟨(cnt (M.1 68) (i + 1), nI (i + 1)), rfl, ?_⟩
      show fMd_count_L47_F (fMd_count_L47 n) M _ _ = _
      simp only [fMd_count_L47_F, nI_lt36 hi, if_false, rdI_n hi (by omega : 36 ≤ 1000), Option.bind_some, nI_1, cnt]
      split <;> rfl)
    (fun n s hP => by
      subst hP
      exact ⟨_, rfl, rfl⟩)
  subst hr
  exact e
theorem cnt_congr {f g : Nat → Int32} (n : Nat) (h : ∀ i, i < n → f i = g i) : cnt f n = cnt g n := by
  induction n with
  | zero => rfl
  | succ n ih => rw [cnt, cnt, ih (fun i hi => h i (by omega)), h n (by omega)]
theorem s_count (x : Int32) : SimR (fun M => fSh_count M x) (fun M => fMd_count M x) := by
  rintro M ⟨p, n, hN, ⟨k, k1, k2, k3, k4⟩, hD, hIm, ⟨u, a, u1, u2, u3, u4, u5, u6, u7⟩, ⟨b1, b2, b3, b4, t, t1, t2, t3, t4⟩, -⟩
  obtain ⟨g1, g2, g3, g4, g5, g6, g7, g8, g9, g10⟩ := hN
  have hc : cnt (M.1 68) 36 = cnt (M.1 37) 36 := cnt_congr 36 (fun i hi => (g5 i hi).1)
  simp only [fSh_count, fMd_count, e_lucky, e_cntM, Option.bind_some, hc, g2, g3, k2, k3, u3, u4, b2, b3, t2, t3]
  repeat (split; exact ⟨_, rfl, rfl⟩)
  exact ⟨_, rfl, rfl⟩
theorem s_body (x : Int32) : Sim (fun M => fSh_body M x) (fun M => fMd_body M x) := by
  rintro M hI
  have hI0 := hI
  obtain ⟨p, n, hN, hT, hD, hIm, hC, hB, hS, hZ, hL⟩ := hI
  by_cases hx : x < 0 ∨ 7 < x
  · refine ⟨-1, M, M, ?_, ?_, hI0⟩
    · simp only [fSh_body, fBodies_isKind]; grind
    · simp only [fMd_body, fMd_within]; grind
  obtain ⟨k, hk, rfl⟩ := in_lit (x := x) (b := 8) 8 (by omega) rfl (by grind) (by grind)
  obtain ⟨x1, x2, x3⟩ : ¬ nI k < 0 ∧ ¬ 8 ≤ nI k ∧ ¬ 7 < nI k := by grind
  obtain ⟨b1, b2, b3, b4, t, t1, t2, t3, t4⟩ := hB
  by_cases hn : n = 50
  · subst hn
    have e : nI 50 = 50 := rfl
    refine ⟨-3, M, M, ?_, ?_, hI0⟩
    · simp [fSh_body, fBodies_isKind, fBodies_made, x1, x2, b2, e]
    · simp [fMd_body, fMd_within, x1, x3, b3, e]
  have n5 : n < 50 := by omega
  have n6 : nI n < 50 := (nI_ltI (b := 50) (by omega) (by omega)).mpr n5
  have n7 : ¬ nI n = 50 := by grind
  have n8 : nI n + 1 - 1 = nI n := by grind
  refine ⟨nI n, wI (wI M 22 n (nI k)) 20 0 (nI (n + 1)), wI (wI (wI (wI M 22 n (nI k)) 20 0 (nI (n + 1))) 86 n (nI k)) 66 32 (nI (n + 1)), ?_, ?_, ?_⟩
  · simp [fSh_body, fBodies_isKind, fBodies_made, x1, x2, b2, n6, stI_n n5 (by omega : 50 ≤ 1000), wI_1, upd_a, n8]
    simp [nI_1]
  · simp [fMd_body, fMd_within, x1, x3, b3, n7, stI_n n5 (by omega : 50 ≤ 1000), wI_1, upd_a, nI_1]
  · refine ⟨p, n + 1, hN.congr rfl rfl rfl rfl rfl rfl rfl rfl rfl rfl rfl rfl rfl rfl rfl rfl, hT.congr rfl rfl rfl rfl, hD.congr rfl rfl, hIm.congr rfl rfl rfl rfl rfl rfl rfl rfl rfl rfl rfl, hC.congr rfl rfl rfl rfl rfl rfl rfl rfl rfl, ⟨n5, rfl, rfl, ?_, t, t1, t2, t3, t4⟩, ?_, hZ.congr rfl rfl rfl rfl, hL.congr rfl rfl rfl rfl rfl rfl rfl rfl rfl rfl⟩
    · intro i hi
      simp [wI_1, upd_a]
      by_cases e : i = n
      · simp [e]; exact ⟨k, hk, rfl⟩
      · simp [e]; exact b4 i (by omega)
    · intro s hs
      rcases hS s hs with h | ⟨b, hb, h⟩ | h
      · exact Or.inl h
      · exact Or.inr (Or.inl ⟨b, by omega, h⟩)
      · exact Or.inr (Or.inr h)
theorem s_trace (x : Int32) : SimR (fun M => fSh_trace M x) (fun M => fMd_trace M x) := by
  rintro M ⟨p, n, hN, hT, hD, hIm, hC, ⟨b1, b2, b3, b4, t, t1, t2, t3, t4⟩, -⟩
  obtain ⟨m, hm, hm2, hm3⟩ : ∃ m : Nat, m ≤ 24 ∧ mnI (nI t) 24 = nI m ∧ m ≤ t := by
    unfold mnI
    by_cases h : 24 < t
    · refine ⟨24, by omega, ?_, by omega⟩
      rw [if_pos ((ltL (b := 24) 24 rfl (by omega) (by omega)).mpr h)]
      rfl
    · refine ⟨t, by omega, ?_, by omega⟩
      rw [if_neg (fun q => h ((ltL (b := 24) 24 rfl (by omega) (by omega)).mp q))]
  have hm4 : mnI 24 (nI t) = nI m := by rw [mnI_c]; exact hm2
  have hm5 : nI m - 1 < nI m := by
    have h1 : (nI m).toInt = m := nI_toInt (by omega)
    have : (0 : Int32) ≤ nI m := nI_pos' (by omega)
    grind
  simp only [fSh_trace, fMd_trace, fBodies_traced, fMd_within, t2, t3, hm2, hm4]
  by_cases h : x < 0 ∨ nI m ≤ x
  · refine ⟨-1, ?_, ?_⟩ <;> grind
  · obtain ⟨c, hc, rfl⟩ := in_n (x := x) m (by omega) (by grind) (by grind)
    have c24 : c < 24 := by omega
    refine ⟨M.1 21 c, ?_, ?_⟩
    · simp only [rdI_n c24 (by omega : 24 ≤ 1000)]; grind
    · simp only [rdI_n c24 (by omega : 24 ≤ 1000), t4 c (by omega) c24]; grind
