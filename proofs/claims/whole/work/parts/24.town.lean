theorem wI_upA (M : Mem) (a i : Nat) (f : Nat → Int32) (x : Int32) : wI (upA M a f) a i x = upA M a (upd f i x) := by
  unfold wI upA
  simp only [if_true]
  congr 1
  funext b
  by_cases eb : b = a <;> simp [eb]
def obs (o : Option Nat) : Int32 := match o with | some d => nI d | none => -1
set_option maxRecDepth 20000 in
theorem bs_ok : ∀ c, c < 36 → ∀ w, w < 4 → fTown_beside (nI c) (nI w) = obs (bsd c w) ∧ fMd_beside (nI c) (nI w) = obs (bsd c w) := by decide +kernel
theorem bs_lt : ∀ c, c < 36 → ∀ w, w < 4 → ∀ d, bsd c w = some d → d < 36 := by
  intro c hc w hw d h
  match w, hw with
  | 0, _ => simp only [bsd] at h; split at h <;> cases h; omega
  | 1, _ => simp only [bsd] at h; split at h <;> cases h; omega
  | 2, _ => simp only [bsd] at h; split at h <;> cases h; omega
  | 3, _ => simp only [bsd] at h; split at h <;> cases h; omega
theorem bs_ne (c w : Nat) (d : Nat) (h : bsd c w = some d) : d ≠ c := by
  unfold bsd at h
  split at h <;> split at h <;> cases h <;> omega
theorem lowr_lt {h : Nat → Int32} {c low w : Nat} (hc : c < 36) (hw : w < 4) (hl : low < 36) : lowr h c low w < 36 := by
  unfold lowr
  split
  · rename_i d e
    split
    · exact bs_lt c hc w hw d e
    · exact hl
  · exact hl
theorem low4_lt {h : Nat → Int32} {c : Nat} (hc : c < 36) : low4 h c < 36 := lowr_lt hc (by omega) (lowr_lt hc (by omega) (lowr_lt hc (by omega) (lowr_lt hc (by omega) hc)))
theorem nI_neg1 {d : Nat} (h : d < 2 ^ 31) : ¬ nI d < 0 := nI_pos h
theorem obs_some {d : Nat} (h : d < 36) : ¬ obs (some d) < 0 := nI_pos (by omega)
theorem obs_none : obs none < 0 := by decide
theorem lb_step (n : Nat) (M : Mem) (c low w : Nat) (hc : c < 36) (hl : low < 36) (hw : w < 4) : fTown_lookBelow_L4 (n + 1) M (nI c) (nI low) (nI w) = fTown_lookBelow_L4 n M (nI c) (nI (lowr (M.1 3) c low w)) (nI (w + 1)) := by
  show fTown_lookBelow_L4_F (fTown_lookBelow_L4 n) M (nI c) (nI low) (nI w) = _
  have h4 : ¬ (4 : Int32) ≤ nI w := nI_geL (b := 4) 4 rfl hw (by omega)
  simp only [fTown_lookBelow_L4_F, h4, if_false, (bs_ok c hc w hw).1, nI_1]
  cases e : bsd c w with
  | none => simp [obs_none, lowr, e]
  | some d =>
    have hd := bs_lt c hc w hw d e
    have hd0 : ¬ nI d < 0 := nI_pos (by omega)
    simp only [hd0, if_false, obs, rdI_n hd (by omega : 36 ≤ 1000), rdI_n hl (by omega : 36 ≤ 1000), Option.bind_some, lowr, e]
    by_cases q : M.1 3 d < M.1 3 low
    · simp [q, Int32.not_le.mpr q]
    · simp [q, Int32.not_lt.mp q]
theorem e_look (M : Mem) (c : Nat) (hc : c < 36) : fTown_lookBelow M (nI c) = some (wI M 4 c (blw (M.1 3) c)) := by
  unfold fTown_lookBelow
  have e : fTown_lookBelow_L4 FU M (nI c) (nI c) 0 = some (nI (low4 (M.1 3) c)) := by
    show fTown_lookBelow_L4 (1996 + 1 + 1 + 1 + 1) M (nI c) (nI c) (nI 0) = _
    have l0 := lowr_lt (h := M.1 3) (w := 0) hc (by omega) hc
    have l1 := lowr_lt (h := M.1 3) (w := 1) hc (by omega) l0
    have l2 := lowr_lt (h := M.1 3) (w := 2) hc (by omega) l1
    rw [lb_step _ M c c 0 hc hc (by omega), lb_step _ M c _ 1 hc l0 (by omega), lb_step _ M c _ 2 hc l1 (by omega), lb_step _ M c _ 3 hc l2 (by omega)]
    rfl
  rw [e, Option.bind_some]
  have hl := low4_lt (h := M.1 3) hc
  simp only [stI_n hc (by omega : 36 ≤ 1000), Option.bind_some, blw, nI_eq (show low4 (M.1 3) c < 2 ^ 31 by omega) (show c < 2 ^ 31 by omega)]
  split <;> simp_all
/-- a cell that isn't beside another doesn't count there -/
theorem lowr_upd {h : Nat → Int32} {c k low w : Nat} {v : Int32} (h1 : bsd c w ≠ some k) (h2 : low ≠ k) : lowr (upd h k v) c low w = lowr h c low w ∧ lowr h c low w ≠ k := by
  unfold lowr
  cases e : bsd c w with
  | none => exact ⟨rfl, h2⟩
  | some d =>
    have hd : d ≠ k := fun q => h1 (by rw [e, q])
    simp only [upd_a, hd, h2, if_false]
    refine ⟨trivial, ?_⟩
    split <;> assumption
theorem blw_upd {h : Nat → Int32} {c k : Nat} {v : Int32} (h0 : c ≠ k) (h1 : ∀ w, w < 4 → bsd c w ≠ some k) : blw (upd h k v) c = blw h c := by
  unfold blw low4
  obtain ⟨a0, b0⟩ := lowr_upd (h := h) (v := v) (h1 0 (by omega)) h0
  obtain ⟨a1, b1⟩ := lowr_upd (h := h) (v := v) (h1 1 (by omega)) b0
  obtain ⟨a2, b2⟩ := lowr_upd (h := h) (v := v) (h1 2 (by omega)) b1
  obtain ⟨a3, b3⟩ := lowr_upd (h := h) (v := v) (h1 3 (by omega)) b2
  rw [a0, a1, a2, a3]
set_option maxRecDepth 20000 in
theorem bs_sym : ∀ c, c < 36 → ∀ k, k < 36 → ∀ w, w < 4 → bsd c w = some k → ∃ w2, w2 < 4 ∧ bsd k w2 = some c := by decide +kernel
theorem e_raise (M : Mem) (k : Nat) (v : Int32) (hk : k < 36) (hB : ∀ c, c < 36 → M.1 4 c = blw (M.1 3) c) : ∃ g : Nat → Int32, fTown_raise M (nI k) v = some (upA (wI M 3 k v) 4 g) ∧ ∀ c, c < 36 → g c = blw (upd (M.1 3) k v) c := by
  unfold fTown_raise
  rw [stI_n hk (by omega : 36 ≤ 1000), Option.bind_some, e_look _ k hk, Option.bind_some]
  have hh : ∀ f, (upA (wI M 3 k v) 4 f).1 3 = upd (M.1 3) k v := fun _ => rfl
  have h0 : wI (wI M 3 k v) 4 k (blw ((wI M 3 k v).1 3) k) = upA (wI M 3 k v) 4 (upd (M.1 4) k (blw (upd (M.1 3) k v) k)) := rfl
  rw [h0]
  obtain ⟨r, e, g, hg, hr⟩ := loop0 (σ := Mem × Int32) (fun n s => fTown_raise_L14 n s.1 (nI k) s.2) (fun i s => s.2 = nI i ∧ ∃ g : Nat → Int32, s.1 = upA (wI M 3 k v) 4 g ∧ ∀ c, c < 36 → g c = blw (upd (M.1 3) k v) c ∨ (g c = blw (M.1 3) c ∧ c ≠ k ∧ ∀ w, w < i → bsd k w ≠ some c)) (fun r => ∃ g : Nat → Int32, r = upA (wI M 3 k v) 4 g ∧ ∀ c, c < 36 → g c = blw (upd (M.1 3) k v) c) 4 (fu_lt (by omega)) (upA (wI M 3 k v) 4 (upd (M.1 4) k (blw (upd (M.1 3) k v) k)), 0)
    ⟨rfl, _, rfl, fun c hc => by
      by_cases e : c = k
      · left; simp [upd_a, e]
      · right; exact ⟨by simp [upd_a, e, hB c hc], e, fun w hw => by omega⟩⟩
    (fun n i s hi hP => by
      obtain ⟨s1, s2⟩ := s
      obtain ⟨q1, g, q2, hg⟩ := hP
      dsimp only at q1 q2
      subst q1
      subst q2
      right
      have h4 : ¬ (4 : Int32) ≤ nI i := nI_geL (b := 4) 4 rfl hi (by omega)
      cases e : bsd k i with
      | none =>
        refine ⟨(upA (wI M 3 k v) 4 g, nI (i + 1)), ⟨rfl, g, rfl, fun c hc => ?_⟩, ?_⟩
        · rcases hg c hc with q | ⟨q, q3, q4⟩
          · exact Or.inl q
          · refine Or.inr ⟨q, q3, fun w hw => ?_⟩
            rcases Nat.lt_or_ge w i with z | z
            · exact q4 w z
            · have : w = i := by omega
              rw [this, e]; simp
        · show fTown_raise_L14_F (fTown_raise_L14 n) _ _ _ = _
          simp [fTown_raise_L14_F, h4, (bs_ok k hk i hi).1, e, obs_none, nI_1]
      | some d =>
        have hd := bs_lt k hk i hi d e
        refine ⟨(upA (wI M 3 k v) 4 (upd g d (blw (upd (M.1 3) k v) d)), nI (i + 1)), ⟨rfl, _, rfl, fun c hc => ?_⟩, ?_⟩
        · by_cases ec : c = d
          · left; simp [upd_a, ec]
          · simp only [upd_a, ec, if_false]
            rcases hg c hc with q | ⟨q, q3, q4⟩
            · exact Or.inl q
            · refine Or.inr ⟨q, q3, fun w hw => ?_⟩
              rcases Nat.lt_or_ge w i with z | z
              · exact q4 w z
              · have : w = i := by omega
                rw [this, e]; simp; exact fun z => ec z.symm
        · show fTown_raise_L14_F (fTown_raise_L14 n) _ _ _ = _
          have hd0 : ¬ nI d < 0 := nI_pos (by omega)
          simp only [fTown_raise_L14_F, h4, if_false, (bs_ok k hk i hi).1, e, hd0, obs, e_look _ d hd, Option.bind_some, nI_1, hh, wI_upA])
    (fun n s hP => by
      obtain ⟨s1, s2⟩ := s
      obtain ⟨q1, g, q2, hg⟩ := hP
      dsimp only at q1 q2
      subst q1
      subst q2
      refine ⟨_, rfl, g, rfl, fun c hc => ?_⟩
      rcases hg c hc with q | ⟨q, q3, q4⟩
      · exact q
      · rw [q, blw_upd q3 (fun w hw q5 => ?_)]
        obtain ⟨w2, hw2, q6⟩ := bs_sym c hc k hk w hw q5
        exact q4 w2 hw2 q6)
  refine ⟨g, ?_, hr⟩
  have e' : fTown_raise_L14 FU (upA (wI M 3 k v) 4 (upd (M.1 4) k (blw (upd (M.1 3) k v) k))) (nI k) 0 = some r := e
  rw [e', Option.bind_some, hg]
