/-! THE LAW, on both sides -/
def lawV (nm : Int32 → Int32) : Lines → Int32
  | [] => 0
  | q :: r => if q.1 = [] then val nm q.2 else if val nm q.1 = 0 then lawV nm r else val nm q.2
def okL (L : Lines) : Prop := L.length ≤ 60 ∧ (flM L).length ≤ 120 ∧ (flC 0 L).length ≤ 240 ∧ ∀ q ∈ L, valid q.2 ∧ (q.1 = [] ∨ valid q.1)
def LawMd (L : Lines) (M : Mem) : Prop := M.1 66 8 = (if L = [] then 0 else 1) ∧ (L ≠ [] → M.1 66 9 = nI L.length ∧ (∀ (i : Nat) (q : List Int32 × List Int32), L[i]? = some q → M.1 72 i = nI (flM (L.take i)).length ∧ M.1 73 i = nI ((flM (L.take i)).length + q.1.length) ∧ M.1 74 i = nI ((flM (L.take i)).length + q.1.length + q.2.length)) ∧ ∀ (j : Nat) (c : Int32), (flM L)[j]? = some c → M.1 75 j = c)
def LawCl (L : Lines) (M : Mem) : Prop := (M.2.2 = (9, 10) ∨ M.2.2 = (10, 9)) ∧ M.1 7 6 = nI (flC 0 L).length ∧ ∀ (j : Nat) (c : Int32), (flC 0 L)[j]? = some c → M.1 M.2.2.2 j = c
theorem flC_nil (b : Nat) : flC b [] = [] := rfl
theorem lnC_pos (q : List Int32 × List Int32) (b : Nat) : 0 < (lnC q b).length := by
  unfold lnC
  split
  · simp
  · simp only [List.length_append, List.length_cons, List.length_nil]; omega
theorem flC_pos {L : Lines} (h : L ≠ []) (b : Nat) : 0 < (flC b L).length := by
  cases L with
  | nil => exact absurd rfl h
  | cons q r => rw [flC, List.length_append]; have := lnC_pos q b; omega
theorem IvL_iff (M : Mem) : IvL M ↔ ∃ L, LawCl L M ∧ LawMd L M ∧ okL L := by
  constructor
  · rintro ⟨h, hR⟩
    rcases hR with ⟨h1, h2⟩ | ⟨L, h1, h2, h3, h4, h5, h6, h7, h8, h9, h10⟩
    · exact ⟨[], ⟨h, h1, fun j c z => by simp [flC] at z⟩, ⟨h2, fun z => absurd rfl z⟩, by simp, by simp [flM], by simp [flC], fun q z => by simp at z⟩
    · refine ⟨L, ⟨h, h7, h10⟩, ⟨by rw [if_neg h1]; exact h2, fun _ => ⟨h3, fun i q z => ?_, h9⟩⟩, h4, h5, h6, fun q hq => ?_⟩
      · obtain ⟨a1, a2, a3, -⟩ := h8 i q z
        exact ⟨a1, a2, a3⟩
      · obtain ⟨i, hi⟩ := List.mem_iff_getElem?.mp hq
        obtain ⟨-, -, -, a4, a5⟩ := h8 i q hi
        exact ⟨a4, a5⟩
  · rintro ⟨L, ⟨c1, c2, c3⟩, ⟨m1, m2⟩, k1, k2, k3, k4⟩
    refine ⟨c1, ?_⟩
    by_cases hL : L = []
    · subst hL
      exact Or.inl ⟨c2, m1⟩
    · rw [if_neg hL] at m1
      obtain ⟨n1, n2, n3⟩ := m2 hL
      refine Or.inr ⟨L, hL, m1, n1, k1, k2, k3, c2, fun i q hq => ?_, n3, c3⟩
      obtain ⟨a1, a2, a3⟩ := n2 i q hq
      obtain ⟨a4, a5⟩ := k4 q (List.mem_of_getElem? hq)
      exact ⟨a1, a2, a3, a4, a5⟩
theorem flM_app (P R : Lines) : flM (P ++ R) = flM P ++ flM R := by unfold flM; exact List.flatMap_append ..
theorem flM_cons (q : List Int32 × List Int32) (R : Lines) : flM (q :: R) = q.1 ++ q.2 ++ flM R := by unfold flM; exact List.flatMap_cons ..
theorem flC_app : ∀ (P R : Lines) (b : Nat), flC b (P ++ R) = flC b P ++ flC (b + (flC b P).length) R := by
  intro P
  induction P with
  | nil => intro R b; rfl
  | cons q P ih =>
    intro R b
    rw [List.cons_append, flC, flC, ih, List.append_assoc, List.length_append, Nat.add_assoc]
/-- the reference goes through its lines -/
theorem by_lines (nm : Int32 → Int32) (L : Lines) (hok : okL L) : ∀ (R P : Lines) (M : Mem) (n : Nat), P ++ R = L → L ≠ [] → LawMd L M → R.length < n → (∀ k, k < 6 → M.1 81 k = nm (nI k)) → ∃ M1, fMd_byLaw_L77 n M (nI P.length) = some (lawV nm R, M1) ∧ Kp (fun b _ => b = 80) M M1 := by
  intro R
  induction R with
  | nil =>
    intro P M n e hL hM hn _
    obtain ⟨n, rfl⟩ : ∃ q, n = q + 1 := ⟨n - 1, by simp at hn; omega⟩
    refine ⟨M, ?_, Kp.rf _ _⟩
    show fMd_byLaw_L77_F (fMd_byLaw_L77 n) M _ = _
    rw [List.append_nil] at e
    have := (hM.2 hL).1
    rw [← e] at this
    simp only [fMd_byLaw_L77_F, this, Int32.le_refl, if_true, lawV]
  | cons q R ih =>
    intro P M n e hL hM hn hnm
    obtain ⟨n, rfl⟩ : ∃ q, n = q + 1 := ⟨n - 1, by omega⟩
    simp only [List.length_cons] at hn
    obtain ⟨m1, m2, m3⟩ := hM.2 hL
    obtain ⟨k1, k2, k3, k4⟩ := hok
    have hlen : L.length = P.length + (R.length + 1) := by rw [← e]; simp
    have hget : L[P.length]? = some q := by rw [← e]; simp
    have htake : L.take P.length = P := by rw [← e]; simp
    obtain ⟨a1, a2, a3⟩ := m2 _ _ hget
    rw [htake] at a1 a2 a3
    obtain ⟨v2, v1⟩ := k4 q (List.mem_of_getElem? hget)
    have hfl : flM L = flM P ++ (q.1 ++ q.2 ++ flM R) := by rw [← e, flM_app, flM_cons]
    have hfll : (flM L).length = (flM P).length + (q.1.length + q.2.length + (flM R).length) := by rw [hfl]; simp [Nat.add_assoc]
    have h0 : ¬ nI L.length ≤ nI P.length := nI_ge (by omega) (by omega)
    have p60 : P.length < 60 := by omega
    have hle : (nI ((flM P).length + q.1.length) ≤ nI (flM P).length) ↔ q.1 = [] := by
      rw [nI_leI (by omega) (by omega)]
      constructor
      · intro z; exact List.length_eq_zero_iff.mp (by omega)
      · intro z; rw [z]; simp
    have code1 : ∀ (M' : Mem), M'.1 75 = M.1 75 → ∀ j c, q.1[j]? = some c → M'.1 75 ((flM P).length + j) = c := fun M' eM j c hj => by
      rw [eM]
      apply m3
      rw [hfl, List.getElem?_append_right (by omega), Nat.add_sub_cancel_left, List.append_assoc, List.getElem?_append_left]
      · exact hj
      · exact (List.getElem?_eq_some_iff.mp hj).1
    have code2 : ∀ (M' : Mem), M'.1 75 = M.1 75 → ∀ j c, q.2[j]? = some c → M'.1 75 ((flM P).length + q.1.length + j) = c := fun M' eM j c hj => by
      rw [eM]
      apply m3
      have : (flM P).length + q.1.length + j - (flM P).length = q.1.length + j := by omega
      rw [hfl, List.getElem?_append_right (by omega), this, List.append_assoc, List.getElem?_append_right (by omega), Nat.add_sub_cancel_left, List.getElem?_append_left]
      · exact hj
      · exact (List.getElem?_eq_some_iff.mp hj).1
    have step : ∀ M' : Mem, Kp (fun b _ => b = 80) M M' → ∃ M1, fMd_byLaw_J122_77 (fMd_byLaw_L77 n) M' (nI P.length) = some (val nm q.2, M1) ∧ Kp (fun b _ => b = 80) M M1 := fun M' K => by
      have f75 : M'.1 75 = M.1 75 := K.f (fun i => by decide)
      have f81 : M'.1 81 = M.1 81 := K.f (fun i => by decide)
      have f73 : M'.1 73 = M.1 73 := K.f (fun i => by decide)
      have f74 : M'.1 74 = M.1 74 := K.f (fun i => by decide)
      obtain ⟨M1, w1, w2⟩ := worked_ok nm q.2 M' ((flM P).length + q.1.length) v2 (by omega) (by omega) (code2 M' f75) (fun k hk => by rw [f81]; exact hnm k hk)
      refine ⟨M1, ?_, K.tr w2⟩
      rw [fMd_byLaw_J122_77, rdI_n p60 (by omega), Option.bind_some, rdI_n p60 (by omega), Option.bind_some, f73, f74, a2, a3, w1]
      rfl
    have F0 : fMd_byLaw_L77 (n + 1) M (nI P.length) = fMd_byLaw_L77_F (fMd_byLaw_L77 n) M (nI P.length) := rfl
    by_cases q1 : q.1 = []
    · obtain ⟨M1, s1, s2⟩ := step M (Kp.rf _ _)
      refine ⟨M1, ?_, s2⟩
      rw [F0, lawV, if_pos q1]
      simp only [fMd_byLaw_L77_F, m1, h0, if_false, rdI_n p60 (by omega : 60 ≤ 1000), Option.bind_some, a1, a2]
      rw [if_pos (hle.mpr q1)]
      exact s1
    · obtain ⟨M1, w1, w2⟩ := worked_ok nm q.1 M (flM P).length (v1.resolve_left q1) (by omega) (by omega) (code1 M rfl) hnm
      have base : fMd_byLaw_L77 (n + 1) M (nI P.length) = if ¬ val nm q.1 = 0 then fMd_byLaw_J122_77 (fMd_byLaw_L77 n) M1 (nI P.length) else fMd_byLaw_L77 n M1 (nI P.length + 1) := by
        rw [F0]
        simp only [fMd_byLaw_L77_F, m1, h0, if_false, rdI_n p60 (by omega : 60 ≤ 1000), Option.bind_some, a1, a2]
        rw [if_neg (fun z => q1 (hle.mp z)), w1]
        rfl
      by_cases z : val nm q.1 = 0
      · have f66 : M1.1 66 = M.1 66 := w2.f (fun i => by decide)
        have hM1 : LawMd L M1 := by
          unfold LawMd
          rw [f66, w2.f (a := 72) (fun i => by decide), w2.f (a := 73) (fun i => by decide), w2.f (a := 74) (fun i => by decide), w2.f (a := 75) (fun i => by decide)]
          exact hM
        obtain ⟨M2, r1, r2⟩ := ih (P ++ [q]) M1 n (by rw [← e]; simp) hL hM1 (by omega) (fun k hk => by rw [w2.f (a := 81) (fun i => by decide)]; exact hnm k hk)
        refine ⟨M2, ?_, w2.tr r2⟩
        rw [base, if_neg (fun y => y z), lawV, if_neg q1, if_pos z, nI_1]
        have : (P ++ [q]).length = P.length + 1 := by simp
        rw [← this]
        exact r1
      · obtain ⟨M2, s1, s2⟩ := step M1 w2
        refine ⟨M2, ?_, s2⟩
        rw [base, if_pos z, lawV, if_neg q1, if_neg z]
        exact s1
/-! THE CLASS GOES THROUGH ITS STEPS -/
theorem lev_neg {w : Nat} (hw : w ≤ 9999) : fLaw_levelOf (-(nI w)) = -1 := by
  have h : ∀ k : Int32, (0 : Int32) < k → ¬ -(nI w) = k := fun k hk z => by
    have e : nI w = -k := by rw [← z, Int32.neg_neg]
    have h0 : (0 : Int32) ≤ nI w := nI_pos' (by omega)
    rw [e] at h0
    grind
  unfold fLaw_levelOf
  rw [if_neg (h 37 (by decide)), if_neg (h 38 (by decide)), if_neg (h 42 (by decide)), if_neg (h 43 (by decide)), if_neg (h 45 (by decide)), if_neg (h 47 (by decide)), if_neg (h 60 (by decide)), if_neg (h 61 (by decide)), if_neg (h 62 (by decide)), if_neg (h 124 (by decide))]
theorem rdD_n {a c : Nat} {M : Mem} (ha : a = 9 ∨ a = 10) (h : c < 240) : rdD a M (nI c) = some (M.1 a c) := by
  unfold rdD
  rw [if_pos ha]
  exact rdI_n h (by omega)
theorem joined_c (k : Nat) (h1 : 6 ≤ k) (h2 : k < 16) (x y : Int32) : fLaw_joined (-(phi (nI k))) x y = some (bothV (nI k) x y) := by
  have e : k = 6 ∨ k = 7 ∨ k = 8 ∨ k = 9 ∨ k = 10 ∨ k = 11 ∨ k = 12 ∨ k = 13 ∨ k = 14 ∨ k = 15 := by omega
  have m := both_m (nI k) x y
  rw [← m]
  rcases e with rfl | rfl | rfl | rfl | rfl | rfl | rfl | rfl | rfl | rfl <;> rfl
theorem phi_bin (k : Nat) (h1 : 6 ≤ k) (h2 : k < 16) : ¬ phi (nI k) = -3 ∧ ¬ phi (nI k) = -2 ∧ ¬ fLaw_levelOf (-(phi (nI k))) = -1 := by
  have e : k = 6 ∨ k = 7 ∨ k = 8 ∨ k = 9 ∨ k = 10 ∨ k = 11 ∨ k = 12 ∨ k = 13 ∨ k = 14 ∨ k = 15 := by omega
  rcases e with rfl | rfl | rfl | rfl | rfl | rfl | rfl | rfl | rfl | rfl <;> decide
theorem phi_nam (k : Nat) (h : k < 6) : ¬ phi (nI k) = -3 ∧ ¬ phi (nI k) = -2 ∧ fLaw_levelOf (-(phi (nI k))) = -1 ∧ ¬ phi (nI k) = -1 ∧ ¬ phi (nI k) = -33 ∧ phi (nI k) < 0 := by
  have e : k = 0 ∨ k = 1 ∨ k = 2 ∨ k = 3 ∨ k = 4 ∨ k = 5 := by omega
  rcases e with rfl | rfl | rfl | rfl | rfl | rfl <;> decide
theorem phi_num (w : Nat) (h : w ≤ 9999) : phi (nI (18 + w)) = nI w := by
  obtain ⟨a, b, c⟩ := c18 w h
  unfold phi
  rw [if_pos a, c]
def CStep (ih : Mem → Int32 → Int32 → Int32 → Option (Int32 × Mem)) (M : Mem) (x7 x8 x9 v3 : Int32) : Option (Int32 × Mem) := if ¬ v3 = (-3) then if ¬ v3 = (-2) then if (fLaw_levelOf (-v3)) = (-1) then if v3 = (-1) then fLaw_gives_J235_42 ih M x7 x8 x9 v3 else if ¬ v3 = (-33) then if 120 ≤ x7 then ih M x7 x8 (x9 + 1) else if v3 < 0 then Option.bind (stI 120 11 M x7 (fLaw_named M (-v3))) fun M17 => ih M17 (x7 + 1) x8 (x9 + 1) else Option.bind (stI 120 11 M x7 v3) fun M18 => ih M18 (x7 + 1) x8 (x9 + 1) else fLaw_gives_J235_42 ih M x7 x8 x9 v3 else if x7 ≤ 1 then ih M x7 x8 (x9 + 1) else Option.bind (rdI 120 11 M (x7 - 2)) fun v20 => Option.bind (rdI 120 11 M (x7 - 1)) fun v21 => Option.bind (fLaw_joined (-v3) v20 v21) fun v22 => Option.bind (stI 120 11 M (x7 - 2) v22) fun M24 => ih M24 (x7 + (-1)) x8 (x9 + 1) else if x7 ≤ 0 then fLaw_gives_J135_42 ih M x9 else Option.bind (rdI 120 11 M (x7 - 1)) fun v28 => if ¬ v28 = 0 then fLaw_gives_J135_42 ih M x9 else if (M.1 7 6) ≤ (x9 + 1) then fLaw_gives_J135_42 ih M x9 else fLaw_gives_J136_42 ih M x9 1 else if x7 ≤ 0 then some (0, M) else Option.bind (rdI 120 11 M (x7 - 1)) fun v32 => some (v32, M)
theorem gv_at (n : Nat) (M : Mem) (x7 : Int32) (nx a len : Nat) (hA : M.2.2.2 = 9 ∨ M.2.2.2 = 10) (hl : M.1 7 6 = nI len) (ha : a < len) (hlen : len ≤ 240) (hn : nx ≤ a) : fLaw_gives_L42 (n + 1) M x7 (nI nx) (nI a) = CStep (fLaw_gives_L42 n) M x7 (nI nx) (nI a) (M.1 M.2.2.2 a) := by
  show fLaw_gives_L42_F (fLaw_gives_L42 n) M _ _ _ = _
  have h1 : ¬ nI len ≤ nI a := nI_ge ha (by omega)
  have h2 : nI nx ≤ nI a := nI_le hn (by omega)
  simp only [fLaw_gives_L42_F, hl, h1, if_false, h2, if_true, rdD_n hA (show a < 240 by omega), Option.bind_some]
  unfold CStep
  rw [hl]
theorem gv_skip (len : Nat) (hlen : len ≤ 240) : ∀ (k : Nat) (n : Nat) (M : Mem) (a : Nat), M.1 7 6 = nI len → a + k ≤ len → fLaw_gives_L42 (n + k) M 0 (nI (a + k)) (nI a) = fLaw_gives_L42 n M 0 (nI (a + k)) (nI (a + k)) := by
  intro k
  induction k with
  | zero => intro n M a _ _; rfl
  | succ k ih =>
    intro n M a hl ha
    have e : a + (k + 1) = a + 1 + k := by omega
    have h1 : ¬ nI len ≤ nI a := nI_ge (by omega) (by omega)
    have h2 : ¬ nI (a + (k + 1)) ≤ nI a := nI_ge (by omega) (by omega)
    show fLaw_gives_L42_F (fLaw_gives_L42 (n + k)) M _ _ _ = _
    simp only [fLaw_gives_L42_F, hl, h1, if_false, h2, nI_1]
    rw [e]
    exact ih n M (a + 1) hl (by omega)
theorem gv_seg (nm : Int32 → Int32) (len : Nat) (hlen : len ≤ 240) : ∀ (cs st : List Int32) (M : Mem) (a nx n e : Nat), okC cs → dep st.length cs = some e → st.length + cs.length ≤ 120 → a + cs.length ≤ len → nx ≤ a → (M.2.2.2 = 9 ∨ M.2.2.2 = 10) → M.1 7 6 = nI len → Stk (M.1 11) st → (∀ j c, cs[j]? = some c → M.1 M.2.2.2 (a + j) = phi c) → (∀ k, k < 6 → fLaw_named M (-(phi (nI k))) = nm (nI k)) →
    ∃ M1, fLaw_gives_L42 (n + cs.length) M (nI st.length) (nI nx) (nI a) = fLaw_gives_L42 n M1 (nI (ev nm st cs).length) (nI nx) (nI (a + cs.length)) ∧ Stk (M1.1 11) (ev nm st cs) ∧ (ev nm st cs).length = e ∧ Kp (fun b _ => b = 11) M M1 := by
  intro cs
  induction cs with
  | nil =>
    intro st M a nx n e _ hd _ _ _ _ _ hS _ _
    exact ⟨M, rfl, hS, Option.some.inj hd, Kp.rf _ _⟩
  | cons c r ih =>
    intro st M a nx n e hok hd h1 h2 hnx hA hl hS hc hnm
    simp only [List.length_cons] at h1 h2
    have hr : M.1 M.2.2.2 a = phi c := hc 0 c rfl
    have ea : nI a + 1 = nI (a + 1) := nI_1 a
    have elen : a + (r.length + 1) = a + 1 + r.length := by omega
    have hokr : okC r := fun x hx => hok x (List.mem_cons_of_mem _ hx)
    have nA : ¬ M.2.2.2 = 11 := by omega
    have F0 := gv_at (n + r.length) M (nI st.length) nx a len hA hl (by omega) hlen hnx
    rw [hr] at F0
    have cont : ∀ (st' : List Int32) (x : Int32) (p : Nat), Stk ((wI M 11 p x).1 11) st' → dep st'.length r = some e → st'.length ≤ st.length + 1 → ev1 nm c st = st' → CStep (fLaw_gives_L42 (n + r.length)) M (nI st.length) (nI nx) (nI a) (phi c) = fLaw_gives_L42 (n + r.length) (wI M 11 p x) (nI st'.length) (nI nx) (nI (a + 1)) → ∃ M1, fLaw_gives_L42 (n + (r.length + 1)) M (nI st.length) (nI nx) (nI a) = fLaw_gives_L42 n M1 (nI (ev nm st (c :: r)).length) (nI nx) (nI (a + (r.length + 1))) ∧ Stk (M1.1 11) (ev nm st (c :: r)) ∧ (ev nm st (c :: r)).length = e ∧ Kp (fun b _ => b = 11) M M1 := fun st' x p S D L E F => by
      obtain ⟨M1, q1, q2, q3, q4⟩ := ih st' (wI M 11 p x) (a + 1) nx n e hokr D (by omega) (by omega) (by omega) hA hl S (fun j d hj => by
        have w := hc (j + 1) d (by simpa using hj)
        rw [wI_2, wI_1, if_neg nA, show a + 1 + j = a + (j + 1) by omega]
        exact w) (fun k hk => hnm k hk)
      rw [ev, E]
      exact ⟨M1, by rw [show n + (r.length + 1) = n + r.length + 1 by omega, F0, F, elen]; exact q1, q2, q3, (Kp.w (P := fun b _ => b = 11) M (a := 11) (i := p) x rfl).tr q4⟩
    have hl120 : st.length < 120 := by omega
    rcases code_cases (hok c (List.mem_cons_self ..)) with ⟨w, hw, rfl⟩ | ⟨k, hk, rfl⟩ | ⟨k, hk, rfl⟩ | ⟨k, hk1, hk2, rfl⟩
    · rw [dep_num w hw] at hd
      refine cont (nI w :: st) (nI w) st.length ?_ hd (Nat.le_refl _) (ev1_num nm w hw st) ?_
      · rw [wI_1, if_pos rfl]; exact hS.push _
      · have p0 : ¬ nI w < 0 := nI_pos (by omega)
        have p1 : ∀ z : Int32, z < 0 → ¬ nI w = z := fun z hz q => p0 (by rw [q]; exact hz)
        have h120 : ¬ (120 : Int32) ≤ nI st.length := nI_geL (b := 120) 120 rfl hl120 (by omega)
        rw [phi_num w hw, CStep, if_pos (p1 (-3) (by decide)), if_pos (p1 (-2) (by decide)), if_pos (lev_neg hw), if_neg (p1 (-1) (by decide)), if_pos (p1 (-33) (by decide)), if_neg h120, if_neg p0, stI_n hl120 (by omega), Option.bind_some, nI_1, ea]
        rfl
    · obtain ⟨b1, b2, b3, b4, b5, b6⟩ := phi_nam k hk
      rw [dep_nam k hk] at hd
      refine cont (nm (nI k) :: st) (nm (nI k)) st.length ?_ hd (Nat.le_refl _) (ev1_nam nm k hk st) ?_
      · rw [wI_1, if_pos rfl]; exact hS.push _
      · have h120 : ¬ (120 : Int32) ≤ nI st.length := nI_geL (b := 120) 120 rfl hl120 (by omega)
        rw [CStep, if_pos b1, if_pos b2, if_pos b3, if_neg b4, if_pos b5, if_neg h120, if_pos b6, hnm k hk, stI_n hl120 (by omega), Option.bind_some, nI_1, ea]
        rfl
    · rw [dep_un k hk] at hd
      cases st with
      | nil => exact absurd hd (by simp)
      | cons x t =>
        rw [if_pos (by simp)] at hd
        have hlm : nI (x :: t).length - 1 = nI t.length := nI_pred _
        have hx : M.1 11 t.length = x := hS.1
        have ht2 : t.length < 120 := by simp only [List.length_cons] at hl120; omega
        have hl0 : ¬ nI (x :: t).length ≤ 0 := nI_nle (by simp) (by simp only [List.length_cons]; omega)
        refine cont ((if k = 17 then -x else if x = 0 then 1 else 0) :: t) (if k = 17 then -x else if x = 0 then 1 else 0) t.length ?_ hd (by simp) (ev1_un nm k hk x t) ?_
        · rw [wI_1, if_pos rfl]; exact hS.2.push _
        · have FJ : CStep (fLaw_gives_L42 (n + r.length)) M (nI (x :: t).length) (nI nx) (nI a) (phi (nI k)) = fLaw_gives_J235_42 (fLaw_gives_L42 (n + r.length)) M (nI (x :: t).length) (nI nx) (nI a) (phi (nI k)) := by
            rcases hk with rfl | rfl <;> rfl
          have ft : fLaw_turned (phi (nI k)) x = if k = 17 then -x else if x = 0 then 1 else 0 := by
            rcases hk with rfl | rfl
            · show (if ¬ x = 0 then (0 : Int32) else 1) = if x = 0 then 1 else 0
              by_cases x0 : x = 0 <;> simp [x0]
            · rfl
          rw [FJ, fLaw_gives_J235_42, if_neg hl0, hlm, rdI_n ht2 (by omega), Option.bind_some, hx, ft, stI_n ht2 (by omega), Option.bind_some, ea]
          rfl
    · rw [dep_bin k hk1 hk2] at hd
      cases st with
      | nil => exact absurd hd (by simp)
      | cons y st1 =>
       cases st1 with
       | nil => exact absurd hd (by simp)
       | cons x t =>
        rw [if_pos (by simp)] at hd
        simp only [List.length_cons] at hl120
        obtain ⟨b1, b2, b3⟩ := phi_bin k hk1 hk2
        have hlm1 : nI (y :: x :: t).length - 1 = nI (t.length + 1) := nI_pred _
        have hlm2 : nI (y :: x :: t).length - 2 = nI t.length := by
          have : (2 : Int32) = nI 2 := rfl
          rw [this, nI_sub (by simp)]
          rfl
        have hlm3 : nI (y :: x :: t).length + (-1) = nI (t.length + 1) := m1_succ _
        have hl0 : ¬ nI (y :: x :: t).length ≤ 1 := fun q => by
          have := (leR (b := 1) 1 rfl (by omega) (by simp only [List.length_cons]; omega)).mp q
          simp only [List.length_cons] at this
          omega
        have hy : M.1 11 (t.length + 1) = y := hS.1
        have hx : M.1 11 t.length = x := hS.2.1
        refine cont (bothV (nI k) x y :: t) (bothV (nI k) x y) t.length ?_ hd (by simp only [List.length_cons]; omega) (ev1_bin nm k hk1 hk2 y x t) ?_
        · rw [wI_1, if_pos rfl]; exact hS.2.2.push _
        · rw [CStep, if_pos b1, if_pos b2, if_neg b3, if_neg hl0, hlm1, hlm2, hlm3, rdI_n (show t.length < 120 by omega) (by omega), rdI_n (show t.length + 1 < 120 by omega) (by omega), Option.bind_some, Option.bind_some, hx, hy, joined_c k hk1 hk2, Option.bind_some, stI_n (show t.length < 120 by omega) (by omega), Option.bind_some, ea]
          rfl
