theorem cl_lines (nm : Int32 → Int32) (L : Lines) (hok : okL L) : ∀ (R P : Lines) (M : Mem) (n nx : Nat), P ++ R = L → LawCl L M → (flC (flC 0 P).length R).length < n → nx ≤ (flC 0 P).length → (∀ k, k < 6 → fLaw_named M (-(phi (nI k))) = nm (nI k)) → ∃ M1, fLaw_gives_L42 n M 0 (nI nx) (nI (flC 0 P).length) = some (lawV nm R, M1) ∧ Kp (fun b _ => b = 11) M M1 := by
  intro R
  induction R with
  | nil =>
    intro P M n nx e hM hn _ _
    obtain ⟨n, rfl⟩ : ∃ q, n = q + 1 := ⟨n - 1, by omega⟩
    refine ⟨M, ?_, Kp.rf _ _⟩
    show fLaw_gives_L42_F (fLaw_gives_L42 n) M _ _ _ = _
    rw [List.append_nil] at e
    have := hM.2.1
    rw [← e] at this
    simp only [fLaw_gives_L42_F, this, Int32.le_refl, if_true, lawV]
  | cons q R ih =>
    intro P M n nx e hM hn hnx hnm
    obtain ⟨hA2, hlen, hsteps⟩ := hM
    have hA : M.2.2.2 = 9 ∨ M.2.2.2 = 10 := by rcases hA2 with z | z <;> simp [z]
    obtain ⟨k1, k2, k3, k4⟩ := hok
    obtain ⟨v2, v1⟩ := k4 q (by rw [← e]; simp)
    generalize ha : (flC 0 P).length = a at *
    generalize hlL : (flC 0 L).length = len at *
    have hfl : flC 0 L = flC 0 P ++ (lnC q a ++ flC (a + (lnC q a).length) R) := by rw [← e, flC_app, Nat.zero_add, ha, flC]
    have hll : len = a + ((lnC q a).length + (flC (a + (lnC q a).length) R).length) := by rw [← hlL, hfl]; simp [ha]
    rw [flC, List.length_append] at hn
    have hfm : (flM L).length = (flM P).length + (q.1.length + q.2.length + (flM R).length) := by rw [← e, flM_app, flM_cons]; simp [Nat.add_assoc]
    have at_ : ∀ j c, (lnC q a)[j]? = some c → M.1 M.2.2.2 (a + j) = c := fun j c hj => by
      apply hsteps
      rw [hfl, List.getElem?_append_right (by omega), ha, Nat.add_sub_cancel_left, List.getElem?_append_left]
      · exact hj
      · exact (List.getElem?_eq_some_iff.mp hj).1
    have give : ∀ (M' : Mem) (m nx' b : Nat) (x : Int32) (st : List Int32), Kp (fun b _ => b = 11) M M' → b < len → nx' ≤ b → M.1 M.2.2.2 b = -3 → Stk (M'.1 11) st → st.length = 1 → st.headD 0 = x → fLaw_gives_L42 (m + 1) M' (nI st.length) (nI nx') (nI b) = some (x, M') := fun M' m nx' b x st K hb hx h3 hS hl1 hx0 => by
      have e2 : M'.2 = M.2 := K.2
      have f7 : M'.1 7 = M.1 7 := K.f (fun i => by decide)
      have fA : M'.1 M'.2.2.2 b = -3 := by
        rw [e2, K.1 _ _ (by show ¬ M.2.2.2 = 11; omega)]
        exact h3
      obtain ⟨y, rfl⟩ := len1 hl1
      rw [gv_at m M' _ nx' b len (by rw [e2]; exact hA) (by rw [f7]; exact hlen) hb k3 hx, fA]
      have hy : M'.1 11 0 = y := hS.1
      have : CStep (fLaw_gives_L42 m) M' (nI [y].length) (nI nx') (nI b) (-3) = Option.bind (rdI 120 11 M' (nI 0)) fun v32 => some (v32, M') := by
        have z1 : nI [y].length - 1 = nI 0 := show nI 1 - 1 = nI 0 by decide
        have z2 : ¬ nI [y].length ≤ 0 := show ¬ nI 1 ≤ 0 by decide
        rw [CStep, if_neg (by decide), if_neg z2, z1]
      rw [this, rdI_n (by omega) (by omega), Option.bind_some, hy, ← hx0]
      rfl
    by_cases q1 : q.1 = []
    · have hln : lnC q a = q.2.map phi ++ [-3] := by unfold lnC; rw [if_pos q1]
      have hlnl : (lnC q a).length = q.2.length + 1 := by rw [hln]; simp
      obtain ⟨m, rfl⟩ : ∃ m, n = m + 1 + q.2.length := ⟨n - 1 - q.2.length, by omega⟩
      obtain ⟨M1, s1, s2, s3, s4⟩ := gv_seg nm len k3 q.2 [] M a nx (m + 1) 1 v2.2 v2.1 (by simp; omega) (by omega) hnx hA hlen trivial (fun j c hj => by
        apply at_
        rw [hln, List.getElem?_append_left (by rw [List.length_map]; exact (List.getElem?_eq_some_iff.mp hj).1), List.getElem?_map, hj]
        rfl) hnm
      refine ⟨M1, ?_, s4⟩
      rw [lawV, if_pos q1]
      have s1' : fLaw_gives_L42 (m + 1 + q.2.length) M 0 (nI nx) (nI a) = fLaw_gives_L42 (m + 1) M1 (nI (ev nm [] q.2).length) (nI nx) (nI (a + q.2.length)) := s1
      rw [s1']
      refine give M1 m nx (a + q.2.length) _ _ s4 (by omega) (by omega) ?_ s2 s3 rfl
      apply at_
      rw [hln, List.getElem?_append_right (by simp)]
      simp
    · have hln : lnC q a = q.1.map phi ++ [-2, nI (a + q.1.length + 2 + q.2.length + 1)] ++ q.2.map phi ++ [-3] := by unfold lnC; rw [if_neg q1]
      have hlnl : (lnC q a).length = q.1.length + 2 + q.2.length + 1 := by rw [hln]; simp only [List.length_append, List.length_map, List.length_cons, List.length_nil]
      have w1 := v1.resolve_left q1
      obtain ⟨m, rfl⟩ : ∃ m, n = m + 1 + q.1.length := ⟨n - 1 - q.1.length, by omega⟩
      obtain ⟨M1, s1, s2, s3, s4⟩ := gv_seg nm len k3 q.1 [] M a nx (m + 1) 1 w1.2 w1.1 (by simp; omega) (by omega) hnx hA hlen trivial (fun j c hj => by
        have hj2 := (List.getElem?_eq_some_iff.mp hj).1
        apply at_
        rw [hln, List.append_assoc, List.append_assoc, List.getElem?_append_left (by rw [List.length_map]; exact hj2), List.getElem?_map, hj]
        rfl) hnm
      have s1' : fLaw_gives_L42 (m + 1 + q.1.length) M 0 (nI nx) (nI a) = fLaw_gives_L42 (m + 1) M1 (nI (ev nm [] q.1).length) (nI nx) (nI (a + q.1.length)) := s1
      have e2 : M1.2 = M.2 := s4.2
      have f7 : M1.1 7 = M.1 7 := s4.f (fun i => by decide)
      have fA : ∀ b, M1.1 M1.2.2.2 b = M.1 M.2.2.2 b := fun b => by rw [e2, s4.1 _ _ (by show ¬ M.2.2.2 = 11; omega)]
      have hA1 : M1.2.2.2 = 9 ∨ M1.2.2.2 = 10 := by rw [e2]; exact hA
      have hl1 : M1.1 7 6 = nI len := by rw [f7]; exact hlen
      have z2 : M.1 M.2.2.2 (a + q.1.length) = -2 := by
        apply at_
        rw [hln, List.append_assoc, List.append_assoc, List.getElem?_append_right (by simp)]
        simp
      have z3 : M.1 M.2.2.2 (a + q.1.length + 1) = nI (a + q.1.length + 2 + q.2.length + 1) := by
        rw [Nat.add_assoc]
        apply at_
        rw [hln, List.append_assoc, List.append_assoc, List.getElem?_append_right (by simp)]
        simp
      obtain ⟨y, ey⟩ := len1 s3
      have hval : val nm q.1 = y := by unfold val; rw [ey]; rfl
      have hy : M1.1 11 0 = y := by rw [ey] at s2; exact s2.1
      have big : ¬ nI len ≤ nI (a + q.1.length) + 1 := by rw [nI_1]; exact nI_ge (by omega) (by omega)
      have rz : rdD M1.2.2.2 M1 (nI (a + q.1.length) + 1) = some (nI (a + q.1.length + 2 + q.2.length + 1)) := by rw [nI_1, rdD_n hA1 (by omega), fA, z3]
      have base : fLaw_gives_L42 (m + 1) M1 (nI (ev nm [] q.1).length) (nI nx) (nI (a + q.1.length)) = if ¬ y = 0 then fLaw_gives_L42 m M1 0 (nI (a + q.1.length + 2)) (nI (a + q.1.length + 1)) else fLaw_gives_L42 m M1 0 (nI (a + q.1.length + 2 + q.2.length + 1)) (nI (a + q.1.length + 1)) := by
        rw [gv_at m M1 _ nx _ len hA1 hl1 (by omega) k3 (by omega), fA, z2, s3]
        have c1 : CStep (fLaw_gives_L42 m) M1 (nI 1) (nI nx) (nI (a + q.1.length)) (-2) = Option.bind (rdI 120 11 M1 (nI 0)) fun v28 => if ¬ v28 = 0 then fLaw_gives_J135_42 (fLaw_gives_L42 m) M1 (nI (a + q.1.length)) else if (M1.1 7 6) ≤ (nI (a + q.1.length) + 1) then fLaw_gives_J135_42 (fLaw_gives_L42 m) M1 (nI (a + q.1.length)) else fLaw_gives_J136_42 (fLaw_gives_L42 m) M1 (nI (a + q.1.length)) 1 := by
          have z1 : nI 1 - 1 = nI 0 := by decide
          have z2 : ¬ nI 1 ≤ 0 := by decide
          rw [CStep, if_pos (by decide), if_neg (by decide), if_neg z2, z1]
        rw [c1, rdI_n (by omega) (by omega), Option.bind_some, hy, hl1, if_neg big]
        have c2 : fLaw_gives_J135_42 (fLaw_gives_L42 m) M1 (nI (a + q.1.length)) = fLaw_gives_L42 m M1 0 (nI (a + q.1.length + 2)) (nI (a + q.1.length + 1)) := by
          rw [fLaw_gives_J135_42, fLaw_gives_J136_42, if_pos rfl, nI_1]
          have : nI (a + q.1.length) + 2 = nI (a + q.1.length + 2) := nI_add _ 2
          rw [this]
        have c3 : fLaw_gives_J136_42 (fLaw_gives_L42 m) M1 (nI (a + q.1.length)) 1 = fLaw_gives_L42 m M1 0 (nI (a + q.1.length + 2 + q.2.length + 1)) (nI (a + q.1.length + 1)) := by
          rw [fLaw_gives_J136_42, if_neg (by decide), rz, Option.bind_some, nI_1]
        rw [c2, c3]
      by_cases y0 : y = 0
      · have hP : (flC 0 (P ++ [q])).length = a + q.1.length + 2 + q.2.length + 1 := by
          rw [flC_app, Nat.zero_add, List.length_append, ha, flC, flC_nil, List.append_nil, hlnl]
          omega
        obtain ⟨m2, rfl⟩ : ∃ m2, m = m2 + (1 + q.2.length + 1) := ⟨m - (1 + q.2.length + 1), by omega⟩
        have sk := gv_skip len k3 (1 + q.2.length + 1) m2 M1 (a + q.1.length + 1) hl1 (by omega)
        have e5 : a + q.1.length + 1 + (1 + q.2.length + 1) = a + q.1.length + 2 + q.2.length + 1 := by omega
        rw [e5] at sk
        have hM1 : LawCl L M1 := by
          refine ⟨by rw [e2]; exact hA2, by rw [hlL]; exact hl1, fun j c hj => ?_⟩
          rw [fA]
          exact hsteps j c hj
        have hlnl2 : a + (lnC q a).length = a + q.1.length + 2 + q.2.length + 1 := by omega
        obtain ⟨M2, r1, r2⟩ := ih (P ++ [q]) M1 m2 (a + q.1.length + 2 + q.2.length + 1) (by rw [← e]; simp) hM1 (by rw [hP, ← hlnl2]; omega) (by rw [hP]; exact Nat.le_refl _) (fun k hk => by
          have := hnm k hk
          unfold fLaw_named at this ⊢
          rw [f7]
          exact this)
        refine ⟨M2, ?_, s4.tr r2⟩
        rw [s1', base, if_neg (fun z => z y0), sk, lawV, if_neg q1, hval, if_pos y0]
        rw [hP] at r1
        exact r1
      · obtain ⟨m2, rfl⟩ : ∃ m2, m = m2 + 1 + q.2.length + 1 := ⟨m - 2 - q.2.length, by omega⟩
        have sk := gv_skip len k3 1 (m2 + 1 + q.2.length) M1 (a + q.1.length + 1) hl1 (by omega)
        have e5 : a + q.1.length + 1 + 1 = a + q.1.length + 2 := by omega
        rw [e5] at sk
        obtain ⟨M2, t1, t2, t3, t4⟩ := gv_seg nm len k3 q.2 [] M1 (a + q.1.length + 2) (a + q.1.length + 2) (m2 + 1) 1 v2.2 v2.1 (by simp; omega) (by omega) (Nat.le_refl _) hA1 hl1 trivial (fun j c hj => by
          have hj2 := (List.getElem?_eq_some_iff.mp hj).1
          rw [fA, show a + q.1.length + 2 + j = a + (q.1.length + 2 + j) by omega]
          apply at_
          rw [hln, List.getElem?_append_left (by simp only [List.length_append, List.length_map, List.length_cons, List.length_nil]; omega), List.getElem?_append_right (by simp only [List.length_append, List.length_map, List.length_cons, List.length_nil]; omega)]
          have : q.1.length + 2 + j - (q.1.map phi ++ [-2, nI (a + q.1.length + 2 + q.2.length + 1)]).length = j := by simp only [List.length_append, List.length_map, List.length_cons, List.length_nil]; omega
          rw [this, List.getElem?_map, hj]
          rfl) (fun k hk => by
          have := hnm k hk
          unfold fLaw_named at this ⊢
          rw [f7]
          exact this)
        refine ⟨M2, ?_, s4.tr t4⟩
        rw [s1', base, if_pos y0, sk, lawV, if_neg q1, hval, if_neg y0]
        have t1' : fLaw_gives_L42 (m2 + 1 + q.2.length) M1 0 (nI (a + q.1.length + 2)) (nI (a + q.1.length + 2)) = fLaw_gives_L42 (m2 + 1) M2 (nI (ev nm [] q.2).length) (nI (a + q.1.length + 2)) (nI (a + q.1.length + 2 + q.2.length)) := t1
        rw [t1']
        refine give M2 m2 _ (a + q.1.length + 2 + q.2.length) _ _ (s4.tr t4) (by omega) (by omega) ?_ t2 t3 rfl
        rw [show a + q.1.length + 2 + q.2.length = a + (q.1.length + 2 + q.2.length) by omega]
        apply at_
        rw [hln, List.getElem?_append_right (by simp only [List.length_append, List.length_map, List.length_cons, List.length_nil]; omega)]
        have : q.1.length + 2 + q.2.length - (q.1.map phi ++ [-2, nI (a + q.1.length + 2 + q.2.length + 1)] ++ q.2.map phi).length = 0 := by simp only [List.length_append, List.length_map, List.length_cons, List.length_nil]; omega
        rw [this]
        rfl
/-- the names of a law -/
def nms (l s f p o c : Int32) : Int32 → Int32 := fun k => if k = 0 then l else if k = 1 then s else if k = 2 then f else if k = 3 then p else if k = 4 then o else c
def PG (a i : Nat) : Prop := (a = 7 ∧ 8 ≤ i ∧ i ≤ 13) ∨ a = 11
theorem gives_ok (L : Lines) (hok : okL L) (M : Mem) (hM : LawCl L M) (l s f p o c : Int32) : ∃ M1, fLaw_gives M l s f p o c = some (lawV (nms l s f p o c) L, M1) ∧ Kp PG M M1 := by
  have hA : M.2.2.2 = 9 ∨ M.2.2.2 = 10 := by rcases hM.1 with z | z <;> simp [z]
  have K : Kp PG M (wI (wI (wI (wI (wI (wI M 7 8 l) 7 9 s) 7 10 f) 7 11 p) 7 12 o) 7 13 c) := (((((Kp.w M l (by unfold PG; omega)).tr (Kp.w _ s (by unfold PG; omega))).tr (Kp.w _ f (by unfold PG; omega))).tr (Kp.w _ p (by unfold PG; omega))).tr (Kp.w _ o (by unfold PG; omega))).tr (Kp.w _ c (by unfold PG; omega))
  have hM1 : LawCl L (wI (wI (wI (wI (wI (wI M 7 8 l) 7 9 s) 7 10 f) 7 11 p) 7 12 o) 7 13 c) := by
    refine ⟨hM.1, hM.2.1, fun j d hj => ?_⟩
    rw [K.2, K.1 _ _ (by unfold PG; omega)]
    exact hM.2.2 j d hj
  have hn : ∀ k, k < 6 → fLaw_named (wI (wI (wI (wI (wI (wI M 7 8 l) 7 9 s) 7 10 f) 7 11 p) 7 12 o) 7 13 c) (-(phi (nI k))) = nms l s f p o c (nI k) := by
    intro k hk
    have e : k = 0 ∨ k = 1 ∨ k = 2 ∨ k = 3 ∨ k = 4 ∨ k = 5 := by omega
    rcases e with rfl | rfl | rfl | rfl | rfl | rfl <;> rfl
  obtain ⟨M1, r1, r2⟩ := cl_lines (nms l s f p o c) L hok L [] _ FU 0 rfl hM1 (by have := hok.2.2.1; exact fu_lt (by show (flC 0 L).length < 2000; omega)) (Nat.le_refl _) hn
  exact ⟨M1, r1, K.tr (r2.mono (fun a i z => Or.inr z))⟩
