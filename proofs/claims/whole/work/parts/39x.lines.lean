/-! LAW: lines -/
theorem flC_one : ∀ (L : Lines) (q : List Int32 × List Int32) (b : Nat), flC b (L ++ [q]) = flC b L ++ lnC q (b + (flC b L).length) := by
  intro L
  induction L with
  | nil =>
    intro q b
    show lnC q b ++ [] = [] ++ lnC q (b + 0)
    rw [List.append_nil]
    rfl
  | cons r L ih =>
    intro q b
    show lnC r b ++ flC (b + (lnC r b).length) (L ++ [q]) = (lnC r b ++ flC (b + (lnC r b).length) L) ++ lnC q (b + (lnC r b ++ flC (b + (lnC r b).length) L).length)
    rw [ih, List.append_assoc, List.length_append, Nat.add_assoc]
theorem flM_one (L : Lines) (q : List Int32 × List Int32) : flM (L ++ [q]) = flM L ++ (q.1 ++ q.2) := by
  unfold flM
  rw [List.flatMap_append]
  simp
theorem GE.valid {E : List Int32} (h : GE E) : valid E := ⟨h.1 0, h.2⟩
theorem GE.ne {E : List Int32} (h : GE E) : E ≠ [] := fun q => by
  have := h.1 0
  rw [q] at this
  cases this
theorem RdL.put {D len o pos : Nat} {t : Nat → Int32} {A B Cl : List Int32} {x : Int32} {MC MM : Mem} (h : RdL D len t o (A ++ [x] ++ B) Cl pos MC MM) (z : Int32) : RdL D len t o (A ++ [z] ++ B) Cl pos (wI MC D A.length z) MM ∧ Kp (PcL D) MC (wI MC D A.length z) := by
  obtain ⟨⟨a1, a2, a3, a4⟩, ⟨b1, b2, b3⟩, c1, c2, c3, c4, c5, c6, c7⟩ := h
  have n7 : (7 : Nat) ≠ D := by omega
  have n8 : (8 : Nat) ≠ D := by omega
  have eD : ∀ (a i : Nat), a ≠ D → (wI MC D A.length z).1 a i = MC.1 a i := fun a i ha => by rw [wI_1, if_neg ha]
  refine ⟨⟨⟨a1, ?_, a3, fun i hi => ⟨?_, (a4 i hi).2⟩⟩, ⟨b1, ?_, b3⟩, c1, c2, ?_, fun j c hj => ?_, c5, c6, c7⟩, Kp.w _ _ (by unfold PcL; omega)⟩
  · rw [eD _ _ n7]; exact a2
  · rw [eD _ _ n8]; exact (a4 i hi).1
  · rw [eD _ _ n7]; exact b2
  · rw [eD _ _ n7, c3]
    simp
  · rw [wI_1, if_pos rfl, upd_a]
    by_cases q : j = A.length
    · rw [if_pos q]
      subst q
      have : (A ++ [z] ++ B)[A.length]? = some z := by simp
      rw [this] at hj
      exact Option.some.inj hj
    · rw [if_neg q]
      apply c4 j c
      rw [← hj]
      rw [List.append_assoc, List.append_assoc, List.getElem?_append, List.getElem?_append (l₁ := A) (l₂ := [z] ++ B)]
      by_cases y : j < A.length
      · rw [if_pos y, if_pos y]
      · rw [if_neg y, if_neg y]
        obtain ⟨d, hd⟩ : ∃ d, j - A.length = d + 1 := ⟨j - A.length - 1, by omega⟩
        rw [hd]
        rfl
def PmN (a i : Nat) : Prop := (a = 66 ∧ 14 ≤ i ∧ i ≤ 17) ∨ (76 ≤ a ∧ a ≤ 79)
def PmX (a i : Nat) : Prop := (a = 66 ∧ i = 17) ∨ (76 ≤ a ∧ a ≤ 78)
theorem RdL.kp {D len o pos : Nat} {t : Nat → Int32} {Dl Cl : List Int32} {MC MM MM' : Mem} (h : RdL D len t o Dl Cl pos MC MM) (K : Kp PmX MM MM') : RdL D len t o Dl Cl pos MC MM' := by
  obtain ⟨⟨a1, a2, a3, a4⟩, ⟨b1, b2, b3⟩, c1, c2, c3, c4, c5, c6, c7⟩ := h
  have g : ∀ a i, ¬ PmX a i → MM'.1 a i = MM.1 a i := K.1
  exact ⟨⟨a1, a2, by rw [g 66 6 (by unfold PmX; omega)]; exact a3, fun i hi => ⟨(a4 i hi).1, by rw [g 71 i (by unfold PmX; omega)]; exact (a4 i hi).2⟩⟩, ⟨b1, b2, by rw [g 66 14 (by unfold PmX; omega)]; exact b3⟩, c1, c2, c3, c4, by rw [g 66 15 (by unfold PmX; omega)]; exact c5, by rw [g 66 16 (by unfold PmX; omega)]; exact c6, fun j c hj => by rw [g 79 j (by unfold PmX; omega)]; exact c7 j c hj⟩
/-- lines read so far: what the reference notes of each -/
def Nts (L : Lines) (MM : Mem) : Prop := ∀ (i : Nat) (q : List Int32 × List Int32), L[i]? = some q → MM.1 76 i = nI (flM (L.take i)).length ∧ MM.1 77 i = nI ((flM (L.take i)).length + q.1.length) ∧ MM.1 78 i = nI ((flM (L.take i)).length + q.1.length + q.2.length)
def LnR (D len : Nat) (t : Nat → Int32) (L : Lines) (pos : Nat) (MC MM : Mem) : Prop := RdL D len t 0 (flC 0 L) (flM L) pos MC MM ∧ MM.1 66 17 = nI L.length ∧ Nts L MM ∧ (∀ q ∈ L, valid q.2 ∧ (q.1 = [] ∨ valid q.1)) ∧ (flC 0 L).length ≤ 2 * pos ∧ (flM L).length ≤ pos
theorem Nts.kp {L : Lines} {MM MM' : Mem} (h : Nts L MM) (hk : ∀ i, i < L.length → MM'.1 76 i = MM.1 76 i ∧ MM'.1 77 i = MM.1 77 i ∧ MM'.1 78 i = MM.1 78 i) : Nts L MM' := fun i q hi => by
  have hl : i < L.length := by
    rcases Nat.lt_or_ge i L.length with z | z
    · exact z
    · rw [List.getElem?_eq_none z] at hi; cases hi
  obtain ⟨k1, k2, k3⟩ := hk i hl
  rw [k1, k2, k3]
  exact h i q hi
theorem Nts.snoc {L : Lines} {q : List Int32 × List Int32} {MM : Mem} (h : Nts L MM) (h1 : MM.1 76 L.length = nI (flM L).length) (h2 : MM.1 77 L.length = nI ((flM L).length + q.1.length)) (h3 : MM.1 78 L.length = nI ((flM L).length + q.1.length + q.2.length)) : Nts (L ++ [q]) MM := fun i r hi => by
  have hl : i < (L ++ [q]).length := by
    rcases Nat.lt_or_ge i (L ++ [q]).length with z | z
    · exact z
    · rw [List.getElem?_eq_none z] at hi; cases hi
  rw [List.length_append, List.length_singleton] at hl
  by_cases z : i = L.length
  · subst z
    have e : r = q := by simpa using hi.symm
    have e2 : (L ++ [q]).take L.length = L := by simp
    rw [e, e2]
    exact ⟨h1, h2, h3⟩
  · have e : L[i]? = some r := by rw [List.getElem?_append_left (by omega)] at hi; exact hi
    have e2 : (L ++ [q]).take i = L.take i := by rw [List.take_append_of_le_length (by omega)]
    rw [e2]
    exact h i r e
theorem RdL.mix {D len o pos : Nat} {t : Nat → Int32} {Dl Cl Dl' Cl' : List Int32} {MC MM MC' MM' : Mem} (h : RdL D len t o Dl Cl pos MC MM) (k : RdL D len t o Dl' Cl' pos MC' MM') : RdL D len t o Dl' Cl pos MC' MM := by
  obtain ⟨⟨a1, a2, a3, a4⟩, ⟨b1, b2, b3⟩, c1, c2, c3, c4, c5, c6, c7⟩ := h
  obtain ⟨⟨d1, d2, d3, d4⟩, ⟨e1, e2, e3⟩, f1, f2, f3, f4, f5, f6, f7⟩ := k
  exact ⟨⟨a1, d2, a3, fun i hi => ⟨(d4 i hi).1, (a4 i hi).2⟩⟩, ⟨b1, e2, b3⟩, c1, f2, f3, f4, c5, c6, c7⟩
theorem RdL.step {D len o pos : Nat} {t : Nat → Int32} {Dl Cl : List Int32} {MC MM : Mem} (h : RdL D len t o Dl Cl pos MC MM) (hD : Dl.length < 240) (hC : Cl.length < 200) (x : Int32) : ∃ MC', fLaw_step MC x = some MC' ∧ RdL D len t o (Dl ++ [x]) Cl pos MC' MM ∧ Kp (PcL D) MC MC' := by
  obtain ⟨MC', MM', b1, b2, b3, b4, b5⟩ := h.emit hD hC x 0
  exact ⟨MC', b1, h.mix b3, b4⟩
theorem J71_e {M : Mem} {n : Nat} (h : M.1 66 17 = nI n) (hn : n ≤ 60) : fMd_isLine_J71 M = some (1, wI (wI M 66 17 (nI (n + 1))) 78 n (M.1 66 16)) := by
  rw [fMd_isLine_J71, h, nI_1, stI_n (by omega) (by omega), Option.bind_some]
  rfl
theorem kX {M : Mem} {a i : Nat} {x : Int32} (h : PmX a i) : Kp PmX M (wI M a i x) := Kp.w _ _ h
theorem PmL_N {a i : Nat} (h : PmL a i) : PmN a i := by unfold PmL at h; unfold PmN; omega
theorem PmX_N {a i : Nat} (h : PmX a i) : PmN a i := by unfold PmX at h; unfold PmN; omega
theorem line_l {D len : Nat} {t : Nat → Int32} (hlen : len ≤ 120) {L : Lines} {pos : Nat} {MC MM : Mem} (h : LnR D len t L pos MC MM) (h2 : 2 * L.length ≤ pos) : ∃ v pos' MC' MM', fLaw_readLine MC = some (v, MC') ∧ fMd_isLine MM = some (v, MM') ∧ Kp (PcL D) MC MC' ∧ Kp PmN MM MM' ∧ ((v = 0 ∧ ∃ A B, RdL D len t 0 A B pos' MC' MM') ∨ (v = 1 ∧ pos < pos' ∧ ∃ q, LnR D len t (L ++ [q]) pos' MC' MM')) := by
  obtain ⟨hR, h17, hN, hV, hb1, hb2⟩ := h
  have hp := hR.2.1.1
  have n60 : L.length ≤ 60 := by omega
  have z1 : ¬ (1 : Int32) = 0 := by decide
  generalize hn : L.length = n at *
  generalize hDl : flC 0 L = Dl at *
  generalize hCl : flM L = Cl at *
  have h16 := hR.2.2.2.2.2.2.2.1
  have s1 : stI 61 76 MM (MM.1 66 17) (MM.1 66 16) = some (wI MM 76 n (nI Cl.length)) := by rw [h17, h16, stI_n (by omega) (by omega)]
  have X1 : Kp PmX MM (wI MM 76 n (nI Cl.length)) := kX (by unfold PmX; omega)
  have R1 := hR.kp X1
  have w1 : (wI MM 76 n (nI Cl.length)).1 76 n = nI Cl.length := by rw [wI_1, if_pos rfl, upd_a, if_pos rfl]
  have w2 : ∀ i, i < n → (wI MM 76 n (nI Cl.length)).1 76 i = MM.1 76 i := fun i hi => by rw [wI_1, if_pos rfl, upd_a, if_neg (by omega)]
  have w3 : (wI MM 76 n (nI Cl.length)).1 66 17 = nI n := h17
  have w4 : ∀ i, (wI MM 76 n (nI Cl.length)).1 77 i = MM.1 77 i := fun _ => rfl
  have w5 : ∀ i, (wI MM 76 n (nI Cl.length)).1 78 i = MM.1 78 i := fun _ => rfl
  generalize wI MM 76 n (nI Cl.length) = M1 at *
  obtain ⟨v, E, pos1, MC1, M2, a1, a2, a3, a4, a5, a6, a7⟩ := ex_l hlen Dl Cl pos MC M1 R1 hb1 hb2
  dsimp only at a1
  have KN2 : Kp PmN MM M2 := (X1.mono (fun a i h => PmX_N h)).tr (a6.mono (fun a i h => PmL_N h))
  by_cases v0 : v = 0
  · subst v0
    refine ⟨0, pos1, MC1, M2, ?_, ?_, a5, KN2, Or.inl ⟨rfl, _, _, a3⟩⟩
    · rw [fLaw_readLine, a1, Option.bind_some, if_neg (fun z => z rfl)]
    · rw [fMd_isLine, s1, Option.bind_some, a2, Option.bind_some, if_neg (fun z => z rfl)]
  obtain ⟨v1, g1, g2⟩ := a7.resolve_left v0
  subst v1
  have p1 := a3.2.1.1
  have lE : (Dl ++ E.map phi).length = Dl.length + E.length := by simp
  have lE' : (Cl ++ E).length = Cl.length + E.length := by simp
  have u17 : M2.1 66 17 = nI n := by rw [a6.1 66 17 (by unfold PmL; omega)]; exact w3
  have u76 : M2.1 76 n = nI Cl.length := by rw [a6.1 76 n (by unfold PmL; omega)]; exact w1
  have r1 : rdI 61 76 M2 (M2.1 66 17) = some (nI Cl.length) := by rw [u17, rdI_n (by omega) (by omega), u76]
  have s2 : stI 61 77 M2 (M2.1 66 17) (nI Cl.length) = some (wI M2 77 n (nI Cl.length)) := by rw [u17, stI_n (by omega) (by omega)]
  have X3 : Kp PmX M2 (wI M2 77 n (nI Cl.length)) := kX (by unfold PmX; omega)
  have R3 := a3.kp X3
  have y0 : (wI M2 77 n (nI Cl.length)).1 77 n = nI Cl.length := by rw [wI_1, if_pos rfl, upd_a, if_pos rfl]
  have y1 : ∀ i, i < n → (wI M2 77 n (nI Cl.length)).1 77 i = MM.1 77 i := fun i hi => by rw [wI_1, if_pos rfl, upd_a, if_neg (by omega), a6.1 77 i (by unfold PmL; omega)]; exact w4 i
  have y2 : ∀ i, i < n → (wI M2 77 n (nI Cl.length)).1 76 i = MM.1 76 i := fun i hi => by
    show M2.1 76 i = _
    rw [a6.1 76 i (by unfold PmL; omega)]; exact w2 i hi
  have y3 : (wI M2 77 n (nI Cl.length)).1 76 n = nI Cl.length := u76
  have y4 : (wI M2 77 n (nI Cl.length)).1 66 17 = nI n := u17
  have y5 : ∀ i, (wI M2 77 n (nI Cl.length)).1 78 i = MM.1 78 i := fun i => by
    show M2.1 78 i = _
    rw [a6.1 78 i (by unfold PmL; omega)]; exact w5 i
  have KN3 : Kp PmN MM (wI M2 77 n (nI Cl.length)) := KN2.tr (X3.mono (fun a i h => PmX_N h))
  have eC : fLaw_readLine MC = Option.bind (fLaw_took MC1 63) fun q4 => if ¬ q4.1 = 0 then Option.bind (fLaw_step q4.2 (-2)) fun q7 => Option.bind (fLaw_step q7 0) fun q8 => Option.bind (fLaw_readJoined q8 0 0) fun q9 => if ¬ q9.1 = 0 then Option.bind (fLaw_step q9.2 (-3)) fun q12 => Option.bind (lnD q12.2.2.1) fun v13 => if v13 ≤ (q7.1 7 4) then some (1, q12) else Option.bind (stD q12.2.2.1 q12 (q7.1 7 4) (q12.1 7 4)) fun M15 => some (1, M15) else some (0, q9.2) else Option.bind (fLaw_step q4.2 (-3)) fun q16 => some (1, q16) := by
    rw [fLaw_readLine, a1, Option.bind_some, if_pos z1]
  have eM : fMd_isLine MM = Option.bind (fMd_is (wI M2 77 n (nI Cl.length)) 63) fun q7 => if q7.1 = 0 then fMd_isLine_J71 q7.2 else Option.bind (stI 61 77 q7.2 (q7.2.1 66 17) (q7.2.1 66 16)) fun M11 => Option.bind (fMd_isE M11) fun q12 => if ¬ q12.1 = 0 then fMd_isLine_J71 q12.2 else some (0, q12.2) := by
    rw [fMd_isLine, s1, Option.bind_some, a2, Option.bind_some, if_pos z1, r1, Option.bind_some, s2, Option.bind_some]
  generalize wI M2 77 n (nI Cl.length) = M3 at *
  rw [took_c a3.sc] at eC
  rw [is_m R3.sm] at eM
  by_cases hq : sgn t len pos1 = 63
  · rw [if_pos hq, Option.bind_some] at eC eM
    dsimp only at eC eM
    rw [if_pos z1] at eC
    rw [if_neg z1] at eM
    obtain ⟨R4, K4c, K4m⟩ := R3.adv (sgn_in hq (by decide))
    have hp1 : pos1 < len := sgn_in hq (by decide)
    generalize wI MC1 7 2 (MC1.1 7 2 + 1) = C4 at *
    have x0 : ∀ a i, ¬ (a = 66 ∧ i = 14) → (wI M3 66 14 (M3.1 66 14 + 1)).1 a i = M3.1 a i := fun a i hh => by
      rw [wI_1]
      by_cases z : a = 66
      · rw [if_pos z, upd_a, if_neg (by omega), z]
      · rw [if_neg z]
    generalize wI M3 66 14 (M3.1 66 14 + 1) = M4 at *
    have v17 : M4.1 66 17 = nI n := by rw [x0 66 17 (by omega)]; exact y4
    have v16 : M4.1 66 16 = nI (Cl.length + E.length) := by rw [← lE']; exact R4.2.2.2.2.2.2.2.1
    rw [v17, v16, stI_n (by omega) (by omega), Option.bind_some] at eM
    obtain ⟨C5, b1, R5, K5⟩ := R4.step (by omega) (by omega) (-2)
    have lD5 : ((Dl ++ E.map phi) ++ [-2]).length = Dl.length + E.length + 1 := by simp; omega
    obtain ⟨C6, b2, R6, K6⟩ := R5.step (by omega) (by omega) 0
    have lD6 : (((Dl ++ E.map phi) ++ [-2]) ++ [0]).length = Dl.length + E.length + 2 := by simp; omega
    have at5 : C5.1 7 4 = nI (Dl.length + E.length + 1) := by rw [← lD5]; exact R5.2.2.2.2.1
    rw [b1, Option.bind_some, b2, Option.bind_some, at5] at eC
    have X5 : Kp PmX M4 (wI M4 77 n (nI (Cl.length + E.length))) := kX (by unfold PmX; omega)
    have R7 := R6.kp X5
    have t0 : (wI M4 77 n (nI (Cl.length + E.length))).1 77 n = nI (Cl.length + E.length) := by rw [wI_1, if_pos rfl, upd_a, if_pos rfl]
    have t1 : ∀ i, i < n → (wI M4 77 n (nI (Cl.length + E.length))).1 77 i = MM.1 77 i := fun i hi => by rw [wI_1, if_pos rfl, upd_a, if_neg (by omega), x0 77 i (by omega)]; exact y1 i hi
    have t2 : ∀ i, (wI M4 77 n (nI (Cl.length + E.length))).1 76 i = M3.1 76 i := fun i => x0 76 i (by omega)
    have t3 : ∀ i, (wI M4 77 n (nI (Cl.length + E.length))).1 78 i = M3.1 78 i := fun i => x0 78 i (by omega)
    have t4 : (wI M4 77 n (nI (Cl.length + E.length))).1 66 17 = nI n := v17
    generalize wI M4 77 n (nI (Cl.length + E.length)) = M5 at *
    obtain ⟨w, E2, pos2, C7, M7, d1, d2, d3, d4, d5, d6, d7⟩ := ex_l hlen _ _ (pos1 + 1) C6 M5 R7 (by omega) (by omega)
    dsimp only at d1
    have KN7 : Kp PmN MM M7 := KN3.tr (((K4m.mono (fun a i h => PmL_N h)).tr (X5.mono (fun a i h => PmX_N h))).tr (d6.mono (fun a i h => PmL_N h)))
    have KC7 : Kp (PcL D) MC C7 := a5.tr (K4c.tr (K5.tr (K6.tr d5)))
    rw [d1, Option.bind_some] at eC
    rw [d2, Option.bind_some] at eM
    dsimp only at eC eM
    by_cases w0 : w = 0
    · subst w0
      rw [if_neg (fun z => z rfl)] at eC eM
      exact ⟨0, pos2, C7, M7, eC, eM, KC7, KN7, Or.inl ⟨rfl, _, _, d3⟩⟩
    obtain ⟨w1', g3, g4⟩ := d7.resolve_left w0
    subst w1'
    have p2 := d3.2.1.1
    have q17 : M7.1 66 17 = nI n := by rw [d6.1 66 17 (by unfold PmL; omega)]; exact t4
    have lC7 : ((Cl ++ E) ++ E2).length = Cl.length + E.length + E2.length := by simp; omega
    have q16 : M7.1 66 16 = nI (Cl.length + E.length + E2.length) := by rw [← lC7]; exact d3.2.2.2.2.2.2.2.1
    have lD7 : ((((Dl ++ E.map phi) ++ [-2]) ++ [0]) ++ E2.map phi).length = Dl.length + E.length + 2 + E2.length := by simp; omega
    obtain ⟨C8, b3, R8, K8⟩ := d3.step (by omega) (by omega) (-3)
    have lD8 : (((((Dl ++ E.map phi) ++ [-2]) ++ [0]) ++ E2.map phi) ++ [-3]).length = Dl.length + E.length + 2 + E2.length + 1 := by simp; omega
    have at8 : C8.1 7 4 = nI (Dl.length + E.length + 2 + E2.length + 1) := by rw [← lD8]; exact R8.2.2.2.2.1
    have D8 := R8.2.2.1
    have D8' := R8.2.2.2.1
    have ln8 : lnD C8.2.2.1 = some 240 := by rw [D8', lnD, if_pos D8]
    have c240 : ¬ (240 : Int32) ≤ nI (Dl.length + E.length + 1) := fun z => absurd ((leL (b := 240) 240 rfl (by omega) (by omega)).mp z) (by omega)
    have st8 : stD C8.2.2.1 C8 (nI (Dl.length + E.length + 1)) (nI (Dl.length + E.length + 2 + E2.length + 1)) = some (wI C8 D (Dl.length + E.length + 1) (nI (Dl.length + E.length + 2 + E2.length + 1))) := by rw [D8', stD, if_pos D8, stI_n (by omega) (by omega)]
    rw [if_pos z1, b3, Option.bind_some, ln8, Option.bind_some, if_neg c240, at8, st8, Option.bind_some] at eC
    rw [if_pos z1, J71_e q17 n60] at eM
    have R8' : RdL D len t 0 (((Dl ++ E.map phi) ++ [-2]) ++ [0] ++ (E2.map phi ++ [-3])) ((Cl ++ E) ++ E2) pos2 C8 M7 := by rw [← List.append_assoc]; exact R8
    obtain ⟨R9, K9⟩ := R8'.put (nI (Dl.length + E.length + 2 + E2.length + 1))
    rw [lD5] at R9 K9
    have X9 : Kp PmX M7 (wI (wI M7 66 17 (nI (n + 1))) 78 n (M7.1 66 16)) := (kX (by unfold PmX; omega)).tr (kX (by unfold PmX; omega))
    have R10 := R9.kp X9
    have fC : flC 0 (L ++ [(E, E2)]) = ((Dl ++ E.map phi) ++ [-2]) ++ [nI (Dl.length + E.length + 2 + E2.length + 1)] ++ (E2.map phi ++ [-3]) := by
      rw [flC_one, hDl, Nat.zero_add, lnC, if_neg g2.ne]
      simp
    have fM : flM (L ++ [(E, E2)]) = (Cl ++ E) ++ E2 := by rw [flM_one, hCl, ← List.append_assoc]
    refine ⟨1, pos2, _, _, eC, eM, KC7.tr (K8.tr K9), KN7.tr (X9.mono (fun a i h => PmX_N h)), Or.inr ⟨rfl, by omega, (E, E2), ?_, ?_, ?_, ?_, ?_, ?_⟩⟩
    · rw [fC, fM]; exact R10
    · rw [List.length_append, hn]; rfl
    · refine Nts.snoc (hN.kp (fun i hi => ?_)) ?_ ?_ ?_
      · rw [hn] at hi
        refine ⟨?_, ?_, ?_⟩
        · show M7.1 76 i = _
          rw [d6.1 76 i (by unfold PmL; omega), t2]; exact y2 i hi
        · show M7.1 77 i = _
          rw [d6.1 77 i (by unfold PmL; omega)]; exact t1 i hi
        · rw [wI_1, if_pos rfl, upd_a, if_neg (by omega)]
          show M7.1 78 i = _
          rw [d6.1 78 i (by unfold PmL; omega), t3]; exact y5 i
      · rw [hn, hCl]
        show M7.1 76 n = _
        rw [d6.1 76 n (by unfold PmL; omega), t2]; exact y3
      · rw [hn, hCl]
        show M7.1 77 n = _
        rw [d6.1 77 n (by unfold PmL; omega)]; exact t0
      · rw [hn, hCl, wI_1, if_pos rfl, upd_a, if_pos rfl]; exact q16
    · intro q hq'
      rcases List.mem_append.mp hq' with z | z
      · exact hV q z
      · rw [List.mem_singleton.mp z]; exact ⟨g4.valid, Or.inr g2.valid⟩
    · rw [fC]; simp; omega
    · rw [fM]; simp; omega
  · rw [if_neg hq, Option.bind_some] at eC eM
    dsimp only at eC eM
    rw [if_neg (fun z => z rfl)] at eC
    rw [if_pos rfl, J71_e y4 n60] at eM
    obtain ⟨C5, b1, R5, K5⟩ := R3.step (by omega) (by omega) (-3)
    rw [b1, Option.bind_some] at eC
    have q16 : M3.1 66 16 = nI (Cl.length + E.length) := by rw [← lE']; exact R3.2.2.2.2.2.2.2.1
    have X9 : Kp PmX M3 (wI (wI M3 66 17 (nI (n + 1))) 78 n (M3.1 66 16)) := (kX (by unfold PmX; omega)).tr (kX (by unfold PmX; omega))
    have R10 := R5.kp X9
    have fC : flC 0 (L ++ [([], E)]) = (Dl ++ E.map phi) ++ [-3] := by
      rw [flC_one, hDl, Nat.zero_add, lnC, if_pos rfl, List.append_assoc]
    have fM : flM (L ++ [([], E)]) = Cl ++ E := by rw [flM_one, hCl, List.nil_append]
    refine ⟨1, pos1, _, _, eC, eM, a5.tr K5, KN3.tr (X9.mono (fun a i h => PmX_N h)), Or.inr ⟨rfl, by omega, ([], E), ?_, ?_, ?_, ?_, ?_, ?_⟩⟩
    · rw [fC, fM]; exact R10
    · rw [List.length_append, hn]; rfl
    · refine Nts.snoc (hN.kp (fun i hi => ?_)) ?_ ?_ ?_
      · rw [hn] at hi
        refine ⟨y2 i hi, y1 i hi, ?_⟩
        rw [wI_1, if_pos rfl, upd_a, if_neg (by omega)]
        exact y5 i
      · rw [hn, hCl]; exact y3
      · rw [hn, hCl]; exact y0
      · rw [hn, hCl, wI_1, if_pos rfl, upd_a, if_pos rfl]; exact q16
    · intro q hq'
      rcases List.mem_append.mp hq' with z | z
      · exact hV q z
      · rw [List.mem_singleton.mp z]; exact ⟨g2.valid, Or.inl rfl⟩
    · rw [fC]; simp; omega
    · rw [fM]; simp; omega
theorem LnR.adv {D len : Nat} {t : Nat → Int32} {L : Lines} {pos : Nat} {MC MM : Mem} (h : LnR D len t L pos MC MM) (hp : pos < len) : LnR D len t L (pos + 1) (wI MC 7 2 (MC.1 7 2 + 1)) (wI MM 66 14 (MM.1 66 14 + 1)) ∧ Kp (PcL D) MC (wI MC 7 2 (MC.1 7 2 + 1)) ∧ Kp PmN MM (wI MM 66 14 (MM.1 66 14 + 1)) := by
  obtain ⟨hR, h17, hN, hV, hb1, hb2⟩ := h
  obtain ⟨R1, K1, K2⟩ := hR.adv hp
  exact ⟨⟨R1, h17, hN.kp (fun i _ => ⟨rfl, rfl, rfl⟩), hV, by omega, by omega⟩, K1, K2.mono (fun a i h => PmL_N h)⟩
theorem lines_l {D len : Nat} {t : Nat → Int32} (hlen : len ≤ 120) : ∀ n f f' (L : Lines) pos MC MM, len - pos ≤ n → n < f → n < f' → LnR D len t L pos MC MM → 2 * L.length ≤ pos → ∃ v x pos' MC' MM', fLaw_readLines_L2 f MC (nI L.length) = some (v, MC') ∧ (Option.bind (fMd_isLine MM) fun q => fMd_law_L25 f' q.2 q.1) = some (MM', x) ∧ Kp (PcL D) MC MC' ∧ Kp PmN MM MM' ∧ ((v = 0 ∧ (x = 0 ∨ pos' ≠ len) ∧ ∃ A B, RdL D len t 0 A B pos' MC' MM') ∨ (v = 1 ∧ x = 1 ∧ pos' = len ∧ ∃ L', L' ≠ [] ∧ L'.length ≤ 60 ∧ LnR D len t L' pos' MC' MM')) := by
  intro n
  induction n with
  | zero =>
    intro f f' L pos MC MM hn hf hf' hL h2
    obtain ⟨f, rfl⟩ : ∃ g, f = g + 1 := ⟨f - 1, by omega⟩
    obtain ⟨f', rfl⟩ : ∃ g, f' = g + 1 := ⟨f' - 1, by omega⟩
    have hp := hL.1.2.1.1
    have c0 : ¬ 120 < nI L.length := fun z => absurd ((ltL (b := 120) 120 rfl (by omega) (by omega)).mp z) (by omega)
    obtain ⟨v, pos1, MC1, MM1, a1, a2, a3, a4, a5⟩ := line_l hlen hL h2
    rcases a5 with ⟨v0, A, B, a5⟩ | ⟨v1, a5, q, a6⟩
    · subst v0
      refine ⟨0, 0, pos1, MC1, MM1, ?_, ?_, a3, a4, Or.inl ⟨rfl, Or.inl rfl, A, B, a5⟩⟩
      · show fLaw_readLines_L2_F (fLaw_readLines_L2 f) MC (nI L.length) = _
        rw [fLaw_readLines_L2_F, if_neg c0, a1, Option.bind_some, if_neg (fun z => z rfl)]
      · rw [a2, Option.bind_some]
        show fMd_law_L25_F (fMd_law_L25 f') MM1 0 = _
        rw [fMd_law_L25_F, if_pos rfl]
    · have := a6.1.2.1.1
      omega
  | succ n ih =>
    intro f f' L pos MC MM hn hf hf' hL h2
    obtain ⟨f, rfl⟩ : ∃ g, f = g + 1 := ⟨f - 1, by omega⟩
    obtain ⟨f', rfl⟩ : ∃ g, f' = g + 1 := ⟨f' - 1, by omega⟩
    have hp := hL.1.2.1.1
    have z1 : ¬ (1 : Int32) = 0 := by decide
    have c0 : ¬ 120 < nI L.length := fun z => absurd ((ltL (b := 120) 120 rfl (by omega) (by omega)).mp z) (by omega)
    obtain ⟨v, pos1, MC1, MM1, a1, a2, a3, a4, a5⟩ := line_l hlen hL h2
    rcases a5 with ⟨v0, A, B, a5⟩ | ⟨v1, a5, q, a6⟩
    · subst v0
      refine ⟨0, 0, pos1, MC1, MM1, ?_, ?_, a3, a4, Or.inl ⟨rfl, Or.inl rfl, A, B, a5⟩⟩
      · show fLaw_readLines_L2_F (fLaw_readLines_L2 f) MC (nI L.length) = _
        rw [fLaw_readLines_L2_F, if_neg c0, a1, Option.bind_some, if_neg (fun z => z rfl)]
      · rw [a2, Option.bind_some]
        show fMd_law_L25_F (fMd_law_L25 f') MM1 0 = _
        rw [fMd_law_L25_F, if_pos rfl]
    subst v1
    have l1 : (L ++ [q]).length = L.length + 1 := by simp
    have p1 := a6.1.2.1.1
    have eC : fLaw_readLines_L2 (f + 1) MC (nI L.length) = Option.bind (fLaw_took MC1 59) fun q5 => if ¬ q5.1 = 0 then fLaw_readLines_L2 f q5.2 (nI (L ++ [q]).length) else if (q5.2.1 7 2) < (q5.2.1 7 0) then some (0, q5.2) else some (1, q5.2) := by
      show fLaw_readLines_L2_F (fLaw_readLines_L2 f) MC (nI L.length) = _
      rw [fLaw_readLines_L2_F, if_neg c0, a1, Option.bind_some, if_pos z1, nI_1, l1]
    have eM : (Option.bind (fMd_isLine MM) fun q => fMd_law_L25 (f' + 1) q.2 q.1) = Option.bind (fMd_is MM1 59) fun q4 => if q4.1 = 0 then some (q4.2, 1) else Option.bind (fMd_isLine q4.2) fun q7 => fMd_law_L25 f' q7.2 q7.1 := by
      rw [a2, Option.bind_some]
      show fMd_law_L25_F (fMd_law_L25 f') MM1 1 = _
      rw [fMd_law_L25_F, if_neg z1]
    rw [took_c a6.1.sc] at eC
    rw [is_m a6.1.sm] at eM
    by_cases hq : sgn t len pos1 = 59
    · rw [if_pos hq, Option.bind_some] at eC eM
      dsimp only at eC eM
      rw [if_pos z1] at eC
      rw [if_neg z1] at eM
      have hp1 : pos1 < len := sgn_in hq (by decide)
      obtain ⟨R2, K2, K3⟩ := a6.adv hp1
      obtain ⟨v, x, pos', MC', MM', b1, b2, b3, b4, b5⟩ := ih f f' (L ++ [q]) (pos1 + 1) _ _ (by omega) (by omega) (by omega) R2 (by omega)
      exact ⟨v, x, pos', MC', MM', eC.trans b1, eM.trans b2, a3.tr (K2.tr b3), a4.tr (K3.tr b4), b5⟩
    · rw [if_neg hq, Option.bind_some] at eC eM
      dsimp only at eC eM
      rw [if_neg (fun z => z rfl), a6.1.1.2.1, a6.1.2.1.2.1] at eC
      rw [if_pos rfl] at eM
      by_cases hl : pos1 < len
      · rw [if_pos ((nI_ltI (by omega) (by omega)).mpr hl)] at eC
        exact ⟨0, 1, pos1, MC1, MM1, eC, eM, a3, a4, Or.inl ⟨rfl, Or.inr (by omega), _, _, a6.1⟩⟩
      · rw [if_neg (fun z => hl ((nI_ltI (by omega) (by omega)).mp z))] at eC
        exact ⟨1, 1, pos1, MC1, MM1, eC, eM, a3, a4, Or.inr ⟨rfl, rfl, by omega, L ++ [q], by simp, by omega, a6⟩⟩
/-! what the reference lays down of a law it has read -/
def PcpA (a _i : Nat) : Prop := 72 ≤ a ∧ a ≤ 74
def PcpB (a _i : Nat) : Prop := a = 75
theorem cpA {n : Nat} (hn : n ≤ 60) : ∀ d i f (M : Mem), i + d = n → d < f → M.1 66 9 = nI n → ∃ M', fMd_law_L99 f M (nI i) = some M' ∧ Kp PcpA M M' ∧ (∀ j, i ≤ j → j < n → M'.1 72 j = M.1 76 j ∧ M'.1 73 j = M.1 77 j ∧ M'.1 74 j = M.1 78 j) ∧ ∀ j, j < i → M'.1 72 j = M.1 72 j ∧ M'.1 73 j = M.1 73 j ∧ M'.1 74 j = M.1 74 j := by
  intro d
  induction d with
  | zero =>
    intro i f M hi hf h9
    obtain ⟨f, rfl⟩ : ∃ g, f = g + 1 := ⟨f - 1, by omega⟩
    refine ⟨M, ?_, Kp.rf _ _, fun j h1 h2 => absurd h1 (by omega), fun j _ => ⟨rfl, rfl, rfl⟩⟩
    show fMd_law_L99_F (fMd_law_L99 f) M (nI i) = _
    rw [fMd_law_L99_F, h9, if_pos ((nI_leI (by omega) (by omega)).mpr (by omega))]
  | succ d ih =>
    intro i f M hi hf h9
    obtain ⟨f, rfl⟩ : ∃ g, f = g + 1 := ⟨f - 1, by omega⟩
    have c0 : ¬ nI n ≤ nI i := fun z => absurd ((nI_leI (by omega) (by omega)).mp z) (by omega)
    have e : fMd_law_L99 (f + 1) M (nI i) = fMd_law_L99 f (wI (wI (wI M 72 i (M.1 76 i)) 73 i (M.1 77 i)) 74 i (M.1 78 i)) (nI (i + 1)) := by
      show fMd_law_L99_F (fMd_law_L99 f) M (nI i) = _
      rw [fMd_law_L99_F, h9, if_neg c0, rdI_n (by omega) (by omega), Option.bind_some, stI_n (by omega) (by omega), Option.bind_some, rdI_n (by omega) (by omega), Option.bind_some, stI_n (by omega) (by omega), Option.bind_some, rdI_n (by omega) (by omega), Option.bind_some, stI_n (by omega) (by omega), Option.bind_some, nI_1]
      rfl
    have K : Kp PcpA M (wI (wI (wI M 72 i (M.1 76 i)) 73 i (M.1 77 i)) 74 i (M.1 78 i)) := ((Kp.w _ _ (by unfold PcpA; omega)).tr (Kp.w _ _ (by unfold PcpA; omega))).tr (Kp.w _ _ (by unfold PcpA; omega))
    have u1 : ∀ j, (wI (wI (wI M 72 i (M.1 76 i)) 73 i (M.1 77 i)) 74 i (M.1 78 i)).1 72 j = if j = i then M.1 76 i else M.1 72 j := fun j => by
      show upd (M.1 72) i (M.1 76 i) j = _
      rw [upd_a]
    have u2 : ∀ j, (wI (wI (wI M 72 i (M.1 76 i)) 73 i (M.1 77 i)) 74 i (M.1 78 i)).1 73 j = if j = i then M.1 77 i else M.1 73 j := fun j => by
      show upd (M.1 73) i (M.1 77 i) j = _
      rw [upd_a]
    have u3 : ∀ j, (wI (wI (wI M 72 i (M.1 76 i)) 73 i (M.1 77 i)) 74 i (M.1 78 i)).1 74 j = if j = i then M.1 78 i else M.1 74 j := fun j => by
      show upd (M.1 74) i (M.1 78 i) j = _
      rw [upd_a]
    obtain ⟨M', b1, b2, b3, b4⟩ := ih (i + 1) f _ (by omega) (by omega) (by rw [K.1 66 9 (by unfold PcpA; omega)]; exact h9)
    refine ⟨M', e.trans b1, K.tr b2, fun j h1 h2 => ?_, fun j hj => ?_⟩
    · by_cases z : j = i
      · obtain ⟨q1, q2, q3⟩ := b4 j (by omega)
        rw [q1, q2, q3, u1, u2, u3, if_pos z, if_pos z, if_pos z, z]
        exact ⟨rfl, rfl, rfl⟩
      · obtain ⟨q1, q2, q3⟩ := b3 j (by omega) h2
        rw [q1, q2, q3, K.1 76 j (by unfold PcpA; omega), K.1 77 j (by unfold PcpA; omega), K.1 78 j (by unfold PcpA; omega)]
        exact ⟨rfl, rfl, rfl⟩
    · obtain ⟨q1, q2, q3⟩ := b4 j (by omega)
      rw [q1, q2, q3, u1, u2, u3, if_neg (by omega), if_neg (by omega), if_neg (by omega)]
      exact ⟨rfl, rfl, rfl⟩
theorem cpB {n : Nat} (hn : n ≤ 120) : ∀ d i f (M : Mem), i + d = n → d < f → M.1 66 16 = nI n → ∃ M', fMd_law_L151 f M (nI i) = some M' ∧ Kp PcpB M M' ∧ (∀ j, i ≤ j → j < n → M'.1 75 j = M.1 79 j) ∧ ∀ j, j < i → M'.1 75 j = M.1 75 j := by
  intro d
  induction d with
  | zero =>
    intro i f M hi hf h9
    obtain ⟨f, rfl⟩ : ∃ g, f = g + 1 := ⟨f - 1, by omega⟩
    refine ⟨M, ?_, Kp.rf _ _, fun j h1 h2 => absurd h1 (by omega), fun j _ => rfl⟩
    show fMd_law_L151_F (fMd_law_L151 f) M (nI i) = _
    rw [fMd_law_L151_F, h9, if_pos ((nI_leI (by omega) (by omega)).mpr (by omega))]
  | succ d ih =>
    intro i f M hi hf h9
    obtain ⟨f, rfl⟩ : ∃ g, f = g + 1 := ⟨f - 1, by omega⟩
    have c0 : ¬ nI n ≤ nI i := fun z => absurd ((nI_leI (by omega) (by omega)).mp z) (by omega)
    have e : fMd_law_L151 (f + 1) M (nI i) = fMd_law_L151 f (wI M 75 i (M.1 79 i)) (nI (i + 1)) := by
      show fMd_law_L151_F (fMd_law_L151 f) M (nI i) = _
      rw [fMd_law_L151_F, h9, if_neg c0, rdI_n (by omega) (by omega), Option.bind_some, stI_n (by omega) (by omega), Option.bind_some, nI_1]
    have K : Kp PcpB M (wI M 75 i (M.1 79 i)) := Kp.w _ _ (by unfold PcpB; omega)
    have u1 : ∀ j, (wI M 75 i (M.1 79 i)).1 75 j = if j = i then M.1 79 i else M.1 75 j := fun j => by
      show upd (M.1 75) i (M.1 79 i) j = _
      rw [upd_a]
    obtain ⟨M', b1, b2, b3, b4⟩ := ih (i + 1) f _ (by omega) (by omega) (by rw [K.1 66 16 (by unfold PcpB; omega)]; exact h9)
    refine ⟨M', e.trans b1, K.tr b2, fun j h1 h2 => ?_, fun j hj => ?_⟩
    · by_cases z : j = i
      · rw [b4 j (by omega), u1, if_pos z, z]
      · rw [b3 j (by omega) h2, K.1 79 j (by unfold PcpB; omega)]
    · rw [b4 j (by omega), u1, if_neg (by omega)]
def PT2 (D a i : Nat) : Prop := (a = 7 ∧ (i = 0 ∨ i = 2 ∨ i = 4 ∨ i = 6)) ∨ a = D ∨ (a = 66 ∧ (i = 6 ∨ i = 8 ∨ i = 9 ∨ (14 ≤ i ∧ i ≤ 17))) ∨ (72 ≤ a ∧ a ≤ 79)
theorem law_fin {p n D : Nat} {M M2 : Mem} (hN : IvN p M) (hD : IvD M) (hIm : IvI p M) (hC : IvC p M) (hB : IvB n M) (hS : IvS n M) (hZ : IvZ M) (K : ∀ a i, ¬ PT2 D a i → M2.1 a i = M.1 a i) (K2 : M2.2.1 = M.2.1) (h9 : D = 9 ∨ D = 10) (hT : IvT M2) (hL : IvL M2) : Inv M2 := by
  have K' : Keep [7, 9, 10, 72, 73, 74, 75, 76, 77, 78, 79] [6, 8, 9, 14, 15, 16, 17] M (M2.1, M.2) := ⟨fun a ha h6 => funext fun i => K a i (fun h => by
    have : a ≠ 7 ∧ a ≠ 9 ∧ a ≠ 10 ∧ a ≠ 72 ∧ a ≠ 73 ∧ a ≠ 74 ∧ a ≠ 75 ∧ a ≠ 76 ∧ a ≠ 77 ∧ a ≠ 78 ∧ a ≠ 79 := by simpa using ha
    unfold PT2 at h
    omega), fun i hi => K 66 i (fun h => by
    have : i ≠ 6 ∧ i ≠ 8 ∧ i ≠ 9 ∧ i ≠ 14 ∧ i ≠ 15 ∧ i ≠ 16 ∧ i ≠ 17 := by simpa using hi
    unfold PT2 at h
    omega), rfl⟩
  have a1 := hN.kp K' ⟨rfl, rfl, rfl, rfl, rfl, rfl, rfl, rfl, rfl, rfl, rfl, rfl, rfl, rfl, rfl, rfl⟩
  have a3 := hD.kp K' ⟨rfl, rfl⟩
  have a4 := hIm.kp K' ⟨rfl, rfl, rfl, rfl, rfl, rfl, rfl, rfl, rfl, rfl, rfl⟩
  have a5 := hC.kp K' ⟨rfl, rfl, rfl, rfl, rfl, rfl, rfl, rfl, rfl⟩
  have a6 := hB.kp K' ⟨rfl, rfl, rfl, rfl, rfl, rfl, rfl, rfl⟩
  have a7 := hZ.kp K' ⟨rfl, rfl, rfl, rfl⟩
  have a8 := hS.kp K' ⟨rfl, rfl, rfl, rfl⟩
  exact ⟨p, n, a1.congr rfl rfl rfl rfl rfl rfl rfl rfl rfl rfl rfl rfl rfl rfl rfl rfl, hT, a3.congr rfl rfl, a4.congr rfl rfl rfl rfl rfl rfl rfl rfl rfl rfl rfl, a5.congr rfl rfl rfl rfl rfl rfl rfl rfl rfl, a6.congr rfl rfl rfl rfl rfl rfl rfl rfl, a8.congr rfl rfl rfl rfl K2, a7.congr rfl rfl rfl rfl, hL⟩
def G0 (M : Mem) : Mem := wI (wI (wI (wI M 66 14 0) 66 15 0) 66 16 0) 66 17 0
theorem G0_kp (M : Mem) : Kp PmN M (G0 M) := (((Kp.w (P := PmN) M 0 (a := 66) (i := 14) (by unfold PmN; omega)).tr (Kp.w _ _ (by unfold PmN; omega))).tr (Kp.w _ _ (by unfold PmN; omega))).tr (Kp.w _ _ (by unfold PmN; omega))
theorem law_m {M MM : Mem} {x : Int32} (h : (Option.bind (fMd_isLine (G0 M)) fun q => fMd_law_L25 FU q.2 q.1) = some (MM, x)) : fMd_law M = fMd_law_J46 MM x := by
  have : fMd_law M = Option.bind (Option.bind (fMd_isLine (G0 M)) fun q => fMd_law_L25 FU q.2 q.1) fun o9 => fMd_law_J46 o9.1 o9.2 := by
    rw [Option.bind_assoc]
    rfl
  rw [this, h, Option.bind_some]
theorem s_law : Sim fSh_law fMd_law := by
  rintro M ⟨p, n, hN, hT, hD, hIm, hC, hB, hS, hZ, hL⟩
  obtain ⟨len, l1, l2, l3, l4⟩ := hT
  have hsw := hL.1
  obtain ⟨D, hDd⟩ : ∃ D, M.2.2.1 = D := ⟨_, rfl⟩
  obtain ⟨S, hSd⟩ : ∃ S, M.2.2.2 = S := ⟨_, rfl⟩
  have h9 : D = 9 ∨ D = 10 := by
    rcases hsw with q | q <;> rw [q] at hDd <;> dsimp only at hDd <;> omega
  have hDS : S ≠ D ∧ (S = 9 ∨ S = 10) := by
    rcases hsw with q | q <;> rw [q] at hDd hSd <;> dsimp only at hDd hSd <;> omega
  have hsw2 : (S, D) = (9, 10) ∨ (S, D) = (10, 9) := by
    rcases hsw with q | q <;> rw [q] at hDd hSd <;> dsimp only at hDd hSd <;> subst hDd <;> subst hSd
    · exact Or.inr rfl
    · exact Or.inl rfl
  have z1 : ¬ (1 : Int32) = 0 := by decide
  have start : ∀ M' : Mem, M'.1 66 6 = nI len → (∀ i, i < len → M'.1 71 i = M.1 8 i) → LnR D len (M.1 8) [] 0 (wI (wI M 7 2 0) 7 4 0) (G0 M') := by
    intro M' h6 h71
    refine ⟨⟨⟨l1, l2, h6, fun i hi => ⟨rfl, h71 i hi⟩⟩, ⟨Nat.zero_le _, rfl, rfl⟩, h9, hDd, rfl, ?_, rfl, rfl, ?_⟩, rfl, ?_, ?_, Nat.zero_le _, Nat.zero_le _⟩
    · intro j c h; simp [flC] at h
    · intro j c h; simp [flM] at h
    · intro i q h; simp at h
    · intro q h; simp at h
  obtain ⟨v, x, pos, MC, MM, a1, a2, a3, a4, a5⟩ := lines_l l1 120 FU FU [] 0 _ _ (by omega) (fu_lt (by omega)) (fu_lt (by omega)) (start M l3 (fun i hi => (l4 i hi).1)) (by simp)
  have a1' : fLaw_readLines (wI (wI M 7 2 0) 7 4 0) = some (v, MC) := a1
  have KC : Kp (fun a i => PcL D a i) M MC := ((Kp.w (P := PcL D) M 0 (a := 7) (i := 2) (by unfold PcL; omega)).tr (Kp.w _ _ (by unfold PcL; omega))).tr a3
  have eC : fSh_law M = if ¬ v = 0 then some (1, (wI (wD (wS (wI MC 7 0 0) ((wI MC 7 0 0).2.2.1)) ((wI MC 7 0 0).2.2.2)) 7 6 ((wD (wS (wI MC 7 0 0) ((wI MC 7 0 0).2.2.1)) ((wI MC 7 0 0).2.2.2)).1 7 4))) else some ((-100) - ((wI MC 7 0 0).1 7 2), (wI MC 7 0 0)) := by
    rw [fSh_law, fLaw_read, a1', Option.bind_some]
    dsimp only
    by_cases q : v = 0
    · have nq : ¬ ¬ v = 0 := fun z => z q
      rw [if_neg nq]; simp only [if_neg nq, Option.bind_some]
    · rw [if_pos q]; simp only [if_pos q, Option.bind_some]
  have c66 : MC.1 66 = M.1 66 := KC.f (fun i h => by unfold PcL at h; omega)
  have c71 : MC.1 71 = M.1 71 := KC.f (fun i h => by unfold PcL at h; omega)
  by_cases v0 : v = 0
  · rw [if_neg (fun z => z v0)] at eC
    clear a5 a4 a2
    generalize hM1 : wI MC 7 0 0 = M1 at *
    have m66 : M1.1 66 = MC.1 66 := by rw [← hM1]; rfl
    have m71 : M1.1 71 = MC.1 71 := by rw [← hM1]; rfl
    obtain ⟨v', x', pos', MC', MM', b1, b2, b3, b4, b5⟩ := lines_l l1 120 FU FU [] 0 _ _ (by omega) (fu_lt (by omega)) (fu_lt (by omega)) (start M1 (by rw [m66, c66]; exact l3) (fun i hi => by rw [m71, c71]; exact (l4 i hi).1)) (by simp)
    obtain ⟨rfl, rfl⟩ : v = v' ∧ MC = MC' := by
      have := a1.symm.trans b1
      injection this with this
      exact Prod.mk.inj this
    obtain ⟨-, b6, A, B, b7⟩ := b5.resolve_right (fun z => z1 (z.1.symm.trans v0))
    clear b5
    have J : fMd_law_J46 MM' x' = some ((-100) - (wI MM' 66 6 0).1 66 14, wI MM' 66 6 0) := by
      have e0 : fMd_law_J65 MM' = some ((-100) - (wI MM' 66 6 0).1 66 14, wI MM' 66 6 0) := by
        rw [fMd_law_J65, fMd_law_J66, if_neg (fun z => z rfl)]
      rw [fMd_law_J46]
      by_cases q : x' = 0
      · rw [if_pos q, e0]
      · have pl : pos' ≠ len := b6.resolve_left q
        have p1 := b7.2.1.1
        have ne : ¬ MM'.1 66 14 = MM'.1 66 6 := by
          rw [b7.2.1.2.2, b7.1.2.2.1]
          exact fun z => pl ((eqR (b := nI len) len rfl (by omega) (by omega)).mp z)
        rw [if_neg q, if_pos ne, e0]
    have f1 : M1.1 7 2 = nI pos' := by rw [← hM1]; exact b7.2.1.2.1
    have f2 : (wI MM' 66 6 0).1 66 14 = nI pos' := b7.2.1.2.2
    rw [f1] at eC
    rw [f2] at J
    have K2 : Kp (PT2 D) M (wI MM' 66 6 0) := by
      have k1 : Kp (PT2 D) MC M1 := by rw [← hM1]; exact Kp.w _ _ (by unfold PT2; omega)
      exact (((KC.mono (fun a i h => by unfold PcL at h; unfold PT2; omega)).tr k1).tr (((G0_kp M1).tr b4).mono (fun a i h => by unfold PmN at h; unfold PT2; omega))).tr (Kp.w _ _ (by unfold PT2; omega))
    have K3 : ∀ a i, ¬ ((a = 7 ∧ (i = 0 ∨ i = 2 ∨ i = 4)) ∨ a = D ∨ (a = 66 ∧ (i = 6 ∨ (14 ≤ i ∧ i ≤ 17))) ∨ (76 ≤ a ∧ a ≤ 79)) → (wI MM' 66 6 0).1 a i = M.1 a i := by
      have k1 : Kp (fun a i => a = 7 ∧ i = 0) MC M1 := by rw [← hM1]; exact Kp.w _ _ (by omega)
      have k2 : Kp (fun a i => a = 66 ∧ i = 6) MM' (wI MM' 66 6 0) := Kp.w _ _ (by omega)
      intro a i h
      rw [k2.1 a i (by omega), ((G0_kp M1).tr b4).1 a i (by unfold PmN; omega), k1.1 a i (by omega), KC.1 a i (by unfold PcL; omega)]
    have g0 : (wI MM' 66 6 0).1 7 0 = nI 0 := by
      show MM'.1 7 0 = _
      rw [((G0_kp M1).tr b4).1 7 0 (by unfold PmN; omega), ← hM1]
      rfl
    refine ⟨(-100) - nI pos', M1, wI MM' 66 6 0, eC, (law_m b2).trans J, law_fin hN hD hIm hC hB hS hZ (fun a i h => K2.1 a i h) (by rw [K2.2]) h9 ⟨0, by omega, g0, rfl, fun i h => absurd h (by omega)⟩ ?_⟩
    have r72 : ∀ a, 72 ≤ a → a ≤ 75 → (wI MM' 66 6 0).1 a = M.1 a := fun a h1 h2 => funext fun i => K3 a i (by omega)
    have rS : (wI MM' 66 6 0).1 S = M.1 S := funext fun i => K3 S i (by omega)
    unfold IvL
    rw [K2.2, hSd, rS, K3 7 6 (by omega), K3 66 8 (by omega), K3 66 9 (by omega), r72 72 (by omega) (by omega), r72 73 (by omega) (by omega), r72 74 (by omega) (by omega), r72 75 (by omega) (by omega)]
    rw [← hSd]
    exact hL
  · rw [if_pos v0] at eC
    clear a5 a4 a2
    have mm2 : MC.2 = M.2 := KC.2
    generalize hM1 : (wI (wD (wS (wI MC 7 0 0) ((wI MC 7 0 0).2.2.1)) ((wI MC 7 0 0).2.2.2)) 7 6 ((wD (wS (wI MC 7 0 0) ((wI MC 7 0 0).2.2.1)) ((wI MC 7 0 0).2.2.2)).1 7 4)) = M1 at *
    have m66 : M1.1 66 = MC.1 66 := by rw [← hM1]; rfl
    have m71 : M1.1 71 = MC.1 71 := by rw [← hM1]; rfl
    have m76 : M1.1 7 6 = MC.1 7 4 := by rw [← hM1]; rfl
    have m70 : M1.1 7 0 = nI 0 := by rw [← hM1]; rfl
    have m2 : M1.2.1 = M.2.1 := by
      rw [← hM1, ← mm2]
      rfl
    have m22 : M1.2.2 = (S, D) := by
      rw [← hM1, ← hSd, ← hDd, ← mm2]
      rfl
    have k1 : ∀ a i, ¬ (a = 7 ∧ (i = 0 ∨ i = 6)) → M1.1 a i = MC.1 a i := fun a i h => by
      rw [← hM1, wI_1]
      by_cases z : a = 7
      · rw [if_pos z, upd_a, if_neg (by omega)]
        show (wI MC 7 0 0).1 7 i = MC.1 a i
        rw [wI_1, if_pos rfl, upd_a, if_neg (by omega), z]
      · rw [if_neg z]
        show (wI MC 7 0 0).1 a i = _
        rw [wI_1, if_neg z]
    clear hM1
    obtain ⟨v', x', pos', MC', MM', b1, b2, b3, b4, b5⟩ := lines_l l1 120 FU FU [] 0 _ _ (by omega) (fu_lt (by omega)) (fu_lt (by omega)) (start M1 (by rw [m66, c66]; exact l3) (fun i hi => by rw [m71, c71]; exact (l4 i hi).1)) (by simp)
    obtain ⟨rfl, rfl⟩ : v = v' ∧ MC = MC' := by
      have := a1.symm.trans b1
      injection this with this
      exact Prod.mk.inj this
    obtain ⟨-, hx, hpl, L', hne, h60, R, h17, hNt, hV, hb1, hb2⟩ := b5.resolve_left (fun z => v0 z.1)
    clear b5
    subst hx
    have p1 := R.2.1.1
    have e1417 : ¬ ¬ MM'.1 66 14 = MM'.1 66 6 := fun z => z (by rw [R.2.1.2.2, R.1.2.2.1, hpl])
    have J : fMd_law_J46 MM' 1 = Option.bind (fMd_law_L99 FU (wI (wI (wI MM' 66 6 0) 66 8 1) 66 9 (MM'.1 66 17)) 0) fun o20 => Option.bind (fMd_law_L151 FU o20 0) fun o24 => some (1, o24) := by
      have o1 : (1 : Int32) = 0 ∨ (1 : Int32) = 1 := Or.inr rfl
      rw [fMd_law_J46, if_neg z1, if_neg e1417, fMd_law_J66, if_pos z1, stZ, if_pos o1, Option.bind_some]
      rfl
    have K13 : Kp (fun a i => a = 66 ∧ (i = 6 ∨ i = 8 ∨ i = 9)) MM' (wI (wI (wI MM' 66 6 0) 66 8 1) 66 9 (MM'.1 66 17)) := ((Kp.w _ _ (by omega)).tr (Kp.w _ _ (by omega))).tr (Kp.w _ _ (by omega))
    have q6 : (wI (wI (wI MM' 66 6 0) 66 8 1) 66 9 (MM'.1 66 17)).1 66 6 = nI 0 := rfl
    have q8 : (wI (wI (wI MM' 66 6 0) 66 8 1) 66 9 (MM'.1 66 17)).1 66 8 = 1 := rfl
    have q9 : (wI (wI (wI MM' 66 6 0) 66 8 1) 66 9 (MM'.1 66 17)).1 66 9 = nI L'.length := h17
    generalize wI (wI (wI MM' 66 6 0) 66 8 1) 66 9 (MM'.1 66 17) = M13 at *
    obtain ⟨M14, c1, K14, c2, -⟩ := cpA h60 L'.length 0 FU M13 (by omega) (fu_lt (by omega)) q9
    have q16 : M14.1 66 16 = nI (flM L').length := by
      rw [K14.1 66 16 (by unfold PcpA; omega), K13.1 66 16 (by omega)]
      exact R.2.2.2.2.2.2.2.1
    obtain ⟨M15, c3, K15, c4, -⟩ := cpB (n := (flM L').length) (by omega) (flM L').length 0 FU M14 (by omega) (fu_lt (by omega)) q16
    have J' : fMd_law_J46 MM' 1 = some (1, M15) := by
      rw [J, show (0 : Int32) = nI 0 from rfl, c1, Option.bind_some, c3, Option.bind_some]
    have KG : Kp PmN M1 MM' := (G0_kp M1).tr b4
    -- what the last memory holds
    have f1 : ∀ a i, ¬ (72 ≤ a ∧ a ≤ 75) → ¬ (a = 66 ∧ (i = 6 ∨ i = 8 ∨ i = 9)) → M15.1 a i = MM'.1 a i := fun a i g1 g2 => by
      rw [K15.1 a i (by unfold PcpB; omega), K14.1 a i (by unfold PcpA; omega), K13.1 a i (by omega)]
    have f2 : ∀ a i, ¬ PT2 D a i → M15.1 a i = M.1 a i := fun a i h => by
      rw [f1 a i (by unfold PT2 at h; omega) (by unfold PT2 at h; omega), KG.1 a i (by unfold PT2 at h; unfold PmN; omega), k1 a i (by unfold PT2 at h; omega), KC.1 a i (by unfold PT2 at h; unfold PcL; omega)]
    have f3 : ∀ i, i < L'.length → M15.1 72 i = MM'.1 76 i ∧ M15.1 73 i = MM'.1 77 i ∧ M15.1 74 i = MM'.1 78 i := fun i hi => by
      obtain ⟨w1, w2, w3⟩ := c2 i (by omega) hi
      rw [K15.1 72 i (by unfold PcpB; omega), K15.1 73 i (by unfold PcpB; omega), K15.1 74 i (by unfold PcpB; omega), w1, w2, w3, K13.1 76 i (by omega), K13.1 77 i (by omega), K13.1 78 i (by omega)]
      exact ⟨rfl, rfl, rfl⟩
    have f4 : ∀ j, j < (flM L').length → M15.1 75 j = MM'.1 79 j := fun j hj => by
      rw [c4 j (by omega) hj, K14.1 79 j (by unfold PcpA; omega), K13.1 79 j (by omega)]
    have f5 : M15.2 = M1.2 := K15.2.trans (K14.2.trans (K13.2.trans KG.2))
    have f6 : M15.1 66 6 = nI 0 := by rw [K15.1 66 6 (by unfold PcpB; omega), K14.1 66 6 (by unfold PcpA; omega)]; exact q6
    have f8 : M15.1 66 8 = 1 := by rw [K15.1 66 8 (by unfold PcpB; omega), K14.1 66 8 (by unfold PcpA; omega)]; exact q8
    have f9 : M15.1 66 9 = nI L'.length := by rw [K15.1 66 9 (by unfold PcpB; omega), K14.1 66 9 (by unfold PcpA; omega)]; exact q9
    have f70 : M15.1 7 0 = nI 0 := by rw [f1 7 0 (by omega) (by omega), KG.1 7 0 (by unfold PmN; omega)]; exact m70
    have f76 : M15.1 7 6 = nI (flC 0 L').length := by rw [f1 7 6 (by omega) (by omega), KG.1 7 6 (by unfold PmN; omega), m76]; exact R.2.2.2.2.1
    have fD : ∀ j, M15.1 D j = MC.1 D j := fun j => by rw [f1 D j (by omega) (by omega), KG.1 D j (by unfold PmN; omega), k1 D j (by omega)]
    have f22 : M15.2.2 = (S, D) := by rw [f5]; exact m22
    refine ⟨1, M1, M15, eC, (law_m b2).trans J', law_fin hN hD hIm hC hB hS hZ f2 (by rw [f5]; exact m2) h9 ⟨0, by omega, f70, f6, fun i h => absurd h (by omega)⟩ ((IvL_iff M15).mpr ⟨L', ⟨?_, f76, fun j c hj => ?_⟩, ⟨?_, fun _ => ⟨f9, fun i q hi => ?_, fun j c hj => ?_⟩⟩, h60, by omega, by omega, hV⟩)⟩
    · rw [f22]; exact hsw2
    · rw [f22]
      show M15.1 D j = c
      rw [fD]
      exact R.2.2.2.2.2.1 j c hj
    · rw [f8, if_neg hne]
    · have hl : i < L'.length := by
        rcases Nat.lt_or_ge i L'.length with z | z
        · exact z
        · rw [List.getElem?_eq_none z] at hi; cases hi
      obtain ⟨w1, w2, w3⟩ := f3 i hl
      rw [w1, w2, w3]
      exact hNt i q hi
    · have hl : j < (flM L').length := by
        rcases Nat.lt_or_ge j (flM L').length with z | z
        · exact z
        · rw [List.getElem?_eq_none z] at hj; cases hj
      rw [f4 j hl]
      exact R.2.2.2.2.2.2.2.2 j c hj
